section SG14model
variable {p : Program} {l : Launch} {e : Env} {s : State} {m : MethodId} {args : Array Value} {below : List Frame} {meth : Method} {c : Code} {D : va_G} {A : Nat → Prop} {cy : Nat → ClassId}
abbrev w_Mo (cy : Nat → ClassId) (qmo : Nat → Nat) (mo : Mem) : va_W := [(qmo 0, .inr (12, [.ref (qmo 1), .ref (qmo 2), .ref (qmo 3), .int (mo 3 0), .int (mo 4 0), .int (mo 5 0), .int (mo 6 0), .int (mo 7 0), .ref (qmo 9), .int (mo 9 0), .int (mo 10 0), .int (mo 11 0), .int (mo 12 0), .ref (qmo 14), .ref (qmo 15), .ref (qmo 16), .ref (qmo 17), .ref (qmo 18), .ref (qmo 19), .ref (qmo 20), .int (mo 20 0), .int (mo 21 0)])), (qmo 1, .inl (cy 0, 1452, .inl (mo 0))), (qmo 2, .inl (cy 0, 13068, .inl (mo 1))), (qmo 3, .inl (cy 1, 320, .inl (mo 2))), (qmo 9, .inl (cy 0, 80, .inl (mo 8))), (qmo 14, .inl (cy 2, 1200, .inl (mo 13))), (qmo 15, .inl (cy 2, 20, .inl (mo 14))), (qmo 16, .inl (cy 0, 20, .inl (mo 15))), (qmo 17, .inl (cy 0, 6, .inl (mo 16))), (qmo 18, .inl (cy 0, 6, .inl (mo 17))), (qmo 19, .inl (cy 0, 6, .inl (mo 18))), (qmo 20, .inl (cy 0, 6, .inl (mo 19)))]
/-! StormSlotsModel.in(III)Z -/
def Mo_in (p0 : Int32) (p1 : Int32) (p2 : Int32) : Option (Int32) :=
  if p0 < p1 then some 0 else if p2 < p0 then some 0 else some 1
set_option maxHeartbeats 4000000 in
set_option maxRecDepth 100000 in
theorem c_X12_in (l : Launch) (D : va_G) (cy : Nat → ClassId) (p0 p1 p2 : Int32) (r : Int32) (hp : Mo_in p0 p1 p2 = some r) : RO l yX12_in cX12_in 3 (some .boolean) 0 D cy [.int p0, .int p1, .int p2] [] r := by
  refine RO_of RX12 rfl (by decide) (Nat.le_of_ble_eq_true rfl) ?_
  intro p e s m below meth c C0 hK hP ls hl
  obtain ⟨hx, hb, hr, hml, hown, hts, hk⟩ := id C0
  unfold Mo_in at hp
  have hl : lv_has ls 3 [(0, .int p0), (1, .int p1), (2, .int p2)] := hl
  refine lv_iload_n hx hb dX12_in_0 rfl (lv_at hl 0 rfl) ?_
  refine lv_iload_n hx hb dX12_in_1 rfl (lv_at hl 1 rfl) ?_
  refine lv_icmp_lt (tgt := 14) hx hb dX12_in_2 (by decide) (fun c_1 => ?_) (fun c_1 => ?_)
  · have hp := ite_p hp c_1
    refine lv_iconst (v := 0) hx hb dX12_in_14 (by decide) ?_
    exact e_ROz hx hb hr hk (Or.inl rfl) dX12_in_15 (Option.some.inj hp)
  · have hp := ite_n hp c_1
    refine lv_iload_n hx hb dX12_in_5 rfl (lv_at hl 0 rfl) ?_
    refine lv_iload_n hx hb dX12_in_6 rfl (lv_at hl 2 rfl) ?_
    refine lv_icmp_gt (tgt := 14) hx hb dX12_in_7 (by decide) (fun c_2 => ?_) (fun c_2 => ?_)
    · have hp := ite_p hp c_2
      refine lv_iconst (v := 0) hx hb dX12_in_14 (by decide) ?_
      exact e_ROz hx hb hr hk (Or.inl rfl) dX12_in_15 (Option.some.inj hp)
    · have hp := ite_n hp c_2
      refine lv_iconst (v := 1) hx hb dX12_in_10 (by decide) ?_
      refine lv_goto (tgt := 15) hx hb dX12_in_11 (by decide) ?_
      exact e_ROz hx hb hr hk (Or.inr rfl) dX12_in_15 (Option.some.inj hp)
/-! StormSlotsModel.more(II)I -/
def Mo_more (p0 : Int32) (p1 : Int32) : Option (Int32) :=
  if p0 ≤ p1 then some p1 else some p0
set_option maxHeartbeats 4000000 in
set_option maxRecDepth 100000 in
theorem c_X12_more (l : Launch) (D : va_G) (cy : Nat → ClassId) (p0 p1 : Int32) (r : Int32) (hp : Mo_more p0 p1 = some r) : RO l yX12_more cX12_more 2 (some .int) 0 D cy [.int p0, .int p1] [] r := by
  refine RO_of RX12 rfl (by decide) (Nat.le_of_ble_eq_true rfl) ?_
  intro p e s m below meth c C0 hK hP ls hl
  obtain ⟨hx, hb, hr, hml, hown, hts, hk⟩ := id C0
  unfold Mo_more at hp
  have hl : lv_has ls 2 [(0, .int p0), (1, .int p1)] := hl
  refine lv_iload_n hx hb dX12_more_0 rfl (lv_at hl 0 rfl) ?_
  refine lv_iload_n hx hb dX12_more_1 rfl (lv_at hl 1 rfl) ?_
  refine lv_icmp_le (tgt := 9) hx hb dX12_more_2 (by decide) (fun c_1 => ?_) (fun c_1 => ?_)
  · have hp := ite_p hp c_1
    refine lv_iload_n hx hb dX12_more_9 rfl (lv_at hl 1 rfl) ?_
    exact e_ROi hx hb hr hk dX12_more_10 (Option.some.inj hp)
  · have hp := ite_n hp c_1
    refine lv_iload_n hx hb dX12_more_5 rfl (lv_at hl 0 rfl) ?_
    refine lv_goto (tgt := 10) hx hb dX12_more_6 (by decide) ?_
    exact e_ROi hx hb hr hk dX12_more_10 (Option.some.inj hp)
/-! StormSlotsModel.lays(I)V -/
def Mo_lays_b2B (p1 : Int32) (k2 : Mem → Int32 → Option (Mem)) (mo : Mem) (x2 : Int32) : Option (Mem) :=
  if 1452 ≤ x2 then some mo else ckI x2 1452 (ckI ((1452 * p1) + x2) 13068 (stk (upm mo 1 ((1452 * p1) + x2).toNatClampNeg (mo 0 x2.toNatClampNeg)) (fun mo_4 => stk (x2 + 1) (fun x2_5 => k2 mo_4 x2_5))))
def Mo_lays_b2 (p1 : Int32) : Nat → Mem → Int32 → Option (Mem)
  | 0 => fun _ _ => none
  | n + 1 => Mo_lays_b2B p1 (Mo_lays_b2 p1 n)
def Mo_lays (mo : Mem) (p1 : Int32) : Option (Mem) :=
  Mo_lays_b2 p1 fl mo 0
set_option maxHeartbeats 4000000 in
set_option maxRecDepth 100000 in
theorem Mo_lays_b2B_w (C0 : cX RX12 cX12_lays none 3 p s m args meth c) (hK : kN D cy s) {qmo : Nat → Nat} {p1 : Int32} {mo' : Mem} (hA : ∀ q, s.heap.size ≤ q → A q) {k2 : Mem → Int32 → Option (Mem)} (hk2 : ∀ (mo : Mem) (x2 : Int32) (H : Heap) (locs : List Loc) (ls : Array Slot), va_P D vwCl (w_Mo cy qmo mo) H → va_D A (w_Mo cy qmo mo) → va_S A s.heap H locs → lv_has ls 3 [(0, .ref (qmo 0)), (1, .int p1), (2, .int x2)] → k2 mo x2 = some mo' → W p l e (rmD 0) s m args below meth c H locs 0 0 (qRV D below args s A (w_Mo cy qmo mo')) (F0 m 2 ls [])) {mo : Mem} {x2 : Int32} {H : Heap} {locs : List Loc} (hP : va_P D vwCl (w_Mo cy qmo mo) H) (hD : va_D A (w_Mo cy qmo mo)) (hS : va_S A s.heap H locs) {ls : Array Slot} (hl : lv_has ls 3 [(0, .ref (qmo 0)), (1, .int p1), (2, .int x2)]) (hp : Mo_lays_b2B p1 k2 mo x2 = some mo') : W p l e (rmD 0) s m args below meth c H locs 0 0 (qRV D below args s A (w_Mo cy qmo mo')) (F0 m 2 ls []) := by
  obtain ⟨hx, hb, hr, hml, hown, hts, hk⟩ := id C0
  unfold Mo_lays_b2B at hp
  refine lv_iload_n hx hb dX12_lays_2 rfl (lv_at hl 2 rfl) ?_
  refine lv_sipush (v := 1452) hx hb dX12_lays_3 (by decide) ?_
  refine lv_icmp_ge (tgt := 33) hx hb dX12_lays_6 (by decide) (fun c_1 => ?_) (fun c_1 => ?_)
  · have hp := ite_p hp c_1
    simp only [Option.some.injEq, Prod.mk.injEq] at hp
    subst hp
    exact e_RV hx hb hr hk hP hD hS dX12_lays_33
  · have hp := ite_n hp c_1
    refine lv_aload_n hx hb dX12_lays_9 rfl (lv_at hl 0 rfl) ?_
    refine gf_X12_13 hx hb hts hown hK hP 0 rfl rfl dX12_lays_10 ?_
    refine lv_sipush (v := 1452) hx hb dX12_lays_13 (by decide) ?_
    refine lv_iload_n hx hb dX12_lays_16 rfl (lv_at hl 1 rfl) ?_
    refine lv_imul hx hb dX12_lays_17 ?_
    refine lv_iload_n hx hb dX12_lays_18 rfl (lv_at hl 2 rfl) ?_
    refine lv_iadd hx hb dX12_lays_19 ?_
    refine lv_aload_n hx hb dX12_lays_20 rfl (lv_at hl 0 rfl) ?_
    refine gf_X12_7 hx hb hts hown hK hP 0 rfl rfl dX12_lays_21 ?_
    refine lv_iload_n hx hb dX12_lays_24 rfl (lv_at hl 2 rfl) ?_
    obtain ⟨hi_2, hp⟩ := ckI_s hp
    refine r_ild hx hb hK hP 1 rfl hi_2 dX12_lays_25 ?_
    obtain ⟨hi_3, hp⟩ := ckI_s hp
    obtain ⟨mo_4, emo_4⟩ : ∃ y : Mem, y = upm mo 1 ((1452 * p1) + x2).toNatClampNeg (mo 0 x2.toNatClampNeg) := ⟨_, rfl⟩
    have hp := stk_e hp emo_4
    refine r_ist hx hb hK hP hD hS (wn := (w_Mo cy qmo mo_4)) 2 rfl hi_3 (by subst emo_4; rfl) dX12_lays_26 (fun H locs hP hD hS => ?_)
    obtain ⟨x2_5, ex2_5⟩ : ∃ y : Int32, y = x2 + 1 := ⟨_, rfl⟩
    have hp := stk_e hp ex2_5
    refine lv_iinc (v := x2_5) (lv' := [(2, .int x2_5), (0, .ref (qmo 0)), (1, .int p1)]) hx hb dX12_lays_27 hl (k := 2) rfl (by rw [ex2_5]; rfl) (by decide) rfl (fun ls hl => ?_)
    refine lv_goto (tgt := 2) hx hb dX12_lays_30 (by decide) ?_
    exact hk2 mo_4 x2_5 _ _ _ hP hD hS (lv_sub hl [1, 2, 0] rfl) hp
theorem Mo_lays_b2_w (C0 : cX RX12 cX12_lays none 3 p s m args meth c) (hK : kN D cy s) {qmo : Nat → Nat} {p1 : Int32} {mo' : Mem} (hA : ∀ q, s.heap.size ≤ q → A q) : ∀ (n : Nat) (mo : Mem) (x2 : Int32) (H : Heap) (locs : List Loc) (ls : Array Slot), va_P D vwCl (w_Mo cy qmo mo) H → va_D A (w_Mo cy qmo mo) → va_S A s.heap H locs → lv_has ls 3 [(0, .ref (qmo 0)), (1, .int p1), (2, .int x2)] → Mo_lays_b2 p1 n mo x2 = some mo' → W p l e (rmD 0) s m args below meth c H locs 0 0 (qRV D below args s A (w_Mo cy qmo mo')) (F0 m 2 ls []) := by
  intro n
  induction n with
  | zero =>
    intro mo x2 H locs ls hP hD hS hl hp
    cases hp
  | succ n ih =>
    intro mo x2 H locs ls hP hD hS hl hp
    exact Mo_lays_b2B_w C0 hK hA  (fun mo x2 H locs ls hP hD hS hl hp => ih mo x2 H locs ls hP hD hS hl hp) hP hD hS hl hp
set_option maxHeartbeats 4000000 in
set_option maxRecDepth 100000 in
theorem c_X12_lays (l : Launch) (D : va_G) (cy : Nat → ClassId) (qmo : Nat → Nat) (mo : Mem) (p1 : Int32) (mo' : Mem) (hp : Mo_lays mo p1 = some mo') : RV l yX12_lays cX12_lays 3 0 D cy [.ref (qmo 0), .int p1] (w_Mo cy qmo mo) (w_Mo cy qmo mo') := by
  refine RV_of RX12 rfl (by decide) (Nat.le_of_ble_eq_true rfl) ?_
  intro p e s m below meth c A C0 hK hP hD hS hA ls hl
  obtain ⟨hx, hb, hr, hml, hown, hts, hk⟩ := id C0
  unfold Mo_lays at hp
  have hl : lv_has ls 3 [(0, .ref (qmo 0)), (1, .int p1)] := hl
  refine lv_iconst (v := 0) hx hb dX12_lays_0 (by decide) ?_
  refine lv_istore_n (lv' := [(2, .int 0), (0, .ref (qmo 0)), (1, .int p1)]) hx hb dX12_lays_1 rfl hl (by decide) rfl (fun ls hl => ?_)
  exact Mo_lays_b2_w C0 hK hA  fl mo 0 _ _ _ hP hD hS (lv_sub hl [1, 2, 0] rfl) hp
/-! StormSlotsModel.takes(I)V -/
def Mo_takes_b2B (p1 : Int32) (k2 : Mem → Int32 → Option (Mem)) (mo : Mem) (x2 : Int32) : Option (Mem) :=
  if 1452 ≤ x2 then some mo else ckI ((1452 * p1) + x2) 13068 (ckI x2 1452 (stk (upm mo 0 x2.toNatClampNeg (mo 1 ((1452 * p1) + x2).toNatClampNeg)) (fun mo_4 => stk (x2 + 1) (fun x2_5 => k2 mo_4 x2_5))))
def Mo_takes_b2 (p1 : Int32) : Nat → Mem → Int32 → Option (Mem)
  | 0 => fun _ _ => none
  | n + 1 => Mo_takes_b2B p1 (Mo_takes_b2 p1 n)
def Mo_takes (mo : Mem) (p1 : Int32) : Option (Mem) :=
  Mo_takes_b2 p1 fl mo 0
set_option maxHeartbeats 4000000 in
set_option maxRecDepth 100000 in
theorem Mo_takes_b2B_w (C0 : cX RX12 cX12_takes none 3 p s m args meth c) (hK : kN D cy s) {qmo : Nat → Nat} {p1 : Int32} {mo' : Mem} (hA : ∀ q, s.heap.size ≤ q → A q) {k2 : Mem → Int32 → Option (Mem)} (hk2 : ∀ (mo : Mem) (x2 : Int32) (H : Heap) (locs : List Loc) (ls : Array Slot), va_P D vwCl (w_Mo cy qmo mo) H → va_D A (w_Mo cy qmo mo) → va_S A s.heap H locs → lv_has ls 3 [(0, .ref (qmo 0)), (1, .int p1), (2, .int x2)] → k2 mo x2 = some mo' → W p l e (rmD 0) s m args below meth c H locs 0 0 (qRV D below args s A (w_Mo cy qmo mo')) (F0 m 2 ls [])) {mo : Mem} {x2 : Int32} {H : Heap} {locs : List Loc} (hP : va_P D vwCl (w_Mo cy qmo mo) H) (hD : va_D A (w_Mo cy qmo mo)) (hS : va_S A s.heap H locs) {ls : Array Slot} (hl : lv_has ls 3 [(0, .ref (qmo 0)), (1, .int p1), (2, .int x2)]) (hp : Mo_takes_b2B p1 k2 mo x2 = some mo') : W p l e (rmD 0) s m args below meth c H locs 0 0 (qRV D below args s A (w_Mo cy qmo mo')) (F0 m 2 ls []) := by
  obtain ⟨hx, hb, hr, hml, hown, hts, hk⟩ := id C0
  unfold Mo_takes_b2B at hp
  refine lv_iload_n hx hb dX12_takes_2 rfl (lv_at hl 2 rfl) ?_
  refine lv_sipush (v := 1452) hx hb dX12_takes_3 (by decide) ?_
  refine lv_icmp_ge (tgt := 33) hx hb dX12_takes_6 (by decide) (fun c_1 => ?_) (fun c_1 => ?_)
  · have hp := ite_p hp c_1
    simp only [Option.some.injEq, Prod.mk.injEq] at hp
    subst hp
    exact e_RV hx hb hr hk hP hD hS dX12_takes_33
  · have hp := ite_n hp c_1
    refine lv_aload_n hx hb dX12_takes_9 rfl (lv_at hl 0 rfl) ?_
    refine gf_X12_7 hx hb hts hown hK hP 0 rfl rfl dX12_takes_10 ?_
    refine lv_iload_n hx hb dX12_takes_13 rfl (lv_at hl 2 rfl) ?_
    refine lv_aload_n hx hb dX12_takes_14 rfl (lv_at hl 0 rfl) ?_
    refine gf_X12_13 hx hb hts hown hK hP 0 rfl rfl dX12_takes_15 ?_
    refine lv_sipush (v := 1452) hx hb dX12_takes_18 (by decide) ?_
    refine lv_iload_n hx hb dX12_takes_21 rfl (lv_at hl 1 rfl) ?_
    refine lv_imul hx hb dX12_takes_22 ?_
    refine lv_iload_n hx hb dX12_takes_23 rfl (lv_at hl 2 rfl) ?_
    refine lv_iadd hx hb dX12_takes_24 ?_
    obtain ⟨hi_2, hp⟩ := ckI_s hp
    refine r_ild hx hb hK hP 2 rfl hi_2 dX12_takes_25 ?_
    obtain ⟨hi_3, hp⟩ := ckI_s hp
    obtain ⟨mo_4, emo_4⟩ : ∃ y : Mem, y = upm mo 0 x2.toNatClampNeg (mo 1 ((1452 * p1) + x2).toNatClampNeg) := ⟨_, rfl⟩
    have hp := stk_e hp emo_4
    refine r_ist hx hb hK hP hD hS (wn := (w_Mo cy qmo mo_4)) 1 rfl hi_3 (by subst emo_4; rfl) dX12_takes_26 (fun H locs hP hD hS => ?_)
    obtain ⟨x2_5, ex2_5⟩ : ∃ y : Int32, y = x2 + 1 := ⟨_, rfl⟩
    have hp := stk_e hp ex2_5
    refine lv_iinc (v := x2_5) (lv' := [(2, .int x2_5), (0, .ref (qmo 0)), (1, .int p1)]) hx hb dX12_takes_27 hl (k := 2) rfl (by rw [ex2_5]; rfl) (by decide) rfl (fun ls hl => ?_)
    refine lv_goto (tgt := 2) hx hb dX12_takes_30 (by decide) ?_
    exact hk2 mo_4 x2_5 _ _ _ hP hD hS (lv_sub hl [1, 2, 0] rfl) hp
theorem Mo_takes_b2_w (C0 : cX RX12 cX12_takes none 3 p s m args meth c) (hK : kN D cy s) {qmo : Nat → Nat} {p1 : Int32} {mo' : Mem} (hA : ∀ q, s.heap.size ≤ q → A q) : ∀ (n : Nat) (mo : Mem) (x2 : Int32) (H : Heap) (locs : List Loc) (ls : Array Slot), va_P D vwCl (w_Mo cy qmo mo) H → va_D A (w_Mo cy qmo mo) → va_S A s.heap H locs → lv_has ls 3 [(0, .ref (qmo 0)), (1, .int p1), (2, .int x2)] → Mo_takes_b2 p1 n mo x2 = some mo' → W p l e (rmD 0) s m args below meth c H locs 0 0 (qRV D below args s A (w_Mo cy qmo mo')) (F0 m 2 ls []) := by
  intro n
  induction n with
  | zero =>
    intro mo x2 H locs ls hP hD hS hl hp
    cases hp
  | succ n ih =>
    intro mo x2 H locs ls hP hD hS hl hp
    exact Mo_takes_b2B_w C0 hK hA  (fun mo x2 H locs ls hP hD hS hl hp => ih mo x2 H locs ls hP hD hS hl hp) hP hD hS hl hp
set_option maxHeartbeats 4000000 in
set_option maxRecDepth 100000 in
theorem c_X12_takes (l : Launch) (D : va_G) (cy : Nat → ClassId) (qmo : Nat → Nat) (mo : Mem) (p1 : Int32) (mo' : Mem) (hp : Mo_takes mo p1 = some mo') : RV l yX12_takes cX12_takes 3 0 D cy [.ref (qmo 0), .int p1] (w_Mo cy qmo mo) (w_Mo cy qmo mo') := by
  refine RV_of RX12 rfl (by decide) (Nat.le_of_ble_eq_true rfl) ?_
  intro p e s m below meth c A C0 hK hP hD hS hA ls hl
  obtain ⟨hx, hb, hr, hml, hown, hts, hk⟩ := id C0
  unfold Mo_takes at hp
  have hl : lv_has ls 3 [(0, .ref (qmo 0)), (1, .int p1)] := hl
  refine lv_iconst (v := 0) hx hb dX12_takes_0 (by decide) ?_
  refine lv_istore_n (lv' := [(2, .int 0), (0, .ref (qmo 0)), (1, .int p1)]) hx hb dX12_takes_1 rfl hl (by decide) rfl (fun ls hl => ?_)
  exact Mo_takes_b2_w C0 hK hA  fl mo 0 _ _ _ hP hD hS (lv_sub hl [1, 2, 0] rfl) hp
/-! StormSlotsModel.of(II)I -/
def Mo_of (mo : Mem) (p1 : Int32) (p2 : Int32) : Option (Int32) :=
  ckI ((8 * p1) + p2) 1452 (some (mo 0 ((8 * p1) + p2).toNatClampNeg))
set_option maxHeartbeats 4000000 in
set_option maxRecDepth 100000 in
theorem c_X12_of (l : Launch) (D : va_G) (cy : Nat → ClassId) (qmo : Nat → Nat) (mo : Mem) (p1 p2 : Int32) (r : Int32) (hp : Mo_of mo p1 p2 = some r) : RO l yX12_of cX12_of 3 (some .int) 0 D cy [.ref (qmo 0), .int p1, .int p2] (w_Mo cy qmo mo) r := by
  refine RO_of RX12 rfl (by decide) (Nat.le_of_ble_eq_true rfl) ?_
  intro p e s m below meth c C0 hK hP ls hl
  obtain ⟨hx, hb, hr, hml, hown, hts, hk⟩ := id C0
  unfold Mo_of at hp
  have hl : lv_has ls 3 [(0, .ref (qmo 0)), (1, .int p1), (2, .int p2)] := hl
  refine lv_aload_n hx hb dX12_of_0 rfl (lv_at hl 0 rfl) ?_
  refine gf_X12_7 hx hb hts hown hK hP 0 rfl rfl dX12_of_1 ?_
  refine lv_bipush (v := 8) hx hb dX12_of_4 (by decide) ?_
  refine lv_iload_n hx hb dX12_of_6 rfl (lv_at hl 1 rfl) ?_
  refine lv_imul hx hb dX12_of_7 ?_
  refine lv_iload_n hx hb dX12_of_8 rfl (lv_at hl 2 rfl) ?_
  refine lv_iadd hx hb dX12_of_9 ?_
  obtain ⟨hi_1, hp⟩ := ckI_s hp
  refine r_ild hx hb hK hP 1 rfl hi_1 dX12_of_10 ?_
  exact e_ROi hx hb hr hk dX12_of_11 (Option.some.inj hp)
/-! StormSlotsModel.sets(III)V -/
def Mo_sets (mo : Mem) (p1 : Int32) (p2 : Int32) (p3 : Int32) : Option (Mem) :=
  ckI ((8 * p1) + p2) 1452 (stk (upm mo 0 ((8 * p1) + p2).toNatClampNeg p3) (fun mo_2 => some mo_2))
set_option maxHeartbeats 4000000 in
set_option maxRecDepth 100000 in
theorem c_X12_sets (l : Launch) (D : va_G) (cy : Nat → ClassId) (qmo : Nat → Nat) (mo : Mem) (p1 p2 p3 : Int32) (mo' : Mem) (hp : Mo_sets mo p1 p2 p3 = some mo') : RV l yX12_sets cX12_sets 4 0 D cy [.ref (qmo 0), .int p1, .int p2, .int p3] (w_Mo cy qmo mo) (w_Mo cy qmo mo') := by
  refine RV_of RX12 rfl (by decide) (Nat.le_of_ble_eq_true rfl) ?_
  intro p e s m below meth c A C0 hK hP hD hS hA ls hl
  obtain ⟨hx, hb, hr, hml, hown, hts, hk⟩ := id C0
  unfold Mo_sets at hp
  have hl : lv_has ls 4 [(0, .ref (qmo 0)), (1, .int p1), (2, .int p2), (3, .int p3)] := hl
  refine lv_aload_n hx hb dX12_sets_0 rfl (lv_at hl 0 rfl) ?_
  refine gf_X12_7 hx hb hts hown hK hP 0 rfl rfl dX12_sets_1 ?_
  refine lv_bipush (v := 8) hx hb dX12_sets_4 (by decide) ?_
  refine lv_iload_n hx hb dX12_sets_6 rfl (lv_at hl 1 rfl) ?_
  refine lv_imul hx hb dX12_sets_7 ?_
  refine lv_iload_n hx hb dX12_sets_8 rfl (lv_at hl 2 rfl) ?_
  refine lv_iadd hx hb dX12_sets_9 ?_
  refine lv_iload_n hx hb dX12_sets_10 rfl (lv_at hl 3 rfl) ?_
  obtain ⟨hi_1, hp⟩ := ckI_s hp
  obtain ⟨mo_2, emo_2⟩ : ∃ y : Mem, y = upm mo 0 ((8 * p1) + p2).toNatClampNeg p3 := ⟨_, rfl⟩
  have hp := stk_e hp emo_2
  refine r_ist hx hb hK hP hD hS (wn := (w_Mo cy qmo mo_2)) 1 rfl hi_1 (by subst emo_2; rfl) dX12_sets_11 (fun H locs hP hD hS => ?_)
  simp only [Option.some.injEq, Prod.mk.injEq] at hp
  subst hp
  exact e_RV hx hb hr hk hP hD hS dX12_sets_12
/-! StormSlotsModel.isFlight(I)Z -/
def Mo_isFlight (mo : Mem) (p1 : Int32) : Option (Int32) :=
  ckI 173 1452 (bn1 (Mo_in p1 0 ((mo 0 (173 : Int32).toNatClampNeg) - 1)) (fun r_3 => ckB r_3 (some r_3)))
set_option maxHeartbeats 4000000 in
set_option maxRecDepth 100000 in
theorem c_X12_isFlight (l : Launch) (D : va_G) (cy : Nat → ClassId) (qmo : Nat → Nat) (mo : Mem) (p1 : Int32) (r : Int32) (hp : Mo_isFlight mo p1 = some r) : RO l yX12_isFlight cX12_isFlight 2 (some .boolean) 1 D cy [.ref (qmo 0), .int p1] (w_Mo cy qmo mo) r := by
  refine RO_of RX12 rfl (by decide) (Nat.le_of_ble_eq_true rfl) ?_
  intro p e s m below meth c C0 hK hP ls hl
  obtain ⟨hx, hb, hr, hml, hown, hts, hk⟩ := id C0
  unfold Mo_isFlight at hp
  have hl : lv_has ls 2 [(0, .ref (qmo 0)), (1, .int p1)] := hl
  refine lv_iload_n hx hb dX12_isFlight_0 rfl (lv_at hl 1 rfl) ?_
  refine lv_iconst (v := 0) hx hb dX12_isFlight_1 (by decide) ?_
  refine lv_aload_n hx hb dX12_isFlight_2 rfl (lv_at hl 0 rfl) ?_
  refine gf_X12_7 hx hb hts hown hK hP 0 rfl rfl dX12_isFlight_3 ?_
  refine lv_sipush (v := 173) hx hb dX12_isFlight_6 (by decide) ?_
  obtain ⟨hi_1, hp⟩ := ckI_s hp
  refine r_ild hx hb hK hP 1 rfl hi_1 dX12_isFlight_9 ?_
  refine lv_iconst (v := 1) hx hb dX12_isFlight_10 (by decide) ?_
  refine lv_isub hx hb dX12_isFlight_11 ?_
  obtain ⟨r_3, hc_2, hp⟩ := bn1_s hp
  refine k_ROS (As := [.int p1, .int 0, .int ((mo 0 (173 : Int32).toNatClampNeg) - 1)]) (rest := []) ⟨hx, hb, hml, hown, hts⟩ hK (show va_P D vwCl [] _ from fun k q h => by simp at h) (cw_X12_45 hts ⟨Nat.le_of_ble_eq_true rfl, Nat.le_of_ble_eq_true rfl⟩) (c_X12_in l D cy p1 0 ((mo 0 (173 : Int32).toNatClampNeg) - 1) r_3 hc_2) rfl hl.1 (Nat.le_of_ble_eq_true rfl) ⟨Nat.le_refl _, Nat.le_refl _⟩ dX12_isFlight_12 ?_
  obtain ⟨hz_4, hp⟩ := ckB_s hp
  exact e_ROz hx hb hr hk hz_4 dX12_isFlight_15 (Option.some.inj hp)
/-! StormSlotsModel.isLine(I)Z -/
def Mo_isLine (p0 : Int32) : Option (Int32) :=
  bn1 (Mo_in p0 0 4) (fun r_2 => ckB r_2 (some r_2))
set_option maxHeartbeats 4000000 in
set_option maxRecDepth 100000 in
theorem c_X12_isLine (l : Launch) (D : va_G) (cy : Nat → ClassId) (p0 : Int32) (r : Int32) (hp : Mo_isLine p0 = some r) : RO l yX12_isLine cX12_isLine 1 (some .boolean) 1 D cy [.int p0] [] r := by
  refine RO_of RX12 rfl (by decide) (Nat.le_of_ble_eq_true rfl) ?_
  intro p e s m below meth c C0 hK hP ls hl
  obtain ⟨hx, hb, hr, hml, hown, hts, hk⟩ := id C0
  unfold Mo_isLine at hp
  have hl : lv_has ls 1 [(0, .int p0)] := hl
  refine lv_iload_n hx hb dX12_isLine_0 rfl (lv_at hl 0 rfl) ?_
  refine lv_iconst (v := 0) hx hb dX12_isLine_1 (by decide) ?_
  refine lv_iconst (v := 4) hx hb dX12_isLine_2 (by decide) ?_
  obtain ⟨r_2, hc_1, hp⟩ := bn1_s hp
  refine k_ROS (As := [.int p0, .int 0, .int 4]) (rest := []) ⟨hx, hb, hml, hown, hts⟩ hK (show va_P D vwCl [] _ from fun k q h => by simp at h) (cw_X12_45 hts ⟨Nat.le_of_ble_eq_true rfl, Nat.le_of_ble_eq_true rfl⟩) (c_X12_in l D cy p0 0 4 r_2 hc_1) rfl hl.1 (Nat.le_of_ble_eq_true rfl) ⟨Nat.le_refl _, Nat.le_refl _⟩ dX12_isLine_3 ?_
  obtain ⟨hz_3, hp⟩ := ckB_s hp
  exact e_ROz hx hb hr hk hz_3 dX12_isLine_6 (Option.some.inj hp)
/-! StormSlotsModel.isMinute(I)Z -/
def Mo_isMinute (p0 : Int32) : Option (Int32) :=
  bn1 (Mo_in p0 0 1199) (fun r_2 => ckB r_2 (some r_2))
set_option maxHeartbeats 4000000 in
set_option maxRecDepth 100000 in
theorem c_X12_isMinute (l : Launch) (D : va_G) (cy : Nat → ClassId) (p0 : Int32) (r : Int32) (hp : Mo_isMinute p0 = some r) : RO l yX12_isMinute cX12_isMinute 1 (some .boolean) 1 D cy [.int p0] [] r := by
  refine RO_of RX12 rfl (by decide) (Nat.le_of_ble_eq_true rfl) ?_
  intro p e s m below meth c C0 hK hP ls hl
  obtain ⟨hx, hb, hr, hml, hown, hts, hk⟩ := id C0
  unfold Mo_isMinute at hp
  have hl : lv_has ls 1 [(0, .int p0)] := hl
  refine lv_iload_n hx hb dX12_isMinute_0 rfl (lv_at hl 0 rfl) ?_
  refine lv_iconst (v := 0) hx hb dX12_isMinute_1 (by decide) ?_
  refine lv_sipush (v := 1199) hx hb dX12_isMinute_2 (by decide) ?_
  obtain ⟨r_2, hc_1, hp⟩ := bn1_s hp
  refine k_ROS (As := [.int p0, .int 0, .int 1199]) (rest := []) ⟨hx, hb, hml, hown, hts⟩ hK (show va_P D vwCl [] _ from fun k q h => by simp at h) (cw_X12_45 hts ⟨Nat.le_of_ble_eq_true rfl, Nat.le_of_ble_eq_true rfl⟩) (c_X12_in l D cy p0 0 1199 r_2 hc_1) rfl hl.1 (Nat.le_of_ble_eq_true rfl) ⟨Nat.le_refl _, Nat.le_refl _⟩ dX12_isMinute_5 ?_
  obtain ⟨hz_3, hp⟩ := ckB_s hp
  exact e_ROz hx hb hr hk hz_3 dX12_isMinute_8 (Option.some.inj hp)
/-! StormSlotsModel.areHours(II)Z -/
def Mo_areHours (p0 : Int32) (p1 : Int32) : Option (Int32) :=
  bn1 (Mo_in p0 0 11) (fun r_2 => if r_2 = 0 then some 0 else bn1 (Mo_in p1 p0 11) (fun r_5 => if r_5 = 0 then some 0 else some 1))
set_option maxHeartbeats 4000000 in
set_option maxRecDepth 100000 in
theorem c_X12_areHours (l : Launch) (D : va_G) (cy : Nat → ClassId) (p0 p1 : Int32) (r : Int32) (hp : Mo_areHours p0 p1 = some r) : RO l yX12_areHours cX12_areHours 2 (some .boolean) 1 D cy [.int p0, .int p1] [] r := by
  refine RO_of RX12 rfl (by decide) (Nat.le_of_ble_eq_true rfl) ?_
  intro p e s m below meth c C0 hK hP ls hl
  obtain ⟨hx, hb, hr, hml, hown, hts, hk⟩ := id C0
  unfold Mo_areHours at hp
  have hl : lv_has ls 2 [(0, .int p0), (1, .int p1)] := hl
  refine lv_iload_n hx hb dX12_areHours_0 rfl (lv_at hl 0 rfl) ?_
  refine lv_iconst (v := 0) hx hb dX12_areHours_1 (by decide) ?_
  refine lv_bipush (v := 11) hx hb dX12_areHours_2 (by decide) ?_
  obtain ⟨r_2, hc_1, hp⟩ := bn1_s hp
  refine k_ROS (As := [.int p0, .int 0, .int 11]) (rest := []) ⟨hx, hb, hml, hown, hts⟩ hK (show va_P D vwCl [] _ from fun k q h => by simp at h) (cw_X12_45 hts ⟨Nat.le_of_ble_eq_true rfl, Nat.le_of_ble_eq_true rfl⟩) (c_X12_in l D cy p0 0 11 r_2 hc_1) rfl hl.1 (Nat.le_of_ble_eq_true rfl) ⟨Nat.le_refl _, Nat.le_refl _⟩ dX12_areHours_4 ?_
  refine lv_if_eq (tgt := 24) hx hb dX12_areHours_7 (by decide) (fun c_3 => ?_) (fun c_3 => ?_)
  · have hp := ite_p hp c_3
    refine lv_iconst (v := 0) hx hb dX12_areHours_24 (by decide) ?_
    exact e_ROz hx hb hr hk (Or.inl rfl) dX12_areHours_25 (Option.some.inj hp)
  · have hp := ite_n hp c_3
    refine lv_iload_n hx hb dX12_areHours_10 rfl (lv_at hl 1 rfl) ?_
    refine lv_iload_n hx hb dX12_areHours_11 rfl (lv_at hl 0 rfl) ?_
    refine lv_bipush (v := 11) hx hb dX12_areHours_12 (by decide) ?_
    obtain ⟨r_5, hc_4, hp⟩ := bn1_s hp
    refine k_ROS (As := [.int p1, .int p0, .int 11]) (rest := []) ⟨hx, hb, hml, hown, hts⟩ hK (show va_P D vwCl [] _ from fun k q h => by simp at h) (cw_X12_45 hts ⟨Nat.le_of_ble_eq_true rfl, Nat.le_of_ble_eq_true rfl⟩) (c_X12_in l D cy p1 p0 11 r_5 hc_4) rfl hl.1 (Nat.le_of_ble_eq_true rfl) ⟨Nat.le_refl _, Nat.le_refl _⟩ dX12_areHours_14 ?_
    refine lv_if_eq (tgt := 24) hx hb dX12_areHours_17 (by decide) (fun c_6 => ?_) (fun c_6 => ?_)
    · have hp := ite_p hp c_6
      refine lv_iconst (v := 0) hx hb dX12_areHours_24 (by decide) ?_
      exact e_ROz hx hb hr hk (Or.inl rfl) dX12_areHours_25 (Option.some.inj hp)
    · have hp := ite_n hp c_6
      refine lv_iconst (v := 1) hx hb dX12_areHours_20 (by decide) ?_
      refine lv_goto (tgt := 25) hx hb dX12_areHours_21 (by decide) ?_
      exact e_ROz hx hb hr hk (Or.inr rfl) dX12_areHours_25 (Option.some.inj hp)
/-! StormSlotsModel.typed4(I)V -/
def Mo_typed4_b2B (p1 : Int32) (k2 : Mem → Int32 → Option (Mem)) (mo : Mem) (x2 : Int32) : Option (Mem) :=
  if x2 < 0 then some mo else ckI (mo 3 0) 320 (stk (upm mo 2 (mo 3 0).toNatClampNeg (vp_nar .byte (((p1 >>> ((8 * x2) &&& 31))).toInt8.toInt32))) (fun mo_3 => stk (upm mo_3 3 0 ((mo_3 3 0) + 1)) (fun mo_4 => stk (x2 + (-1)) (fun x2_5 => k2 mo_4 x2_5))))
def Mo_typed4_b2 (p1 : Int32) : Nat → Mem → Int32 → Option (Mem)
  | 0 => fun _ _ => none
  | n + 1 => Mo_typed4_b2B p1 (Mo_typed4_b2 p1 n)
def Mo_typed4 (mo : Mem) (p1 : Int32) : Option (Mem) :=
  Mo_typed4_b2 p1 fl mo 3
set_option maxHeartbeats 4000000 in
set_option maxRecDepth 100000 in
theorem Mo_typed4_b2B_w (C0 : cX RX12 cX12_typed4 none 3 p s m args meth c) (hK : kN D cy s) {qmo : Nat → Nat} {p1 : Int32} {mo' : Mem} (hA : ∀ q, s.heap.size ≤ q → A q) {k2 : Mem → Int32 → Option (Mem)} (hk2 : ∀ (mo : Mem) (x2 : Int32) (H : Heap) (locs : List Loc) (ls : Array Slot), va_P D vwCl (w_Mo cy qmo mo) H → va_D A (w_Mo cy qmo mo) → va_S A s.heap H locs → lv_has ls 3 [(0, .ref (qmo 0)), (1, .int p1), (2, .int x2)] → k2 mo x2 = some mo' → W p l e (rmD 0) s m args below meth c H locs 0 0 (qRV D below args s A (w_Mo cy qmo mo')) (F0 m 2 ls [])) {mo : Mem} {x2 : Int32} {H : Heap} {locs : List Loc} (hP : va_P D vwCl (w_Mo cy qmo mo) H) (hD : va_D A (w_Mo cy qmo mo)) (hS : va_S A s.heap H locs) {ls : Array Slot} (hl : lv_has ls 3 [(0, .ref (qmo 0)), (1, .int p1), (2, .int x2)]) (hp : Mo_typed4_b2B p1 k2 mo x2 = some mo') : W p l e (rmD 0) s m args below meth c H locs 0 0 (qRV D below args s A (w_Mo cy qmo mo')) (F0 m 2 ls []) := by
  obtain ⟨hx, hb, hr, hml, hown, hts, hk⟩ := id C0
  unfold Mo_typed4_b2B at hp
  refine lv_iload_n hx hb dX12_typed4_2 rfl (lv_at hl 2 rfl) ?_
  refine lv_if_lt (tgt := 38) hx hb dX12_typed4_3 (by decide) (fun c_1 => ?_) (fun c_1 => ?_)
  · have hp := ite_p hp c_1
    simp only [Option.some.injEq, Prod.mk.injEq] at hp
    subst hp
    exact e_RV hx hb hr hk hP hD hS dX12_typed4_38
  · have hp := ite_n hp c_1
    refine lv_aload_n hx hb dX12_typed4_6 rfl (lv_at hl 0 rfl) ?_
    refine gf_X12_16 hx hb hts hown hK hP 0 rfl rfl dX12_typed4_7 ?_
    refine lv_aload_n hx hb dX12_typed4_10 rfl (lv_at hl 0 rfl) ?_
    refine gf_X12_49 hx hb hts hown hK hP 0 rfl rfl dX12_typed4_11 ?_
    refine lv_iload_n hx hb dX12_typed4_14 rfl (lv_at hl 1 rfl) ?_
    refine lv_bipush (v := 8) hx hb dX12_typed4_15 (by decide) ?_
    refine lv_iload_n hx hb dX12_typed4_17 rfl (lv_at hl 2 rfl) ?_
    refine lv_imul hx hb dX12_typed4_18 ?_
    refine lv_ishr hx hb dX12_typed4_19 ?_
    refine lv_i2b hx hb dX12_typed4_20 rfl ?_
    obtain ⟨hi_2, hp⟩ := ckI_s hp
    obtain ⟨mo_3, emo_3⟩ : ∃ y : Mem, y = upm mo 2 (mo 3 0).toNatClampNeg (vp_nar .byte (((p1 >>> ((8 * x2) &&& 31))).toInt8.toInt32)) := ⟨_, rfl⟩
    have hp := stk_e hp emo_3
    refine r_bst hx hb hK hP hD hS (wn := (w_Mo cy qmo mo_3)) 3 rfl hi_2 (by subst emo_3; rfl) dX12_typed4_21 (fun H locs hP hD hS => ?_)
    refine lv_aload_n hx hb dX12_typed4_22 rfl (lv_at hl 0 rfl) ?_
    refine lv_aload_n hx hb dX12_typed4_23 rfl (lv_at hl 0 rfl) ?_
    refine gf_X12_49 hx hb hts hown hK hP 0 rfl rfl dX12_typed4_24 ?_
    refine lv_iconst (v := 1) hx hb dX12_typed4_27 (by decide) ?_
    refine lv_iadd hx hb dX12_typed4_28 ?_
    obtain ⟨mo_4, emo_4⟩ : ∃ y : Mem, y = upm mo_3 3 0 ((mo_3 3 0) + 1) := ⟨_, rfl⟩
    have hp := stk_e hp emo_4
    refine pf_X12_49 hx hb hts hown hK hP hD hS (wn := (w_Mo cy qmo mo_4)) 0 rfl (Nat.le_of_ble_eq_true rfl) (by subst emo_4; rfl) dX12_typed4_29 (fun H locs hP hD hS => ?_)
    obtain ⟨x2_5, ex2_5⟩ : ∃ y : Int32, y = x2 + (-1) := ⟨_, rfl⟩
    have hp := stk_e hp ex2_5
    refine lv_iinc (v := x2_5) (lv' := [(2, .int x2_5), (0, .ref (qmo 0)), (1, .int p1)]) hx hb dX12_typed4_32 hl (k := 2) rfl (by rw [ex2_5]; rfl) (by decide) rfl (fun ls hl => ?_)
    refine lv_goto (tgt := 2) hx hb dX12_typed4_35 (by decide) ?_
    exact hk2 mo_4 x2_5 _ _ _ hP hD hS (lv_sub hl [1, 2, 0] rfl) hp
theorem Mo_typed4_b2_w (C0 : cX RX12 cX12_typed4 none 3 p s m args meth c) (hK : kN D cy s) {qmo : Nat → Nat} {p1 : Int32} {mo' : Mem} (hA : ∀ q, s.heap.size ≤ q → A q) : ∀ (n : Nat) (mo : Mem) (x2 : Int32) (H : Heap) (locs : List Loc) (ls : Array Slot), va_P D vwCl (w_Mo cy qmo mo) H → va_D A (w_Mo cy qmo mo) → va_S A s.heap H locs → lv_has ls 3 [(0, .ref (qmo 0)), (1, .int p1), (2, .int x2)] → Mo_typed4_b2 p1 n mo x2 = some mo' → W p l e (rmD 0) s m args below meth c H locs 0 0 (qRV D below args s A (w_Mo cy qmo mo')) (F0 m 2 ls []) := by
  intro n
  induction n with
  | zero =>
    intro mo x2 H locs ls hP hD hS hl hp
    cases hp
  | succ n ih =>
    intro mo x2 H locs ls hP hD hS hl hp
    exact Mo_typed4_b2B_w C0 hK hA  (fun mo x2 H locs ls hP hD hS hl hp => ih mo x2 H locs ls hP hD hS hl hp) hP hD hS hl hp
set_option maxHeartbeats 4000000 in
set_option maxRecDepth 100000 in
theorem c_X12_typed4 (l : Launch) (D : va_G) (cy : Nat → ClassId) (qmo : Nat → Nat) (mo : Mem) (p1 : Int32) (mo' : Mem) (hp : Mo_typed4 mo p1 = some mo') : RV l yX12_typed4 cX12_typed4 3 0 D cy [.ref (qmo 0), .int p1] (w_Mo cy qmo mo) (w_Mo cy qmo mo') := by
  refine RV_of RX12 rfl (by decide) (Nat.le_of_ble_eq_true rfl) ?_
  intro p e s m below meth c A C0 hK hP hD hS hA ls hl
  obtain ⟨hx, hb, hr, hml, hown, hts, hk⟩ := id C0
  unfold Mo_typed4 at hp
  have hl : lv_has ls 3 [(0, .ref (qmo 0)), (1, .int p1)] := hl
  refine lv_iconst (v := 3) hx hb dX12_typed4_0 (by decide) ?_
  refine lv_istore_n (lv' := [(2, .int 3), (0, .ref (qmo 0)), (1, .int p1)]) hx hb dX12_typed4_1 rfl hl (by decide) rfl (fun ls hl => ?_)
  exact Mo_typed4_b2_w C0 hK hA  fl mo 3 _ _ _ hP hD hS (lv_sub hl [1, 2, 0] rfl) hp
/-! StormSlotsModel.feed(IIIII)I -/
def Mo_feed (mo : Mem) (p1 : Int32) (p2 : Int32) (p3 : Int32) (p4 : Int32) (p5 : Int32) : Option (Int32 × Mem) :=
  if ((mo 3 0) + 20) ≤ 320 then bn1 (Mo_typed4 mo p1) (fun mo_3 => bn1 (Mo_typed4 mo_3 p2) (fun mo_5 => bn1 (Mo_typed4 mo_5 p3) (fun mo_7 => bn1 (Mo_typed4 mo_7 p4) (fun mo_9 => bn1 (Mo_typed4 mo_9 p5) (fun mo_11 => some ((mo_11 3 0), mo_11)))))) else some ((-1), mo)
set_option maxHeartbeats 4000000 in
set_option maxRecDepth 100000 in
theorem c_X12_feed (l : Launch) (D : va_G) (cy : Nat → ClassId) (qmo : Nat → Nat) (mo : Mem) (p1 p2 p3 p4 p5 : Int32) (r : Int32) (mo' : Mem) (hp : Mo_feed mo p1 p2 p3 p4 p5 = some (r, mo')) : RI l yX12_feed cX12_feed 6 (some .int) 1 D cy [.ref (qmo 0), .int p1, .int p2, .int p3, .int p4, .int p5] (w_Mo cy qmo mo) (w_Mo cy qmo mo') r := by
  refine RI_of RX12 rfl (by decide) (Nat.le_of_ble_eq_true rfl) ?_
  intro p e s m below meth c A C0 hK hP hD hS hA ls hl
  obtain ⟨hx, hb, hr, hml, hown, hts, hk⟩ := id C0
  unfold Mo_feed at hp
  have hl : lv_has ls 6 [(0, .ref (qmo 0)), (1, .int p1), (2, .int p2), (3, .int p3), (4, .int p4), (5, .int p5)] := hl
  refine lv_aload_n hx hb dX12_feed_0 rfl (lv_at hl 0 rfl) ?_
  refine gf_X12_49 hx hb hts hown hK hP 0 rfl rfl dX12_feed_1 ?_
  refine lv_bipush (v := 20) hx hb dX12_feed_4 (by decide) ?_
  refine lv_iadd hx hb dX12_feed_6 ?_
  refine lv_sipush (v := 320) hx hb dX12_feed_7 (by decide) ?_
  refine lv_icmp_le (tgt := 15) hx hb dX12_feed_10 (by decide) (fun c_1 => ?_) (fun c_1 => ?_)
  · have hp := ite_p hp c_1
    refine lv_aload_n hx hb dX12_feed_15 rfl (lv_at hl 0 rfl) ?_
    refine lv_iload_n hx hb dX12_feed_16 rfl (lv_at hl 1 rfl) ?_
    obtain ⟨mo_3, hc_2, hp⟩ := bn1_s hp
    refine k_RVV (As := [.int p1]) (rest := []) ⟨hx, hb, hml, hown, hts⟩ hK hP hD hS hA FrS_rf (cw_X12_53 hts ⟨Nat.le_of_ble_eq_true rfl, Nat.le_of_ble_eq_true rfl⟩) 0 (ci := 12) rfl rfl rfl (c_X12_typed4 l D cy qmo mo p1 mo_3 hc_2) rfl hl.1 (Nat.le_of_ble_eq_true rfl) ⟨Nat.le_refl _, Nat.le_refl _⟩ dX12_feed_17 (fun H locs hP hD hS => ?_)
    refine lv_aload_n hx hb dX12_feed_20 rfl (lv_at hl 0 rfl) ?_
    refine lv_iload_n hx hb dX12_feed_21 rfl (lv_at hl 2 rfl) ?_
    obtain ⟨mo_5, hc_4, hp⟩ := bn1_s hp
    refine k_RVV (As := [.int p2]) (rest := []) ⟨hx, hb, hml, hown, hts⟩ hK hP hD hS hA FrS_rf (cw_X12_53 hts ⟨Nat.le_of_ble_eq_true rfl, Nat.le_of_ble_eq_true rfl⟩) 0 (ci := 12) rfl rfl rfl (c_X12_typed4 l D cy qmo mo_3 p2 mo_5 hc_4) rfl hl.1 (Nat.le_of_ble_eq_true rfl) ⟨Nat.le_refl _, Nat.le_refl _⟩ dX12_feed_22 (fun H locs hP hD hS => ?_)
    refine lv_aload_n hx hb dX12_feed_25 rfl (lv_at hl 0 rfl) ?_
    refine lv_iload_n hx hb dX12_feed_26 rfl (lv_at hl 3 rfl) ?_
    obtain ⟨mo_7, hc_6, hp⟩ := bn1_s hp
    refine k_RVV (As := [.int p3]) (rest := []) ⟨hx, hb, hml, hown, hts⟩ hK hP hD hS hA FrS_rf (cw_X12_53 hts ⟨Nat.le_of_ble_eq_true rfl, Nat.le_of_ble_eq_true rfl⟩) 0 (ci := 12) rfl rfl rfl (c_X12_typed4 l D cy qmo mo_5 p3 mo_7 hc_6) rfl hl.1 (Nat.le_of_ble_eq_true rfl) ⟨Nat.le_refl _, Nat.le_refl _⟩ dX12_feed_27 (fun H locs hP hD hS => ?_)
    refine lv_aload_n hx hb dX12_feed_30 rfl (lv_at hl 0 rfl) ?_
    refine lv_iload hx hb dX12_feed_31 (lv_at hl 4 rfl) ?_
    obtain ⟨mo_9, hc_8, hp⟩ := bn1_s hp
    refine k_RVV (As := [.int p4]) (rest := []) ⟨hx, hb, hml, hown, hts⟩ hK hP hD hS hA FrS_rf (cw_X12_53 hts ⟨Nat.le_of_ble_eq_true rfl, Nat.le_of_ble_eq_true rfl⟩) 0 (ci := 12) rfl rfl rfl (c_X12_typed4 l D cy qmo mo_7 p4 mo_9 hc_8) rfl hl.1 (Nat.le_of_ble_eq_true rfl) ⟨Nat.le_refl _, Nat.le_refl _⟩ dX12_feed_33 (fun H locs hP hD hS => ?_)
    refine lv_aload_n hx hb dX12_feed_36 rfl (lv_at hl 0 rfl) ?_
    refine lv_iload hx hb dX12_feed_37 (lv_at hl 5 rfl) ?_
    obtain ⟨mo_11, hc_10, hp⟩ := bn1_s hp
    refine k_RVV (As := [.int p5]) (rest := []) ⟨hx, hb, hml, hown, hts⟩ hK hP hD hS hA FrS_rf (cw_X12_53 hts ⟨Nat.le_of_ble_eq_true rfl, Nat.le_of_ble_eq_true rfl⟩) 0 (ci := 12) rfl rfl rfl (c_X12_typed4 l D cy qmo mo_9 p5 mo_11 hc_10) rfl hl.1 (Nat.le_of_ble_eq_true rfl) ⟨Nat.le_refl _, Nat.le_refl _⟩ dX12_feed_39 (fun H locs hP hD hS => ?_)
    refine lv_aload_n hx hb dX12_feed_42 rfl (lv_at hl 0 rfl) ?_
    refine gf_X12_49 hx hb hts hown hK hP 0 rfl rfl dX12_feed_43 ?_
    simp only [Option.some.injEq, Prod.mk.injEq] at hp
    obtain ⟨h0, rfl⟩ := hp
    exact e_RIi hx hb hr hk hP hD hS dX12_feed_46 h0
  · have hp := ite_n hp c_1
    refine lv_iconst (v := (-1)) hx hb dX12_feed_13 (by decide) ?_
    simp only [Option.some.injEq, Prod.mk.injEq] at hp
    obtain ⟨h0, rfl⟩ := hp
    exact e_RIi hx hb hr hk hP hD hS dX12_feed_14 h0
/-! StormSlotsModel.see()I -/
def Mo_see_b38 (mo : Mem) : Option (Int32 × Mem) :=
  if (mo 5 0) ≤ (mo 4 0) then some ((-1), mo) else ckI (mo 4 0) 320 (some (((mo 2 (mo 4 0).toNatClampNeg) &&& 255), mo))
def Mo_see_b0B (k0 : Mem → Option (Int32 × Mem)) (mo : Mem) : Option (Int32 × Mem) :=
  if (mo 5 0) ≤ (mo 4 0) then Mo_see_b38 mo else ckI (mo 4 0) 320 (if (mo 2 (mo 4 0).toNatClampNeg) = 32 then stk (upm mo 4 0 ((mo 4 0) + 1)) (fun mo_4 => k0 mo_4) else Mo_see_b38 mo)
def Mo_see_b0 : Nat → Mem → Option (Int32 × Mem)
  | 0 => fun _ => none
  | n + 1 => Mo_see_b0B  (Mo_see_b0  n)
def Mo_see (mo : Mem) : Option (Int32 × Mem) :=
  Mo_see_b0 fl mo
set_option maxHeartbeats 4000000 in
set_option maxRecDepth 100000 in
theorem Mo_see_b38_w (C0 : cX RX12 cX12_see (some .int) 1 p s m args meth c) (hK : kN D cy s) {qmo : Nat → Nat} {r : Int32} {mo' : Mem} (hA : ∀ q, s.heap.size ≤ q → A q) {mo : Mem} {H : Heap} {locs : List Loc} (hP : va_P D vwCl (w_Mo cy qmo mo) H) (hD : va_D A (w_Mo cy qmo mo)) (hS : va_S A s.heap H locs) {ls : Array Slot} (hl : lv_has ls 1 [(0, .ref (qmo 0))]) (hp : Mo_see_b38 mo = some (r, mo')) : W p l e (rmD 0) s m args below meth c H locs 0 0 (qRI D below args s A (w_Mo cy qmo mo') r) (F0 m 38 ls []) := by
  obtain ⟨hx, hb, hr, hml, hown, hts, hk⟩ := id C0
  unfold Mo_see_b38 at hp
  refine lv_aload_n hx hb dX12_see_38 rfl (lv_at hl 0 rfl) ?_
  refine gf_X12_57 hx hb hts hown hK hP 0 rfl rfl dX12_see_39 ?_
  refine lv_aload_n hx hb dX12_see_42 rfl (lv_at hl 0 rfl) ?_
  refine gf_X12_60 hx hb hts hown hK hP 0 rfl rfl dX12_see_43 ?_
  refine lv_icmp_ge (tgt := 65) hx hb dX12_see_46 (by decide) (fun c_5 => ?_) (fun c_5 => ?_)
  · have hp := ite_p hp c_5
    refine lv_iconst (v := (-1)) hx hb dX12_see_65 (by decide) ?_
    simp only [Option.some.injEq, Prod.mk.injEq] at hp
    obtain ⟨h0, rfl⟩ := hp
    exact e_RIi hx hb hr hk hP hD hS dX12_see_66 h0
  · have hp := ite_n hp c_5
    refine lv_aload_n hx hb dX12_see_49 rfl (lv_at hl 0 rfl) ?_
    refine gf_X12_16 hx hb hts hown hK hP 0 rfl rfl dX12_see_50 ?_
    refine lv_aload_n hx hb dX12_see_53 rfl (lv_at hl 0 rfl) ?_
    refine gf_X12_57 hx hb hts hown hK hP 0 rfl rfl dX12_see_54 ?_
    obtain ⟨hi_6, hp⟩ := ckI_s hp
    refine r_bld hx hb hK hP 3 rfl hi_6 dX12_see_57 ?_
    refine lv_sipush (v := 255) hx hb dX12_see_58 (by decide) ?_
    refine lv_iand hx hb dX12_see_61 ?_
    refine lv_goto (tgt := 66) hx hb dX12_see_62 (by decide) ?_
    simp only [Option.some.injEq, Prod.mk.injEq] at hp
    obtain ⟨h0, rfl⟩ := hp
    exact e_RIi hx hb hr hk hP hD hS dX12_see_66 h0
set_option maxHeartbeats 4000000 in
set_option maxRecDepth 100000 in
theorem Mo_see_b0B_w (C0 : cX RX12 cX12_see (some .int) 1 p s m args meth c) (hK : kN D cy s) {qmo : Nat → Nat} {r : Int32} {mo' : Mem} (hA : ∀ q, s.heap.size ≤ q → A q) {k0 : Mem → Option (Int32 × Mem)} (hk0 : ∀ (mo : Mem) (H : Heap) (locs : List Loc) (ls : Array Slot), va_P D vwCl (w_Mo cy qmo mo) H → va_D A (w_Mo cy qmo mo) → va_S A s.heap H locs → lv_has ls 1 [(0, .ref (qmo 0))] → k0 mo = some (r, mo') → W p l e (rmD 0) s m args below meth c H locs 0 0 (qRI D below args s A (w_Mo cy qmo mo') r) (F0 m 0 ls [])) {mo : Mem} {H : Heap} {locs : List Loc} (hP : va_P D vwCl (w_Mo cy qmo mo) H) (hD : va_D A (w_Mo cy qmo mo)) (hS : va_S A s.heap H locs) {ls : Array Slot} (hl : lv_has ls 1 [(0, .ref (qmo 0))]) (hp : Mo_see_b0B k0 mo = some (r, mo')) : W p l e (rmD 0) s m args below meth c H locs 0 0 (qRI D below args s A (w_Mo cy qmo mo') r) (F0 m 0 ls []) := by
  obtain ⟨hx, hb, hr, hml, hown, hts, hk⟩ := id C0
  unfold Mo_see_b0B at hp
  refine lv_aload_n hx hb dX12_see_0 rfl (lv_at hl 0 rfl) ?_
  refine gf_X12_57 hx hb hts hown hK hP 0 rfl rfl dX12_see_1 ?_
  refine lv_aload_n hx hb dX12_see_4 rfl (lv_at hl 0 rfl) ?_
  refine gf_X12_60 hx hb hts hown hK hP 0 rfl rfl dX12_see_5 ?_
  refine lv_icmp_ge (tgt := 38) hx hb dX12_see_8 (by decide) (fun c_1 => ?_) (fun c_1 => ?_)
  · have hp := ite_p hp c_1
    exact Mo_see_b38_w C0 hK hA  hP hD hS hl hp
  · have hp := ite_n hp c_1
    refine lv_aload_n hx hb dX12_see_11 rfl (lv_at hl 0 rfl) ?_
    refine gf_X12_16 hx hb hts hown hK hP 0 rfl rfl dX12_see_12 ?_
    refine lv_aload_n hx hb dX12_see_15 rfl (lv_at hl 0 rfl) ?_
    refine gf_X12_57 hx hb hts hown hK hP 0 rfl rfl dX12_see_16 ?_
    obtain ⟨hi_2, hp⟩ := ckI_s hp
    refine r_bld hx hb hK hP 3 rfl hi_2 dX12_see_19 ?_
    refine lv_bipush (v := 32) hx hb dX12_see_20 (by decide) ?_
    refine lv_icmp_ne (tgt := 38) hx hb dX12_see_22 (by decide) (fun c_3 => ?_) (fun c_3 => ?_)
    · have hp := ite_n hp c_3
      exact Mo_see_b38_w C0 hK hA  hP hD hS hl hp
    · have hp := ite_p hp c_3
      refine lv_aload_n hx hb dX12_see_25 rfl (lv_at hl 0 rfl) ?_
      refine lv_aload_n hx hb dX12_see_26 rfl (lv_at hl 0 rfl) ?_
      refine gf_X12_57 hx hb hts hown hK hP 0 rfl rfl dX12_see_27 ?_
      refine lv_iconst (v := 1) hx hb dX12_see_30 (by decide) ?_
      refine lv_iadd hx hb dX12_see_31 ?_
      obtain ⟨mo_4, emo_4⟩ : ∃ y : Mem, y = upm mo 4 0 ((mo 4 0) + 1) := ⟨_, rfl⟩
      have hp := stk_e hp emo_4
      refine pf_X12_57 hx hb hts hown hK hP hD hS (wn := (w_Mo cy qmo mo_4)) 0 rfl (Nat.le_of_ble_eq_true rfl) (by subst emo_4; rfl) dX12_see_32 (fun H locs hP hD hS => ?_)
      refine lv_goto (tgt := 0) hx hb dX12_see_35 (by decide) ?_
      exact hk0 mo_4 _ _ _ hP hD hS hl hp
theorem Mo_see_b0_w (C0 : cX RX12 cX12_see (some .int) 1 p s m args meth c) (hK : kN D cy s) {qmo : Nat → Nat} {r : Int32} {mo' : Mem} (hA : ∀ q, s.heap.size ≤ q → A q) : ∀ (n : Nat) (mo : Mem) (H : Heap) (locs : List Loc) (ls : Array Slot), va_P D vwCl (w_Mo cy qmo mo) H → va_D A (w_Mo cy qmo mo) → va_S A s.heap H locs → lv_has ls 1 [(0, .ref (qmo 0))] → Mo_see_b0  n mo = some (r, mo') → W p l e (rmD 0) s m args below meth c H locs 0 0 (qRI D below args s A (w_Mo cy qmo mo') r) (F0 m 0 ls []) := by
  intro n
  induction n with
  | zero =>
    intro mo H locs ls hP hD hS hl hp
    cases hp
  | succ n ih =>
    intro mo H locs ls hP hD hS hl hp
    exact Mo_see_b0B_w C0 hK hA  (fun mo H locs ls hP hD hS hl hp => ih mo H locs ls hP hD hS hl hp) hP hD hS hl hp
set_option maxHeartbeats 4000000 in
set_option maxRecDepth 100000 in
theorem c_X12_see (l : Launch) (D : va_G) (cy : Nat → ClassId) (qmo : Nat → Nat) (mo : Mem) (r : Int32) (mo' : Mem) (hp : Mo_see mo = some (r, mo')) : RI l yX12_see cX12_see 1 (some .int) 0 D cy [.ref (qmo 0)] (w_Mo cy qmo mo) (w_Mo cy qmo mo') r := by
  refine RI_of RX12 rfl (by decide) (Nat.le_of_ble_eq_true rfl) ?_
  intro p e s m below meth c A C0 hK hP hD hS hA ls hl
  obtain ⟨hx, hb, hr, hml, hown, hts, hk⟩ := id C0
  unfold Mo_see at hp
  have hl : lv_has ls 1 [(0, .ref (qmo 0))] := hl
  exact Mo_see_b0_w C0 hK hA  fl mo _ _ _ hP hD hS hl hp
/-! StormSlotsModel.wrong(II)Z -/
def Mo_wrong (mo : Mem) (p1 : Int32) (p2 : Int32) : Option (Int32 × Mem) :=
  if (mo 6 0) = 0 then stk (upm mo 6 0 (((-1000) * p1) - p2)) (fun mo_2 => some (0, mo_2)) else some (0, mo)
set_option maxHeartbeats 4000000 in
set_option maxRecDepth 100000 in
theorem c_X12_wrong (l : Launch) (D : va_G) (cy : Nat → ClassId) (qmo : Nat → Nat) (mo : Mem) (p1 p2 : Int32) (r : Int32) (mo' : Mem) (hp : Mo_wrong mo p1 p2 = some (r, mo')) : RI l yX12_wrong cX12_wrong 3 (some .boolean) 0 D cy [.ref (qmo 0), .int p1, .int p2] (w_Mo cy qmo mo) (w_Mo cy qmo mo') r := by
  refine RI_of RX12 rfl (by decide) (Nat.le_of_ble_eq_true rfl) ?_
  intro p e s m below meth c A C0 hK hP hD hS hA ls hl
  obtain ⟨hx, hb, hr, hml, hown, hts, hk⟩ := id C0
  unfold Mo_wrong at hp
  have hl : lv_has ls 3 [(0, .ref (qmo 0)), (1, .int p1), (2, .int p2)] := hl
  refine lv_aload_n hx hb dX12_wrong_0 rfl (lv_at hl 0 rfl) ?_
  refine gf_X12_63 hx hb hts hown hK hP 0 rfl rfl dX12_wrong_1 ?_
  refine lv_if_ne (tgt := 18) hx hb dX12_wrong_4 (by decide) (fun c_1 => ?_) (fun c_1 => ?_)
  · have hp := ite_n hp c_1
    refine lv_iconst (v := 0) hx hb dX12_wrong_18 (by decide) ?_
    simp only [Option.some.injEq, Prod.mk.injEq] at hp
    obtain ⟨h0, rfl⟩ := hp
    exact e_RIz hx hb hr hk (Or.inl rfl) hP hD hS dX12_wrong_19 h0
  · have hp := ite_p hp c_1
    refine lv_aload_n hx hb dX12_wrong_7 rfl (lv_at hl 0 rfl) ?_
    refine lv_sipush (v := (-1000)) hx hb dX12_wrong_8 (by decide) ?_
    refine lv_iload_n hx hb dX12_wrong_11 rfl (lv_at hl 1 rfl) ?_
    refine lv_imul hx hb dX12_wrong_12 ?_
    refine lv_iload_n hx hb dX12_wrong_13 rfl (lv_at hl 2 rfl) ?_
    refine lv_isub hx hb dX12_wrong_14 ?_
    obtain ⟨mo_2, emo_2⟩ : ∃ y : Mem, y = upm mo 6 0 (((-1000) * p1) - p2) := ⟨_, rfl⟩
    have hp := stk_e hp emo_2
    refine pf_X12_63 hx hb hts hown hK hP hD hS (wn := (w_Mo cy qmo mo_2)) 0 rfl (Nat.le_of_ble_eq_true rfl) (by subst emo_2; rfl) dX12_wrong_15 (fun H locs hP hD hS => ?_)
    refine lv_iconst (v := 0) hx hb dX12_wrong_18 (by decide) ?_
    simp only [Option.some.injEq, Prod.mk.injEq] at hp
    obtain ⟨h0, rfl⟩ := hp
    exact e_RIz hx hb hr hk (Or.inl rfl) hP hD hS dX12_wrong_19 h0
/-! StormSlotsModel.passes(I)Z -/
def Mo_passes (mo : Mem) (p1 : Int32) : Option (Int32 × Mem) :=
  bn2 (Mo_see mo) (fun r_2 mo_3 => if r_2 = p1 then stk (upm mo_3 4 0 ((mo_3 4 0) + 1)) (fun mo_5 => some (1, mo_5)) else bn2 (Mo_wrong mo_3 1 (mo_3 4 0)) (fun r_7 mo_8 => ckB r_7 (some (r_7, mo_8))))
set_option maxHeartbeats 4000000 in
set_option maxRecDepth 100000 in
theorem c_X12_passes (l : Launch) (D : va_G) (cy : Nat → ClassId) (qmo : Nat → Nat) (mo : Mem) (p1 : Int32) (r : Int32) (mo' : Mem) (hp : Mo_passes mo p1 = some (r, mo')) : RI l yX12_passes cX12_passes 2 (some .boolean) 1 D cy [.ref (qmo 0), .int p1] (w_Mo cy qmo mo) (w_Mo cy qmo mo') r := by
  refine RI_of RX12 rfl (by decide) (Nat.le_of_ble_eq_true rfl) ?_
  intro p e s m below meth c A C0 hK hP hD hS hA ls hl
  obtain ⟨hx, hb, hr, hml, hown, hts, hk⟩ := id C0
  unfold Mo_passes at hp
  have hl : lv_has ls 2 [(0, .ref (qmo 0)), (1, .int p1)] := hl
  refine lv_aload_n hx hb dX12_passes_0 rfl (lv_at hl 0 rfl) ?_
  obtain ⟨r_2, mo_3, hc_1, hp⟩ := bn2_s hp
  refine k_RIV (As := []) (rest := []) ⟨hx, hb, hml, hown, hts⟩ hK hP hD hS hA FrS_rf (cw_X12_66 hts ⟨Nat.le_of_ble_eq_true rfl, Nat.le_of_ble_eq_true rfl⟩) 0 (ci := 12) rfl rfl rfl (c_X12_see l D cy qmo mo r_2 mo_3 hc_1) rfl hl.1 (Nat.le_of_ble_eq_true rfl) ⟨Nat.le_refl _, Nat.le_refl _⟩ dX12_passes_1 (fun H locs hP hD hS => ?_)
  refine lv_iload_n hx hb dX12_passes_4 rfl (lv_at hl 1 rfl) ?_
  refine lv_icmp_eq (tgt := 18) hx hb dX12_passes_5 (by decide) (fun c_4 => ?_) (fun c_4 => ?_)
  · have hp := ite_p hp c_4
    refine lv_aload_n hx hb dX12_passes_18 rfl (lv_at hl 0 rfl) ?_
    refine lv_aload_n hx hb dX12_passes_19 rfl (lv_at hl 0 rfl) ?_
    refine gf_X12_57 hx hb hts hown hK hP 0 rfl rfl dX12_passes_20 ?_
    refine lv_iconst (v := 1) hx hb dX12_passes_23 (by decide) ?_
    refine lv_iadd hx hb dX12_passes_24 ?_
    obtain ⟨mo_5, emo_5⟩ : ∃ y : Mem, y = upm mo_3 4 0 ((mo_3 4 0) + 1) := ⟨_, rfl⟩
    have hp := stk_e hp emo_5
    refine pf_X12_57 hx hb hts hown hK hP hD hS (wn := (w_Mo cy qmo mo_5)) 0 rfl (Nat.le_of_ble_eq_true rfl) (by subst emo_5; rfl) dX12_passes_25 (fun H locs hP hD hS => ?_)
    refine lv_iconst (v := 1) hx hb dX12_passes_28 (by decide) ?_
    simp only [Option.some.injEq, Prod.mk.injEq] at hp
    obtain ⟨h0, rfl⟩ := hp
    exact e_RIz hx hb hr hk (Or.inr rfl) hP hD hS dX12_passes_29 h0
  · have hp := ite_n hp c_4
    refine lv_aload_n hx hb dX12_passes_8 rfl (lv_at hl 0 rfl) ?_
    refine lv_iconst (v := 1) hx hb dX12_passes_9 (by decide) ?_
    refine lv_aload_n hx hb dX12_passes_10 rfl (lv_at hl 0 rfl) ?_
    refine gf_X12_57 hx hb hts hown hK hP 0 rfl rfl dX12_passes_11 ?_
    obtain ⟨r_7, mo_8, hc_6, hp⟩ := bn2_s hp
    refine k_RIV (As := [.int 1, .int (mo_3 4 0)]) (rest := []) ⟨hx, hb, hml, hown, hts⟩ hK hP hD hS hA FrS_rf (cw_X12_70 hts ⟨Nat.le_of_ble_eq_true rfl, Nat.le_of_ble_eq_true rfl⟩) 0 (ci := 12) rfl rfl rfl (c_X12_wrong l D cy qmo mo_3 1 (mo_3 4 0) r_7 mo_8 hc_6) rfl hl.1 (Nat.le_of_ble_eq_true rfl) ⟨Nat.le_refl _, Nat.le_refl _⟩ dX12_passes_14 (fun H locs hP hD hS => ?_)
    obtain ⟨hz_9, hp⟩ := ckB_s hp
    simp only [Option.some.injEq, Prod.mk.injEq] at hp
    obtain ⟨h0, rfl⟩ := hp
    exact e_RIz hx hb hr hk hz_9 hP hD hS dX12_passes_17 h0
/-! StormSlotsModel.isDigit(I)Z -/
def Mo_isDigit (p0 : Int32) : Option (Int32) :=
  bn1 (Mo_in p0 48 57) (fun r_2 => ckB r_2 (some r_2))
set_option maxHeartbeats 4000000 in
set_option maxRecDepth 100000 in
theorem c_X12_isDigit (l : Launch) (D : va_G) (cy : Nat → ClassId) (p0 : Int32) (r : Int32) (hp : Mo_isDigit p0 = some r) : RO l yX12_isDigit cX12_isDigit 1 (some .boolean) 1 D cy [.int p0] [] r := by
  refine RO_of RX12 rfl (by decide) (Nat.le_of_ble_eq_true rfl) ?_
  intro p e s m below meth c C0 hK hP ls hl
  obtain ⟨hx, hb, hr, hml, hown, hts, hk⟩ := id C0
  unfold Mo_isDigit at hp
  have hl : lv_has ls 1 [(0, .int p0)] := hl
  refine lv_iload_n hx hb dX12_isDigit_0 rfl (lv_at hl 0 rfl) ?_
  refine lv_bipush (v := 48) hx hb dX12_isDigit_1 (by decide) ?_
  refine lv_bipush (v := 57) hx hb dX12_isDigit_3 (by decide) ?_
  obtain ⟨r_2, hc_1, hp⟩ := bn1_s hp
  refine k_ROS (As := [.int p0, .int 48, .int 57]) (rest := []) ⟨hx, hb, hml, hown, hts⟩ hK (show va_P D vwCl [] _ from fun k q h => by simp at h) (cw_X12_45 hts ⟨Nat.le_of_ble_eq_true rfl, Nat.le_of_ble_eq_true rfl⟩) (c_X12_in l D cy p0 48 57 r_2 hc_1) rfl hl.1 (Nat.le_of_ble_eq_true rfl) ⟨Nat.le_refl _, Nat.le_refl _⟩ dX12_isDigit_5 ?_
  obtain ⟨hz_3, hp⟩ := ckB_s hp
  exact e_ROz hx hb hr hk hz_3 dX12_isDigit_8 (Option.some.inj hp)
/-! StormSlotsModel.counts(III)Z -/
def Mo_counts_b133 (p1 : Int32) (p2 : Int32) (p3 : Int32) (mo : Mem) (x5 : Int32) : Option (Int32 × Mem) :=
  bn1 (Mo_in (mo 7 0) p2 p3) (fun r_21 => if r_21 = 0 then bn2 (Mo_wrong mo 2 x5) (fun r_24 mo_25 => if r_24 = 0 then some (0, mo_25) else some (1, mo_25)) else some (1, mo))
def Mo_counts_b75 (p1 : Int32) (p2 : Int32) (p3 : Int32) (k35 : Mem → Int32 → Option (Int32 × Mem)) (mo : Mem) (x5 : Int32) : Option (Int32 × Mem) :=
  if ((mo 4 0) - x5) = p1 then bn2 (Mo_wrong mo 1 (mo 4 0)) (fun r_32 mo_33 => ckB r_32 (some (r_32, mo_33))) else ckI (mo 4 0) 320 (stk (upm mo 7 0 (((10 * (mo 7 0)) + (mo 2 (mo 4 0).toNatClampNeg)) - 48)) (fun mo_29 => stk (upm mo_29 4 0 ((mo_29 4 0) + 1)) (fun mo_30 => k35 mo_30 x5)))
def Mo_counts_b35B (p1 : Int32) (p2 : Int32) (p3 : Int32) (k35 : Mem → Int32 → Option (Int32 × Mem)) (mo : Mem) (x5 : Int32) : Option (Int32 × Mem) :=
  if (mo 5 0) ≤ (mo 4 0) then Mo_counts_b133 p1 p2 p3 mo x5 else ckI (mo 4 0) 320 (bn1 (Mo_isDigit (mo 2 (mo 4 0).toNatClampNeg)) (fun r_16 => if r_16 = 0 then Mo_counts_b133 p1 p2 p3 mo x5 else if 1 < p1 then Mo_counts_b75 p1 p2 p3 k35 mo x5 else if (mo 4 0) = x5 then Mo_counts_b75 p1 p2 p3 k35 mo x5 else Mo_counts_b133 p1 p2 p3 mo x5))
def Mo_counts_b35 (p1 : Int32) (p2 : Int32) (p3 : Int32) : Nat → Mem → Int32 → Option (Int32 × Mem)
  | 0 => fun _ _ => none
  | n + 1 => Mo_counts_b35B p1 p2 p3 (Mo_counts_b35 p1 p2 p3 n)
def Mo_counts (mo : Mem) (p1 : Int32) (p2 : Int32) (p3 : Int32) : Option (Int32 × Mem) :=
  bn2 (Mo_see mo) (fun r_2 mo_3 => stk (mo_3 4 0) (fun x5_4 => bn1 (Mo_isDigit r_2) (fun r_6 => if r_6 = 0 then bn2 (Mo_wrong mo_3 1 (mo_3 4 0)) (fun r_10 mo_11 => ckB r_10 (some (r_10, mo_11))) else stk (upm mo_3 7 0 0) (fun mo_8 => Mo_counts_b35 p1 p2 p3 fl mo_8 x5_4))))
set_option maxHeartbeats 4000000 in
set_option maxRecDepth 100000 in
theorem Mo_counts_b133_w (C0 : cX RX12 cX12_counts (some .boolean) 6 p s m args meth c) (hK : kN D cy s) {qmo : Nat → Nat} {p1 p2 p3 : Int32} {r : Int32} {mo' : Mem} (hA : ∀ q, s.heap.size ≤ q → A q) {mo : Mem} {x5 : Int32} {H : Heap} {locs : List Loc} (hP : va_P D vwCl (w_Mo cy qmo mo) H) (hD : va_D A (w_Mo cy qmo mo)) (hS : va_S A s.heap H locs) {ls : Array Slot} (hl : lv_has ls 6 [(0, .ref (qmo 0)), (1, .int p1), (2, .int p2), (3, .int p3), (5, .int x5)]) (hp : Mo_counts_b133 p1 p2 p3 mo x5 = some (r, mo')) : W p l e (rmD 2) s m args below meth c H locs 0 0 (qRI D below args s A (w_Mo cy qmo mo') r) (F0 m 133 ls []) := by
  obtain ⟨hx, hb, hr, hml, hown, hts, hk⟩ := id C0
  unfold Mo_counts_b133 at hp
  refine lv_aload_n hx hb dX12_counts_133 rfl (lv_at hl 0 rfl) ?_
  refine gf_X12_78 hx hb hts hown hK hP 0 rfl rfl dX12_counts_134 ?_
  refine lv_iload_n hx hb dX12_counts_137 rfl (lv_at hl 2 rfl) ?_
  refine lv_iload_n hx hb dX12_counts_138 rfl (lv_at hl 3 rfl) ?_
  obtain ⟨r_21, hc_20, hp⟩ := bn1_s hp
  refine k_ROS (As := [.int (mo 7 0), .int p2, .int p3]) (rest := []) ⟨hx, hb, hml, hown, hts⟩ hK (show va_P D vwCl [] _ from fun k q h => by simp at h) (cw_X12_45 hts ⟨Nat.le_of_ble_eq_true rfl, Nat.le_of_ble_eq_true rfl⟩) (c_X12_in l D cy (mo 7 0) p2 p3 r_21 hc_20) rfl hl.1 (Nat.le_of_ble_eq_true rfl) ⟨Nat.le_refl _, Nat.le_refl _⟩ dX12_counts_139 ?_
  refine lv_if_ne (tgt := 155) hx hb dX12_counts_142 (by decide) (fun c_22 => ?_) (fun c_22 => ?_)
  · have hp := ite_n hp c_22
    refine lv_iconst (v := 1) hx hb dX12_counts_155 (by decide) ?_
    refine lv_goto (tgt := 160) hx hb dX12_counts_156 (by decide) ?_
    simp only [Option.some.injEq, Prod.mk.injEq] at hp
    obtain ⟨h0, rfl⟩ := hp
    exact e_RIz hx hb hr hk (Or.inr rfl) hP hD hS dX12_counts_160 h0
  · have hp := ite_p hp c_22
    refine lv_aload_n hx hb dX12_counts_145 rfl (lv_at hl 0 rfl) ?_
    refine lv_iconst (v := 2) hx hb dX12_counts_146 (by decide) ?_
    refine lv_iload hx hb dX12_counts_147 (lv_at hl 4 rfl) ?_
    obtain ⟨r_24, mo_25, hc_23, hp⟩ := bn2_s hp
    refine k_RIV (As := [.int 2, .int x5]) (rest := []) ⟨hx, hb, hml, hown, hts⟩ hK hP hD hS hA FrS_rf (cw_X12_70 hts ⟨Nat.le_of_ble_eq_true rfl, Nat.le_of_ble_eq_true rfl⟩) 0 (ci := 12) rfl rfl rfl (c_X12_wrong l D cy qmo mo 2 x5 r_24 mo_25 hc_23) rfl hl.1 (Nat.le_of_ble_eq_true rfl) ⟨Nat.le_refl _, Nat.le_refl _⟩ dX12_counts_149 (fun H locs hP hD hS => ?_)
    refine lv_if_eq (tgt := 159) hx hb dX12_counts_152 (by decide) (fun c_26 => ?_) (fun c_26 => ?_)
    · have hp := ite_p hp c_26
      refine lv_iconst (v := 0) hx hb dX12_counts_159 (by decide) ?_
      simp only [Option.some.injEq, Prod.mk.injEq] at hp
      obtain ⟨h0, rfl⟩ := hp
      exact e_RIz hx hb hr hk (Or.inl rfl) hP hD hS dX12_counts_160 h0
    · have hp := ite_n hp c_26
      refine lv_iconst (v := 1) hx hb dX12_counts_155 (by decide) ?_
      refine lv_goto (tgt := 160) hx hb dX12_counts_156 (by decide) ?_
      simp only [Option.some.injEq, Prod.mk.injEq] at hp
      obtain ⟨h0, rfl⟩ := hp
      exact e_RIz hx hb hr hk (Or.inr rfl) hP hD hS dX12_counts_160 h0
set_option maxHeartbeats 4000000 in
set_option maxRecDepth 100000 in
theorem Mo_counts_b75_w (C0 : cX RX12 cX12_counts (some .boolean) 6 p s m args meth c) (hK : kN D cy s) {qmo : Nat → Nat} {p1 p2 p3 : Int32} {r : Int32} {mo' : Mem} (hA : ∀ q, s.heap.size ≤ q → A q) {k35 : Mem → Int32 → Option (Int32 × Mem)} (hk35 : ∀ (mo : Mem) (x5 : Int32) (H : Heap) (locs : List Loc) (ls : Array Slot), va_P D vwCl (w_Mo cy qmo mo) H → va_D A (w_Mo cy qmo mo) → va_S A s.heap H locs → lv_has ls 6 [(0, .ref (qmo 0)), (1, .int p1), (2, .int p2), (3, .int p3), (5, .int x5)] → k35 mo x5 = some (r, mo') → W p l e (rmD 2) s m args below meth c H locs 0 0 (qRI D below args s A (w_Mo cy qmo mo') r) (F0 m 35 ls [])) {mo : Mem} {x5 : Int32} {H : Heap} {locs : List Loc} (hP : va_P D vwCl (w_Mo cy qmo mo) H) (hD : va_D A (w_Mo cy qmo mo)) (hS : va_S A s.heap H locs) {ls : Array Slot} (hl : lv_has ls 6 [(0, .ref (qmo 0)), (1, .int p1), (2, .int p2), (3, .int p3), (5, .int x5)]) (hp : Mo_counts_b75 p1 p2 p3 k35 mo x5 = some (r, mo')) : W p l e (rmD 2) s m args below meth c H locs 0 0 (qRI D below args s A (w_Mo cy qmo mo') r) (F0 m 75 ls []) := by
  obtain ⟨hx, hb, hr, hml, hown, hts, hk⟩ := id C0
  unfold Mo_counts_b75 at hp
  refine lv_aload_n hx hb dX12_counts_75 rfl (lv_at hl 0 rfl) ?_
  refine gf_X12_57 hx hb hts hown hK hP 0 rfl rfl dX12_counts_76 ?_
  refine lv_iload hx hb dX12_counts_79 (lv_at hl 4 rfl) ?_
  refine lv_isub hx hb dX12_counts_81 ?_
  refine lv_iload_n hx hb dX12_counts_82 rfl (lv_at hl 1 rfl) ?_
  refine lv_icmp_ne (tgt := 96) hx hb dX12_counts_83 (by decide) (fun c_27 => ?_) (fun c_27 => ?_)
  · have hp := ite_n hp c_27
    refine lv_aload_n hx hb dX12_counts_96 rfl (lv_at hl 0 rfl) ?_
    refine lv_bipush (v := 10) hx hb dX12_counts_97 (by decide) ?_
    refine lv_aload_n hx hb dX12_counts_99 rfl (lv_at hl 0 rfl) ?_
    refine gf_X12_78 hx hb hts hown hK hP 0 rfl rfl dX12_counts_100 ?_
    refine lv_imul hx hb dX12_counts_103 ?_
    refine lv_aload_n hx hb dX12_counts_104 rfl (lv_at hl 0 rfl) ?_
    refine gf_X12_16 hx hb hts hown hK hP 0 rfl rfl dX12_counts_105 ?_
    refine lv_aload_n hx hb dX12_counts_108 rfl (lv_at hl 0 rfl) ?_
    refine gf_X12_57 hx hb hts hown hK hP 0 rfl rfl dX12_counts_109 ?_
    obtain ⟨hi_28, hp⟩ := ckI_s hp
    refine r_bld hx hb hK hP 3 rfl hi_28 dX12_counts_112 ?_
    refine lv_iadd hx hb dX12_counts_113 ?_
    refine lv_bipush (v := 48) hx hb dX12_counts_114 (by decide) ?_
    refine lv_isub hx hb dX12_counts_116 ?_
    obtain ⟨mo_29, emo_29⟩ : ∃ y : Mem, y = upm mo 7 0 (((10 * (mo 7 0)) + (mo 2 (mo 4 0).toNatClampNeg)) - 48) := ⟨_, rfl⟩
    have hp := stk_e hp emo_29
    refine pf_X12_78 hx hb hts hown hK hP hD hS (wn := (w_Mo cy qmo mo_29)) 0 rfl (Nat.le_of_ble_eq_true rfl) (by subst emo_29; rfl) dX12_counts_117 (fun H locs hP hD hS => ?_)
    refine lv_aload_n hx hb dX12_counts_120 rfl (lv_at hl 0 rfl) ?_
    refine lv_aload_n hx hb dX12_counts_121 rfl (lv_at hl 0 rfl) ?_
    refine gf_X12_57 hx hb hts hown hK hP 0 rfl rfl dX12_counts_122 ?_
    refine lv_iconst (v := 1) hx hb dX12_counts_125 (by decide) ?_
    refine lv_iadd hx hb dX12_counts_126 ?_
    obtain ⟨mo_30, emo_30⟩ : ∃ y : Mem, y = upm mo_29 4 0 ((mo_29 4 0) + 1) := ⟨_, rfl⟩
    have hp := stk_e hp emo_30
    refine pf_X12_57 hx hb hts hown hK hP hD hS (wn := (w_Mo cy qmo mo_30)) 0 rfl (Nat.le_of_ble_eq_true rfl) (by subst emo_30; rfl) dX12_counts_127 (fun H locs hP hD hS => ?_)
    refine lv_goto (tgt := 35) hx hb dX12_counts_130 (by decide) ?_
    exact hk35 mo_30 x5 _ _ _ hP hD hS hl hp
  · have hp := ite_p hp c_27
    refine lv_aload_n hx hb dX12_counts_86 rfl (lv_at hl 0 rfl) ?_
    refine lv_iconst (v := 1) hx hb dX12_counts_87 (by decide) ?_
    refine lv_aload_n hx hb dX12_counts_88 rfl (lv_at hl 0 rfl) ?_
    refine gf_X12_57 hx hb hts hown hK hP 0 rfl rfl dX12_counts_89 ?_
    obtain ⟨r_32, mo_33, hc_31, hp⟩ := bn2_s hp
    refine k_RIV (As := [.int 1, .int (mo 4 0)]) (rest := []) ⟨hx, hb, hml, hown, hts⟩ hK hP hD hS hA FrS_rf (cw_X12_70 hts ⟨Nat.le_of_ble_eq_true rfl, Nat.le_of_ble_eq_true rfl⟩) 0 (ci := 12) rfl rfl rfl (c_X12_wrong l D cy qmo mo 1 (mo 4 0) r_32 mo_33 hc_31) rfl hl.1 (Nat.le_of_ble_eq_true rfl) ⟨Nat.le_refl _, Nat.le_refl _⟩ dX12_counts_92 (fun H locs hP hD hS => ?_)
    obtain ⟨hz_34, hp⟩ := ckB_s hp
    simp only [Option.some.injEq, Prod.mk.injEq] at hp
    obtain ⟨h0, rfl⟩ := hp
    exact e_RIz hx hb hr hk hz_34 hP hD hS dX12_counts_95 h0
set_option maxHeartbeats 4000000 in
set_option maxRecDepth 100000 in
theorem Mo_counts_b35B_w (C0 : cX RX12 cX12_counts (some .boolean) 6 p s m args meth c) (hK : kN D cy s) {qmo : Nat → Nat} {p1 p2 p3 : Int32} {r : Int32} {mo' : Mem} (hA : ∀ q, s.heap.size ≤ q → A q) {k35 : Mem → Int32 → Option (Int32 × Mem)} (hk35 : ∀ (mo : Mem) (x5 : Int32) (H : Heap) (locs : List Loc) (ls : Array Slot), va_P D vwCl (w_Mo cy qmo mo) H → va_D A (w_Mo cy qmo mo) → va_S A s.heap H locs → lv_has ls 6 [(0, .ref (qmo 0)), (1, .int p1), (2, .int p2), (3, .int p3), (5, .int x5)] → k35 mo x5 = some (r, mo') → W p l e (rmD 2) s m args below meth c H locs 0 0 (qRI D below args s A (w_Mo cy qmo mo') r) (F0 m 35 ls [])) {mo : Mem} {x5 : Int32} {H : Heap} {locs : List Loc} (hP : va_P D vwCl (w_Mo cy qmo mo) H) (hD : va_D A (w_Mo cy qmo mo)) (hS : va_S A s.heap H locs) {ls : Array Slot} (hl : lv_has ls 6 [(0, .ref (qmo 0)), (1, .int p1), (2, .int p2), (3, .int p3), (5, .int x5)]) (hp : Mo_counts_b35B p1 p2 p3 k35 mo x5 = some (r, mo')) : W p l e (rmD 2) s m args below meth c H locs 0 0 (qRI D below args s A (w_Mo cy qmo mo') r) (F0 m 35 ls []) := by
  obtain ⟨hx, hb, hr, hml, hown, hts, hk⟩ := id C0
  unfold Mo_counts_b35B at hp
  refine lv_aload_n hx hb dX12_counts_35 rfl (lv_at hl 0 rfl) ?_
  refine gf_X12_57 hx hb hts hown hK hP 0 rfl rfl dX12_counts_36 ?_
  refine lv_aload_n hx hb dX12_counts_39 rfl (lv_at hl 0 rfl) ?_
  refine gf_X12_60 hx hb hts hown hK hP 0 rfl rfl dX12_counts_40 ?_
  refine lv_icmp_ge (tgt := 133) hx hb dX12_counts_43 (by decide) (fun c_13 => ?_) (fun c_13 => ?_)
  · have hp := ite_p hp c_13
    exact Mo_counts_b133_w C0 hK hA  hP hD hS hl hp
  · have hp := ite_n hp c_13
    refine lv_aload_n hx hb dX12_counts_46 rfl (lv_at hl 0 rfl) ?_
    refine gf_X12_16 hx hb hts hown hK hP 0 rfl rfl dX12_counts_47 ?_
    refine lv_aload_n hx hb dX12_counts_50 rfl (lv_at hl 0 rfl) ?_
    refine gf_X12_57 hx hb hts hown hK hP 0 rfl rfl dX12_counts_51 ?_
    obtain ⟨hi_14, hp⟩ := ckI_s hp
    refine r_bld hx hb hK hP 3 rfl hi_14 dX12_counts_54 ?_
    obtain ⟨r_16, hc_15, hp⟩ := bn1_s hp
    refine k_ROS (As := [.int (mo 2 (mo 4 0).toNatClampNeg)]) (rest := []) ⟨hx, hb, hml, hown, hts⟩ hK (show va_P D vwCl [] _ from fun k q h => by simp at h) (cw_X12_74 hts ⟨Nat.le_of_ble_eq_true rfl, Nat.le_of_ble_eq_true rfl⟩) (c_X12_isDigit l D cy (mo 2 (mo 4 0).toNatClampNeg) r_16 hc_15) rfl hl.1 (Nat.le_of_ble_eq_true rfl) ⟨Nat.le_refl _, Nat.le_refl _⟩ dX12_counts_55 ?_
    refine lv_if_eq (tgt := 133) hx hb dX12_counts_58 (by decide) (fun c_17 => ?_) (fun c_17 => ?_)
    · have hp := ite_p hp c_17
      exact Mo_counts_b133_w C0 hK hA  hP hD hS hl hp
    · have hp := ite_n hp c_17
      refine lv_iload_n hx hb dX12_counts_61 rfl (lv_at hl 1 rfl) ?_
      refine lv_iconst (v := 1) hx hb dX12_counts_62 (by decide) ?_
      refine lv_icmp_gt (tgt := 75) hx hb dX12_counts_63 (by decide) (fun c_18 => ?_) (fun c_18 => ?_)
      · have hp := ite_p hp c_18
        exact Mo_counts_b75_w C0 hK hA hk35 hP hD hS hl hp
      · have hp := ite_n hp c_18
        refine lv_aload_n hx hb dX12_counts_66 rfl (lv_at hl 0 rfl) ?_
        refine gf_X12_57 hx hb hts hown hK hP 0 rfl rfl dX12_counts_67 ?_
        refine lv_iload hx hb dX12_counts_70 (lv_at hl 4 rfl) ?_
        refine lv_icmp_ne (tgt := 133) hx hb dX12_counts_72 (by decide) (fun c_19 => ?_) (fun c_19 => ?_)
        · have hp := ite_n hp c_19
          exact Mo_counts_b133_w C0 hK hA  hP hD hS hl hp
        · have hp := ite_p hp c_19
          exact Mo_counts_b75_w C0 hK hA hk35 hP hD hS hl hp
theorem Mo_counts_b35_w (C0 : cX RX12 cX12_counts (some .boolean) 6 p s m args meth c) (hK : kN D cy s) {qmo : Nat → Nat} {p1 p2 p3 : Int32} {r : Int32} {mo' : Mem} (hA : ∀ q, s.heap.size ≤ q → A q) : ∀ (n : Nat) (mo : Mem) (x5 : Int32) (H : Heap) (locs : List Loc) (ls : Array Slot), va_P D vwCl (w_Mo cy qmo mo) H → va_D A (w_Mo cy qmo mo) → va_S A s.heap H locs → lv_has ls 6 [(0, .ref (qmo 0)), (1, .int p1), (2, .int p2), (3, .int p3), (5, .int x5)] → Mo_counts_b35 p1 p2 p3 n mo x5 = some (r, mo') → W p l e (rmD 2) s m args below meth c H locs 0 0 (qRI D below args s A (w_Mo cy qmo mo') r) (F0 m 35 ls []) := by
  intro n
  induction n with
  | zero =>
    intro mo x5 H locs ls hP hD hS hl hp
    cases hp
  | succ n ih =>
    intro mo x5 H locs ls hP hD hS hl hp
    exact Mo_counts_b35B_w C0 hK hA  (fun mo x5 H locs ls hP hD hS hl hp => ih mo x5 H locs ls hP hD hS hl hp) hP hD hS hl hp
set_option maxHeartbeats 4000000 in
set_option maxRecDepth 100000 in
theorem c_X12_counts (l : Launch) (D : va_G) (cy : Nat → ClassId) (qmo : Nat → Nat) (mo : Mem) (p1 p2 p3 : Int32) (r : Int32) (mo' : Mem) (hp : Mo_counts mo p1 p2 p3 = some (r, mo')) : RI l yX12_counts cX12_counts 6 (some .boolean) 2 D cy [.ref (qmo 0), .int p1, .int p2, .int p3] (w_Mo cy qmo mo) (w_Mo cy qmo mo') r := by
  refine RI_of RX12 rfl (by decide) (Nat.le_of_ble_eq_true rfl) ?_
  intro p e s m below meth c A C0 hK hP hD hS hA ls hl
  obtain ⟨hx, hb, hr, hml, hown, hts, hk⟩ := id C0
  unfold Mo_counts at hp
  have hl : lv_has ls 6 [(0, .ref (qmo 0)), (1, .int p1), (2, .int p2), (3, .int p3)] := hl
  refine lv_aload_n hx hb dX12_counts_0 rfl (lv_at hl 0 rfl) ?_
  obtain ⟨r_2, mo_3, hc_1, hp⟩ := bn2_s hp
  refine k_RIV (As := []) (rest := []) ⟨hx, hb, hml, hown, hts⟩ hK hP hD hS hA FrS_rf (cw_X12_66 hts ⟨Nat.le_of_ble_eq_true rfl, Nat.le_of_ble_eq_true rfl⟩) 0 (ci := 12) rfl rfl rfl (c_X12_see l D cy qmo mo r_2 mo_3 hc_1) rfl hl.1 (Nat.le_of_ble_eq_true rfl) ⟨Nat.le_refl _, Nat.le_refl _⟩ dX12_counts_1 (fun H locs hP hD hS => ?_)
  refine lv_istore (lv' := [(4, .int r_2), (0, .ref (qmo 0)), (1, .int p1), (2, .int p2), (3, .int p3)]) hx hb dX12_counts_4 hl (by decide) rfl (fun ls hl => ?_)
  refine lv_aload_n hx hb dX12_counts_6 rfl (lv_at hl 1 rfl) ?_
  refine gf_X12_57 hx hb hts hown hK hP 0 rfl rfl dX12_counts_7 ?_
  refine lv_topi (fun x5_4 ex5_4 => ?_)
  have hp := stk_e hp ex5_4
  refine lv_istore (lv' := [(5, .int x5_4), (4, .int r_2), (0, .ref (qmo 0)), (1, .int p1), (2, .int p2), (3, .int p3)]) hx hb dX12_counts_10 hl (by decide) rfl (fun ls hl => ?_)
  refine lv_iload hx hb dX12_counts_12 (lv_at hl 1 rfl) ?_
  obtain ⟨r_6, hc_5, hp⟩ := bn1_s hp
  refine k_ROS (As := [.int r_2]) (rest := []) ⟨hx, hb, hml, hown, hts⟩ hK (show va_P D vwCl [] _ from fun k q h => by simp at h) (cw_X12_74 hts ⟨Nat.le_of_ble_eq_true rfl, Nat.le_of_ble_eq_true rfl⟩) (c_X12_isDigit l D cy r_2 r_6 hc_5) rfl hl.1 (Nat.le_of_ble_eq_true rfl) ⟨Nat.le_refl _, Nat.le_refl _⟩ dX12_counts_14 ?_
  refine lv_if_ne (tgt := 30) hx hb dX12_counts_17 (by decide) (fun c_7 => ?_) (fun c_7 => ?_)
  · have hp := ite_n hp c_7
    refine lv_aload_n hx hb dX12_counts_30 rfl (lv_at hl 2 rfl) ?_
    refine lv_iconst (v := 0) hx hb dX12_counts_31 (by decide) ?_
    obtain ⟨mo_8, emo_8⟩ : ∃ y : Mem, y = upm mo_3 7 0 0 := ⟨_, rfl⟩
    have hp := stk_e hp emo_8
    refine pf_X12_78 hx hb hts hown hK hP hD hS (wn := (w_Mo cy qmo mo_8)) 0 rfl (Nat.le_of_ble_eq_true rfl) (by subst emo_8; rfl) dX12_counts_32 (fun H locs hP hD hS => ?_)
    exact Mo_counts_b35_w C0 hK hA  fl mo_8 x5_4 _ _ _ hP hD hS (lv_sub hl [2, 3, 4, 5, 0] rfl) hp
  · have hp := ite_p hp c_7
    refine lv_aload_n hx hb dX12_counts_20 rfl (lv_at hl 2 rfl) ?_
    refine lv_iconst (v := 1) hx hb dX12_counts_21 (by decide) ?_
    refine lv_aload_n hx hb dX12_counts_22 rfl (lv_at hl 2 rfl) ?_
    refine gf_X12_57 hx hb hts hown hK hP 0 rfl rfl dX12_counts_23 ?_
    obtain ⟨r_10, mo_11, hc_9, hp⟩ := bn2_s hp
    refine k_RIV (As := [.int 1, .int (mo_3 4 0)]) (rest := []) ⟨hx, hb, hml, hown, hts⟩ hK hP hD hS hA FrS_rf (cw_X12_70 hts ⟨Nat.le_of_ble_eq_true rfl, Nat.le_of_ble_eq_true rfl⟩) 0 (ci := 12) rfl rfl rfl (c_X12_wrong l D cy qmo mo_3 1 (mo_3 4 0) r_10 mo_11 hc_9) rfl hl.1 (Nat.le_of_ble_eq_true rfl) ⟨Nat.le_refl _, Nat.le_refl _⟩ dX12_counts_26 (fun H locs hP hD hS => ?_)
    obtain ⟨hz_12, hp⟩ := ckB_s hp
    simp only [Option.some.injEq, Prod.mk.injEq] at hp
    obtain ⟨h0, rfl⟩ := hp
    exact e_RIz hx hb hr hk hz_12 hP hD hS dX12_counts_29 h0
/-! StormSlotsModel.readsFlight(I)V -/
def Mo_readsFlight (mo : Mem) (p1 : Int32) : Option (Mem) :=
  bn2 (Mo_see mo) (fun r_2 mo_3 => bn1 (Mo_in r_2 97 101) (fun r_5 => if r_5 = 0 then bn2 (Mo_wrong mo_3 1 (mo_3 4 0)) (fun r_43 mo_44 => some mo_44) else if p1 = 20 then bn2 (Mo_wrong mo_3 3 (mo_3 4 0)) (fun r_40 mo_41 => some mo_41) else stk (upm mo_3 4 0 ((mo_3 4 0) + 1)) (fun mo_8 => ckI (4 * p1) 80 (stk (upm mo_8 8 (4 * p1).toNatClampNeg (r_2 - 97)) (fun mo_10 => bn2 (Mo_counts mo_10 3 0 719) (fun r_12 mo_13 => if r_12 = 0 then some mo_13 else ckI ((4 * p1) + 1) 80 (stk (upm mo_13 8 ((4 * p1) + 1).toNatClampNeg (mo_13 7 0)) (fun mo_16 => bn2 (Mo_passes mo_16 47) (fun r_18 mo_19 => if r_18 = 0 then some mo_19 else bn2 (Mo_counts mo_19 3 0 300) (fun r_22 mo_23 => if r_22 = 0 then some mo_23 else ckI ((4 * p1) + 2) 80 (stk (upm mo_23 8 ((4 * p1) + 2).toNatClampNeg (mo_23 7 0)) (fun mo_26 => ckI ((4 * p1) + 3) 80 (stk (upm mo_26 8 ((4 * p1) + 3).toNatClampNeg 1) (fun mo_28 => bn2 (Mo_see mo_28) (fun r_30 mo_31 => if r_30 = 42 then stk (upm mo_31 4 0 ((mo_31 4 0) + 1)) (fun mo_33 => bn2 (Mo_counts mo_33 1 1 9) (fun r_35 mo_36 => if r_35 = 0 then some mo_36 else stk (upm mo_36 8 ((4 * p1) + 3).toNatClampNeg (mo_36 7 0)) (fun mo_38 => some mo_38))) else some mo_31)))))))))))))))
set_option maxHeartbeats 4000000 in
set_option maxRecDepth 100000 in
theorem c_X12_readsFlight (l : Launch) (D : va_G) (cy : Nat → ClassId) (qmo : Nat → Nat) (mo : Mem) (p1 : Int32) (mo' : Mem) (hp : Mo_readsFlight mo p1 = some mo') : RV l yX12_readsFlight cX12_readsFlight 3 3 D cy [.ref (qmo 0), .int p1] (w_Mo cy qmo mo) (w_Mo cy qmo mo') := by
  refine RV_of RX12 rfl (by decide) (Nat.le_of_ble_eq_true rfl) ?_
  intro p e s m below meth c A C0 hK hP hD hS hA ls hl
  obtain ⟨hx, hb, hr, hml, hown, hts, hk⟩ := id C0
  unfold Mo_readsFlight at hp
  have hl : lv_has ls 3 [(0, .ref (qmo 0)), (1, .int p1)] := hl
  refine lv_aload_n hx hb dX12_readsFlight_0 rfl (lv_at hl 0 rfl) ?_
  obtain ⟨r_2, mo_3, hc_1, hp⟩ := bn2_s hp
  refine k_RIV (As := []) (rest := []) ⟨hx, hb, hml, hown, hts⟩ hK hP hD hS hA FrS_rf (cw_X12_66 hts ⟨Nat.le_of_ble_eq_true rfl, Nat.le_of_ble_eq_true rfl⟩) 0 (ci := 12) rfl rfl rfl (c_X12_see l D cy qmo mo r_2 mo_3 hc_1) rfl hl.1 (Nat.le_of_ble_eq_true rfl) ⟨Nat.le_refl _, Nat.le_refl _⟩ dX12_readsFlight_1 (fun H locs hP hD hS => ?_)
  refine lv_istore_n (lv' := [(2, .int r_2), (0, .ref (qmo 0)), (1, .int p1)]) hx hb dX12_readsFlight_4 rfl hl (by decide) rfl (fun ls hl => ?_)
  refine lv_iload_n hx hb dX12_readsFlight_5 rfl (lv_at hl 0 rfl) ?_
  refine lv_bipush (v := 97) hx hb dX12_readsFlight_6 (by decide) ?_
  refine lv_bipush (v := 101) hx hb dX12_readsFlight_8 (by decide) ?_
  obtain ⟨r_5, hc_4, hp⟩ := bn1_s hp
  refine k_ROS (As := [.int r_2, .int 97, .int 101]) (rest := []) ⟨hx, hb, hml, hown, hts⟩ hK (show va_P D vwCl [] _ from fun k q h => by simp at h) (cw_X12_45 hts ⟨Nat.le_of_ble_eq_true rfl, Nat.le_of_ble_eq_true rfl⟩) (c_X12_in l D cy r_2 97 101 r_5 hc_4) rfl hl.1 (Nat.le_of_ble_eq_true rfl) ⟨Nat.le_refl _, Nat.le_refl _⟩ dX12_readsFlight_10 ?_
  refine lv_if_ne (tgt := 27) hx hb dX12_readsFlight_13 (by decide) (fun c_6 => ?_) (fun c_6 => ?_)
  · have hp := ite_n hp c_6
    refine lv_iload_n hx hb dX12_readsFlight_27 rfl (lv_at hl 2 rfl) ?_
    refine lv_bipush (v := 20) hx hb dX12_readsFlight_28 (by decide) ?_
    refine lv_icmp_ne (tgt := 44) hx hb dX12_readsFlight_30 (by decide) (fun c_7 => ?_) (fun c_7 => ?_)
    · have hp := ite_n hp c_7
      refine lv_aload_n hx hb dX12_readsFlight_44 rfl (lv_at hl 1 rfl) ?_
      refine lv_aload_n hx hb dX12_readsFlight_45 rfl (lv_at hl 1 rfl) ?_
      refine gf_X12_57 hx hb hts hown hK hP 0 rfl rfl dX12_readsFlight_46 ?_
      refine lv_iconst (v := 1) hx hb dX12_readsFlight_49 (by decide) ?_
      refine lv_iadd hx hb dX12_readsFlight_50 ?_
      obtain ⟨mo_8, emo_8⟩ : ∃ y : Mem, y = upm mo_3 4 0 ((mo_3 4 0) + 1) := ⟨_, rfl⟩
      have hp := stk_e hp emo_8
      refine pf_X12_57 hx hb hts hown hK hP hD hS (wn := (w_Mo cy qmo mo_8)) 0 rfl (Nat.le_of_ble_eq_true rfl) (by subst emo_8; rfl) dX12_readsFlight_51 (fun H locs hP hD hS => ?_)
      refine lv_aload_n hx hb dX12_readsFlight_54 rfl (lv_at hl 1 rfl) ?_
      refine gf_X12_20 hx hb hts hown hK hP 0 rfl rfl dX12_readsFlight_55 ?_
      refine lv_iconst (v := 4) hx hb dX12_readsFlight_58 (by decide) ?_
      refine lv_iload_n hx hb dX12_readsFlight_59 rfl (lv_at hl 2 rfl) ?_
      refine lv_imul hx hb dX12_readsFlight_60 ?_
      refine lv_iload_n hx hb dX12_readsFlight_61 rfl (lv_at hl 0 rfl) ?_
      refine lv_bipush (v := 97) hx hb dX12_readsFlight_62 (by decide) ?_
      refine lv_isub hx hb dX12_readsFlight_64 ?_
      obtain ⟨hi_9, hp⟩ := ckI_s hp
      obtain ⟨mo_10, emo_10⟩ : ∃ y : Mem, y = upm mo_8 8 (4 * p1).toNatClampNeg (r_2 - 97) := ⟨_, rfl⟩
      have hp := stk_e hp emo_10
      refine r_ist hx hb hK hP hD hS (wn := (w_Mo cy qmo mo_10)) 4 rfl hi_9 (by subst emo_10; rfl) dX12_readsFlight_65 (fun H locs hP hD hS => ?_)
      refine lv_aload_n hx hb dX12_readsFlight_66 rfl (lv_at hl 1 rfl) ?_
      refine lv_iconst (v := 3) hx hb dX12_readsFlight_67 (by decide) ?_
      refine lv_iconst (v := 0) hx hb dX12_readsFlight_68 (by decide) ?_
      refine lv_sipush (v := 719) hx hb dX12_readsFlight_69 (by decide) ?_
      obtain ⟨r_12, mo_13, hc_11, hp⟩ := bn2_s hp
      refine k_RIV (As := [.int 3, .int 0, .int 719]) (rest := []) ⟨hx, hb, hml, hown, hts⟩ hK hP hD hS hA FrS_rf (cw_X12_81 hts ⟨Nat.le_of_ble_eq_true rfl, Nat.le_of_ble_eq_true rfl⟩) 0 (ci := 12) rfl rfl rfl (c_X12_counts l D cy qmo mo_10 3 0 719 r_12 mo_13 hc_11) rfl hl.1 (Nat.le_of_ble_eq_true rfl) ⟨Nat.le_refl _, Nat.le_refl _⟩ dX12_readsFlight_72 (fun H locs hP hD hS => ?_)
      refine lv_if_ne (tgt := 79) hx hb dX12_readsFlight_75 (by decide) (fun c_14 => ?_) (fun c_14 => ?_)
      · have hp := ite_n hp c_14
        refine lv_aload_n hx hb dX12_readsFlight_79 rfl (lv_at hl 1 rfl) ?_
        refine gf_X12_20 hx hb hts hown hK hP 0 rfl rfl dX12_readsFlight_80 ?_
        refine lv_iconst (v := 4) hx hb dX12_readsFlight_83 (by decide) ?_
        refine lv_iload_n hx hb dX12_readsFlight_84 rfl (lv_at hl 2 rfl) ?_
        refine lv_imul hx hb dX12_readsFlight_85 ?_
        refine lv_iconst (v := 1) hx hb dX12_readsFlight_86 (by decide) ?_
        refine lv_iadd hx hb dX12_readsFlight_87 ?_
        refine lv_aload_n hx hb dX12_readsFlight_88 rfl (lv_at hl 1 rfl) ?_
        refine gf_X12_78 hx hb hts hown hK hP 0 rfl rfl dX12_readsFlight_89 ?_
        obtain ⟨hi_15, hp⟩ := ckI_s hp
        obtain ⟨mo_16, emo_16⟩ : ∃ y : Mem, y = upm mo_13 8 ((4 * p1) + 1).toNatClampNeg (mo_13 7 0) := ⟨_, rfl⟩
        have hp := stk_e hp emo_16
        refine r_ist hx hb hK hP hD hS (wn := (w_Mo cy qmo mo_16)) 4 rfl hi_15 (by subst emo_16; rfl) dX12_readsFlight_92 (fun H locs hP hD hS => ?_)
        refine lv_aload_n hx hb dX12_readsFlight_93 rfl (lv_at hl 1 rfl) ?_
        refine lv_bipush (v := 47) hx hb dX12_readsFlight_94 (by decide) ?_
        obtain ⟨r_18, mo_19, hc_17, hp⟩ := bn2_s hp
        refine k_RIV (As := [.int 47]) (rest := []) ⟨hx, hb, hml, hown, hts⟩ hK hP hD hS hA FrS_rf (cw_X12_84 hts ⟨Nat.le_of_ble_eq_true rfl, Nat.le_of_ble_eq_true rfl⟩) 0 (ci := 12) rfl rfl rfl (c_X12_passes l D cy qmo mo_16 47 r_18 mo_19 hc_17) rfl hl.1 (Nat.le_of_ble_eq_true rfl) ⟨Nat.le_refl _, Nat.le_refl _⟩ dX12_readsFlight_96 (fun H locs hP hD hS => ?_)
        refine lv_if_eq (tgt := 114) hx hb dX12_readsFlight_99 (by decide) (fun c_20 => ?_) (fun c_20 => ?_)
        · have hp := ite_p hp c_20
          simp only [Option.some.injEq, Prod.mk.injEq] at hp
          subst hp
          exact e_RV hx hb hr hk hP hD hS dX12_readsFlight_114
        · have hp := ite_n hp c_20
          refine lv_aload_n hx hb dX12_readsFlight_102 rfl (lv_at hl 1 rfl) ?_
          refine lv_iconst (v := 3) hx hb dX12_readsFlight_103 (by decide) ?_
          refine lv_iconst (v := 0) hx hb dX12_readsFlight_104 (by decide) ?_
          refine lv_sipush (v := 300) hx hb dX12_readsFlight_105 (by decide) ?_
          obtain ⟨r_22, mo_23, hc_21, hp⟩ := bn2_s hp
          refine k_RIV (As := [.int 3, .int 0, .int 300]) (rest := []) ⟨hx, hb, hml, hown, hts⟩ hK hP hD hS hA FrS_rf (cw_X12_81 hts ⟨Nat.le_of_ble_eq_true rfl, Nat.le_of_ble_eq_true rfl⟩) 0 (ci := 12) rfl rfl rfl (c_X12_counts l D cy qmo mo_19 3 0 300 r_22 mo_23 hc_21) rfl hl.1 (Nat.le_of_ble_eq_true rfl) ⟨Nat.le_refl _, Nat.le_refl _⟩ dX12_readsFlight_108 (fun H locs hP hD hS => ?_)
          refine lv_if_ne (tgt := 115) hx hb dX12_readsFlight_111 (by decide) (fun c_24 => ?_) (fun c_24 => ?_)
          · have hp := ite_n hp c_24
            refine lv_aload_n hx hb dX12_readsFlight_115 rfl (lv_at hl 1 rfl) ?_
            refine gf_X12_20 hx hb hts hown hK hP 0 rfl rfl dX12_readsFlight_116 ?_
            refine lv_iconst (v := 4) hx hb dX12_readsFlight_119 (by decide) ?_
            refine lv_iload_n hx hb dX12_readsFlight_120 rfl (lv_at hl 2 rfl) ?_
            refine lv_imul hx hb dX12_readsFlight_121 ?_
            refine lv_iconst (v := 2) hx hb dX12_readsFlight_122 (by decide) ?_
            refine lv_iadd hx hb dX12_readsFlight_123 ?_
            refine lv_aload_n hx hb dX12_readsFlight_124 rfl (lv_at hl 1 rfl) ?_
            refine gf_X12_78 hx hb hts hown hK hP 0 rfl rfl dX12_readsFlight_125 ?_
            obtain ⟨hi_25, hp⟩ := ckI_s hp
            obtain ⟨mo_26, emo_26⟩ : ∃ y : Mem, y = upm mo_23 8 ((4 * p1) + 2).toNatClampNeg (mo_23 7 0) := ⟨_, rfl⟩
            have hp := stk_e hp emo_26
            refine r_ist hx hb hK hP hD hS (wn := (w_Mo cy qmo mo_26)) 4 rfl hi_25 (by subst emo_26; rfl) dX12_readsFlight_128 (fun H locs hP hD hS => ?_)
            refine lv_aload_n hx hb dX12_readsFlight_129 rfl (lv_at hl 1 rfl) ?_
            refine gf_X12_20 hx hb hts hown hK hP 0 rfl rfl dX12_readsFlight_130 ?_
            refine lv_iconst (v := 4) hx hb dX12_readsFlight_133 (by decide) ?_
            refine lv_iload_n hx hb dX12_readsFlight_134 rfl (lv_at hl 2 rfl) ?_
            refine lv_imul hx hb dX12_readsFlight_135 ?_
            refine lv_iconst (v := 3) hx hb dX12_readsFlight_136 (by decide) ?_
            refine lv_iadd hx hb dX12_readsFlight_137 ?_
            refine lv_iconst (v := 1) hx hb dX12_readsFlight_138 (by decide) ?_
            obtain ⟨hi_27, hp⟩ := ckI_s hp
            obtain ⟨mo_28, emo_28⟩ : ∃ y : Mem, y = upm mo_26 8 ((4 * p1) + 3).toNatClampNeg 1 := ⟨_, rfl⟩
            have hp := stk_e hp emo_28
            refine r_ist hx hb hK hP hD hS (wn := (w_Mo cy qmo mo_28)) 4 rfl hi_27 (by subst emo_28; rfl) dX12_readsFlight_139 (fun H locs hP hD hS => ?_)
            refine lv_aload_n hx hb dX12_readsFlight_140 rfl (lv_at hl 1 rfl) ?_
            obtain ⟨r_30, mo_31, hc_29, hp⟩ := bn2_s hp
            refine k_RIV (As := []) (rest := []) ⟨hx, hb, hml, hown, hts⟩ hK hP hD hS hA FrS_rf (cw_X12_66 hts ⟨Nat.le_of_ble_eq_true rfl, Nat.le_of_ble_eq_true rfl⟩) 0 (ci := 12) rfl rfl rfl (c_X12_see l D cy qmo mo_28 r_30 mo_31 hc_29) rfl hl.1 (Nat.le_of_ble_eq_true rfl) ⟨Nat.le_refl _, Nat.le_refl _⟩ dX12_readsFlight_141 (fun H locs hP hD hS => ?_)
            refine lv_bipush (v := 42) hx hb dX12_readsFlight_144 (by decide) ?_
            refine lv_icmp_eq (tgt := 150) hx hb dX12_readsFlight_146 (by decide) (fun c_32 => ?_) (fun c_32 => ?_)
            · have hp := ite_p hp c_32
              refine lv_aload_n hx hb dX12_readsFlight_150 rfl (lv_at hl 1 rfl) ?_
              refine lv_aload_n hx hb dX12_readsFlight_151 rfl (lv_at hl 1 rfl) ?_
              refine gf_X12_57 hx hb hts hown hK hP 0 rfl rfl dX12_readsFlight_152 ?_
              refine lv_iconst (v := 1) hx hb dX12_readsFlight_155 (by decide) ?_
              refine lv_iadd hx hb dX12_readsFlight_156 ?_
              obtain ⟨mo_33, emo_33⟩ : ∃ y : Mem, y = upm mo_31 4 0 ((mo_31 4 0) + 1) := ⟨_, rfl⟩
              have hp := stk_e hp emo_33
              refine pf_X12_57 hx hb hts hown hK hP hD hS (wn := (w_Mo cy qmo mo_33)) 0 rfl (Nat.le_of_ble_eq_true rfl) (by subst emo_33; rfl) dX12_readsFlight_157 (fun H locs hP hD hS => ?_)
              refine lv_aload_n hx hb dX12_readsFlight_160 rfl (lv_at hl 1 rfl) ?_
              refine lv_iconst (v := 1) hx hb dX12_readsFlight_161 (by decide) ?_
              refine lv_iconst (v := 1) hx hb dX12_readsFlight_162 (by decide) ?_
              refine lv_bipush (v := 9) hx hb dX12_readsFlight_163 (by decide) ?_
              obtain ⟨r_35, mo_36, hc_34, hp⟩ := bn2_s hp
              refine k_RIV (As := [.int 1, .int 1, .int 9]) (rest := []) ⟨hx, hb, hml, hown, hts⟩ hK hP hD hS hA FrS_rf (cw_X12_81 hts ⟨Nat.le_of_ble_eq_true rfl, Nat.le_of_ble_eq_true rfl⟩) 0 (ci := 12) rfl rfl rfl (c_X12_counts l D cy qmo mo_33 1 1 9 r_35 mo_36 hc_34) rfl hl.1 (Nat.le_of_ble_eq_true rfl) ⟨Nat.le_refl _, Nat.le_refl _⟩ dX12_readsFlight_165 (fun H locs hP hD hS => ?_)
              refine lv_if_eq (tgt := 185) hx hb dX12_readsFlight_168 (by decide) (fun c_37 => ?_) (fun c_37 => ?_)
              · have hp := ite_p hp c_37
                simp only [Option.some.injEq, Prod.mk.injEq] at hp
                subst hp
                exact e_RV hx hb hr hk hP hD hS dX12_readsFlight_185
              · have hp := ite_n hp c_37
                refine lv_aload_n hx hb dX12_readsFlight_171 rfl (lv_at hl 1 rfl) ?_
                refine gf_X12_20 hx hb hts hown hK hP 0 rfl rfl dX12_readsFlight_172 ?_
                refine lv_iconst (v := 4) hx hb dX12_readsFlight_175 (by decide) ?_
                refine lv_iload_n hx hb dX12_readsFlight_176 rfl (lv_at hl 2 rfl) ?_
                refine lv_imul hx hb dX12_readsFlight_177 ?_
                refine lv_iconst (v := 3) hx hb dX12_readsFlight_178 (by decide) ?_
                refine lv_iadd hx hb dX12_readsFlight_179 ?_
                refine lv_aload_n hx hb dX12_readsFlight_180 rfl (lv_at hl 1 rfl) ?_
                refine gf_X12_78 hx hb hts hown hK hP 0 rfl rfl dX12_readsFlight_181 ?_
                obtain ⟨mo_38, emo_38⟩ : ∃ y : Mem, y = upm mo_36 8 ((4 * p1) + 3).toNatClampNeg (mo_36 7 0) := ⟨_, rfl⟩
                have hp := stk_e hp emo_38
                refine r_ist hx hb hK hP hD hS (wn := (w_Mo cy qmo mo_38)) 4 rfl hi_27 (by subst emo_38; rfl) dX12_readsFlight_184 (fun H locs hP hD hS => ?_)
                simp only [Option.some.injEq, Prod.mk.injEq] at hp
                subst hp
                exact e_RV hx hb hr hk hP hD hS dX12_readsFlight_185
            · have hp := ite_n hp c_32
              simp only [Option.some.injEq, Prod.mk.injEq] at hp
              subst hp
              exact e_RV hx hb hr hk hP hD hS dX12_readsFlight_149
          · have hp := ite_p hp c_24
            simp only [Option.some.injEq, Prod.mk.injEq] at hp
            subst hp
            exact e_RV hx hb hr hk hP hD hS dX12_readsFlight_114
      · have hp := ite_p hp c_14
        simp only [Option.some.injEq, Prod.mk.injEq] at hp
        subst hp
        exact e_RV hx hb hr hk hP hD hS dX12_readsFlight_78
    · have hp := ite_p hp c_7
      refine lv_aload_n hx hb dX12_readsFlight_33 rfl (lv_at hl 1 rfl) ?_
      refine lv_iconst (v := 3) hx hb dX12_readsFlight_34 (by decide) ?_
      refine lv_aload_n hx hb dX12_readsFlight_35 rfl (lv_at hl 1 rfl) ?_
      refine gf_X12_57 hx hb hts hown hK hP 0 rfl rfl dX12_readsFlight_36 ?_
      obtain ⟨r_40, mo_41, hc_39, hp⟩ := bn2_s hp
      refine k_RIV (As := [.int 3, .int (mo_3 4 0)]) (rest := []) ⟨hx, hb, hml, hown, hts⟩ hK hP hD hS hA FrS_rf (cw_X12_70 hts ⟨Nat.le_of_ble_eq_true rfl, Nat.le_of_ble_eq_true rfl⟩) 0 (ci := 12) rfl rfl rfl (c_X12_wrong l D cy qmo mo_3 3 (mo_3 4 0) r_40 mo_41 hc_39) rfl hl.1 (Nat.le_of_ble_eq_true rfl) ⟨Nat.le_refl _, Nat.le_refl _⟩ dX12_readsFlight_39 (fun H locs hP hD hS => ?_)
      refine lv_pop hx hb dX12_readsFlight_42 rfl ?_
      simp only [Option.some.injEq, Prod.mk.injEq] at hp
      subst hp
      exact e_RV hx hb hr hk hP hD hS dX12_readsFlight_43
  · have hp := ite_p hp c_6
    refine lv_aload_n hx hb dX12_readsFlight_16 rfl (lv_at hl 1 rfl) ?_
    refine lv_iconst (v := 1) hx hb dX12_readsFlight_17 (by decide) ?_
    refine lv_aload_n hx hb dX12_readsFlight_18 rfl (lv_at hl 1 rfl) ?_
    refine gf_X12_57 hx hb hts hown hK hP 0 rfl rfl dX12_readsFlight_19 ?_
    obtain ⟨r_43, mo_44, hc_42, hp⟩ := bn2_s hp
    refine k_RIV (As := [.int 1, .int (mo_3 4 0)]) (rest := []) ⟨hx, hb, hml, hown, hts⟩ hK hP hD hS hA FrS_rf (cw_X12_70 hts ⟨Nat.le_of_ble_eq_true rfl, Nat.le_of_ble_eq_true rfl⟩) 0 (ci := 12) rfl rfl rfl (c_X12_wrong l D cy qmo mo_3 1 (mo_3 4 0) r_43 mo_44 hc_42) rfl hl.1 (Nat.le_of_ble_eq_true rfl) ⟨Nat.le_refl _, Nat.le_refl _⟩ dX12_readsFlight_22 (fun H locs hP hD hS => ?_)
    refine lv_pop hx hb dX12_readsFlight_25 rfl ?_
    simp only [Option.some.injEq, Prod.mk.injEq] at hp
    subst hp
    exact e_RV hx hb hr hk hP hD hS dX12_readsFlight_26
/-! StormSlotsModel.clearsPlan()V -/
def Mo_clearsPlan_b28B (k28 : Mem → Int32 → Option (Mem)) (mo : Mem) (x1 : Int32) : Option (Mem) :=
  if 8 ≤ x1 then some mo else ckI ((176 + (5 * x1)) + 4) 1452 (stk (upm mo 0 ((176 + (5 * x1)) + 4).toNatClampNeg 0) (fun mo_7 => stk (x1 + 1) (fun x1_8 => k28 mo_7 x1_8)))
def Mo_clearsPlan_b28 : Nat → Mem → Int32 → Option (Mem)
  | 0 => fun _ _ => none
  | n + 1 => Mo_clearsPlan_b28B  (Mo_clearsPlan_b28  n)
def Mo_clearsPlan_b2B (k2 : Mem → Int32 → Option (Mem)) (mo : Mem) (x1 : Int32) : Option (Mem) :=
  if 1200 ≤ x1 then Mo_clearsPlan_b28 fl mo 0 else ckI (252 + x1) 1452 (stk (upm mo 0 (252 + x1).toNatClampNeg 0) (fun mo_3 => stk (x1 + 1) (fun x1_4 => k2 mo_3 x1_4)))
def Mo_clearsPlan_b2 : Nat → Mem → Int32 → Option (Mem)
  | 0 => fun _ _ => none
  | n + 1 => Mo_clearsPlan_b2B  (Mo_clearsPlan_b2  n)
def Mo_clearsPlan (mo : Mem) : Option (Mem) :=
  Mo_clearsPlan_b2 fl mo 0
set_option maxHeartbeats 4000000 in
set_option maxRecDepth 100000 in
theorem Mo_clearsPlan_b28B_w (C0 : cX RX12 cX12_clearsPlan none 2 p s m args meth c) (hK : kN D cy s) {qmo : Nat → Nat} {mo' : Mem} (hA : ∀ q, s.heap.size ≤ q → A q) {k28 : Mem → Int32 → Option (Mem)} (hk28 : ∀ (mo : Mem) (x1 : Int32) (H : Heap) (locs : List Loc) (ls : Array Slot), va_P D vwCl (w_Mo cy qmo mo) H → va_D A (w_Mo cy qmo mo) → va_S A s.heap H locs → lv_has ls 2 [(0, .ref (qmo 0)), (1, .int x1)] → k28 mo x1 = some mo' → W p l e (rmD 0) s m args below meth c H locs 0 0 (qRV D below args s A (w_Mo cy qmo mo')) (F0 m 28 ls [])) {mo : Mem} {x1 : Int32} {H : Heap} {locs : List Loc} (hP : va_P D vwCl (w_Mo cy qmo mo) H) (hD : va_D A (w_Mo cy qmo mo)) (hS : va_S A s.heap H locs) {ls : Array Slot} (hl : lv_has ls 2 [(0, .ref (qmo 0)), (1, .int x1)]) (hp : Mo_clearsPlan_b28B k28 mo x1 = some mo') : W p l e (rmD 0) s m args below meth c H locs 0 0 (qRV D below args s A (w_Mo cy qmo mo')) (F0 m 28 ls []) := by
  obtain ⟨hx, hb, hr, hml, hown, hts, hk⟩ := id C0
  unfold Mo_clearsPlan_b28B at hp
  refine lv_iload_n hx hb dX12_clearsPlan_28 rfl (lv_at hl 1 rfl) ?_
  refine lv_bipush (v := 8) hx hb dX12_clearsPlan_29 (by decide) ?_
  refine lv_icmp_ge (tgt := 55) hx hb dX12_clearsPlan_31 (by decide) (fun c_5 => ?_) (fun c_5 => ?_)
  · have hp := ite_p hp c_5
    simp only [Option.some.injEq, Prod.mk.injEq] at hp
    subst hp
    exact e_RV hx hb hr hk hP hD hS dX12_clearsPlan_55
  · have hp := ite_n hp c_5
    refine lv_aload_n hx hb dX12_clearsPlan_34 rfl (lv_at hl 0 rfl) ?_
    refine gf_X12_7 hx hb hts hown hK hP 0 rfl rfl dX12_clearsPlan_35 ?_
    refine lv_sipush (v := 176) hx hb dX12_clearsPlan_38 (by decide) ?_
    refine lv_iconst (v := 5) hx hb dX12_clearsPlan_41 (by decide) ?_
    refine lv_iload_n hx hb dX12_clearsPlan_42 rfl (lv_at hl 1 rfl) ?_
    refine lv_imul hx hb dX12_clearsPlan_43 ?_
    refine lv_iadd hx hb dX12_clearsPlan_44 ?_
    refine lv_iconst (v := 4) hx hb dX12_clearsPlan_45 (by decide) ?_
    refine lv_iadd hx hb dX12_clearsPlan_46 ?_
    refine lv_iconst (v := 0) hx hb dX12_clearsPlan_47 (by decide) ?_
    obtain ⟨hi_6, hp⟩ := ckI_s hp
    obtain ⟨mo_7, emo_7⟩ : ∃ y : Mem, y = upm mo 0 ((176 + (5 * x1)) + 4).toNatClampNeg 0 := ⟨_, rfl⟩
    have hp := stk_e hp emo_7
    refine r_ist hx hb hK hP hD hS (wn := (w_Mo cy qmo mo_7)) 1 rfl hi_6 (by subst emo_7; rfl) dX12_clearsPlan_48 (fun H locs hP hD hS => ?_)
    obtain ⟨x1_8, ex1_8⟩ : ∃ y : Int32, y = x1 + 1 := ⟨_, rfl⟩
    have hp := stk_e hp ex1_8
    refine lv_iinc (v := x1_8) (lv' := [(1, .int x1_8), (0, .ref (qmo 0))]) hx hb dX12_clearsPlan_49 hl (k := 1) rfl (by rw [ex1_8]; rfl) (by decide) rfl (fun ls hl => ?_)
    refine lv_goto (tgt := 28) hx hb dX12_clearsPlan_52 (by decide) ?_
    exact hk28 mo_7 x1_8 _ _ _ hP hD hS (lv_sub hl [1, 0] rfl) hp
theorem Mo_clearsPlan_b28_w (C0 : cX RX12 cX12_clearsPlan none 2 p s m args meth c) (hK : kN D cy s) {qmo : Nat → Nat} {mo' : Mem} (hA : ∀ q, s.heap.size ≤ q → A q) : ∀ (n : Nat) (mo : Mem) (x1 : Int32) (H : Heap) (locs : List Loc) (ls : Array Slot), va_P D vwCl (w_Mo cy qmo mo) H → va_D A (w_Mo cy qmo mo) → va_S A s.heap H locs → lv_has ls 2 [(0, .ref (qmo 0)), (1, .int x1)] → Mo_clearsPlan_b28  n mo x1 = some mo' → W p l e (rmD 0) s m args below meth c H locs 0 0 (qRV D below args s A (w_Mo cy qmo mo')) (F0 m 28 ls []) := by
  intro n
  induction n with
  | zero =>
    intro mo x1 H locs ls hP hD hS hl hp
    cases hp
  | succ n ih =>
    intro mo x1 H locs ls hP hD hS hl hp
    exact Mo_clearsPlan_b28B_w C0 hK hA  (fun mo x1 H locs ls hP hD hS hl hp => ih mo x1 H locs ls hP hD hS hl hp) hP hD hS hl hp
set_option maxHeartbeats 4000000 in
set_option maxRecDepth 100000 in
theorem Mo_clearsPlan_b2B_w (C0 : cX RX12 cX12_clearsPlan none 2 p s m args meth c) (hK : kN D cy s) {qmo : Nat → Nat} {mo' : Mem} (hA : ∀ q, s.heap.size ≤ q → A q) {k2 : Mem → Int32 → Option (Mem)} (hk2 : ∀ (mo : Mem) (x1 : Int32) (H : Heap) (locs : List Loc) (ls : Array Slot), va_P D vwCl (w_Mo cy qmo mo) H → va_D A (w_Mo cy qmo mo) → va_S A s.heap H locs → lv_has ls 2 [(0, .ref (qmo 0)), (1, .int x1)] → k2 mo x1 = some mo' → W p l e (rmD 0) s m args below meth c H locs 0 0 (qRV D below args s A (w_Mo cy qmo mo')) (F0 m 2 ls [])) {mo : Mem} {x1 : Int32} {H : Heap} {locs : List Loc} (hP : va_P D vwCl (w_Mo cy qmo mo) H) (hD : va_D A (w_Mo cy qmo mo)) (hS : va_S A s.heap H locs) {ls : Array Slot} (hl : lv_has ls 2 [(0, .ref (qmo 0)), (1, .int x1)]) (hp : Mo_clearsPlan_b2B k2 mo x1 = some mo') : W p l e (rmD 0) s m args below meth c H locs 0 0 (qRV D below args s A (w_Mo cy qmo mo')) (F0 m 2 ls []) := by
  obtain ⟨hx, hb, hr, hml, hown, hts, hk⟩ := id C0
  unfold Mo_clearsPlan_b2B at hp
  refine lv_iload_n hx hb dX12_clearsPlan_2 rfl (lv_at hl 1 rfl) ?_
  refine lv_sipush (v := 1200) hx hb dX12_clearsPlan_3 (by decide) ?_
  refine lv_icmp_ge (tgt := 26) hx hb dX12_clearsPlan_6 (by decide) (fun c_1 => ?_) (fun c_1 => ?_)
  · have hp := ite_p hp c_1
    refine lv_iconst (v := 0) hx hb dX12_clearsPlan_26 (by decide) ?_
    refine lv_istore_n (lv' := [(1, .int 0), (0, .ref (qmo 0))]) hx hb dX12_clearsPlan_27 rfl hl (by decide) rfl (fun ls hl => ?_)
    exact Mo_clearsPlan_b28_w C0 hK hA  fl mo 0 _ _ _ hP hD hS (lv_sub hl [1, 0] rfl) hp
  · have hp := ite_n hp c_1
    refine lv_aload_n hx hb dX12_clearsPlan_9 rfl (lv_at hl 0 rfl) ?_
    refine gf_X12_7 hx hb hts hown hK hP 0 rfl rfl dX12_clearsPlan_10 ?_
    refine lv_sipush (v := 252) hx hb dX12_clearsPlan_13 (by decide) ?_
    refine lv_iload_n hx hb dX12_clearsPlan_16 rfl (lv_at hl 1 rfl) ?_
    refine lv_iadd hx hb dX12_clearsPlan_17 ?_
    refine lv_iconst (v := 0) hx hb dX12_clearsPlan_18 (by decide) ?_
    obtain ⟨hi_2, hp⟩ := ckI_s hp
    obtain ⟨mo_3, emo_3⟩ : ∃ y : Mem, y = upm mo 0 (252 + x1).toNatClampNeg 0 := ⟨_, rfl⟩
    have hp := stk_e hp emo_3
    refine r_ist hx hb hK hP hD hS (wn := (w_Mo cy qmo mo_3)) 1 rfl hi_2 (by subst emo_3; rfl) dX12_clearsPlan_19 (fun H locs hP hD hS => ?_)
    obtain ⟨x1_4, ex1_4⟩ : ∃ y : Int32, y = x1 + 1 := ⟨_, rfl⟩
    have hp := stk_e hp ex1_4
    refine lv_iinc (v := x1_4) (lv' := [(1, .int x1_4), (0, .ref (qmo 0))]) hx hb dX12_clearsPlan_20 hl (k := 1) rfl (by rw [ex1_4]; rfl) (by decide) rfl (fun ls hl => ?_)
    refine lv_goto (tgt := 2) hx hb dX12_clearsPlan_23 (by decide) ?_
    exact hk2 mo_3 x1_4 _ _ _ hP hD hS (lv_sub hl [1, 0] rfl) hp
theorem Mo_clearsPlan_b2_w (C0 : cX RX12 cX12_clearsPlan none 2 p s m args meth c) (hK : kN D cy s) {qmo : Nat → Nat} {mo' : Mem} (hA : ∀ q, s.heap.size ≤ q → A q) : ∀ (n : Nat) (mo : Mem) (x1 : Int32) (H : Heap) (locs : List Loc) (ls : Array Slot), va_P D vwCl (w_Mo cy qmo mo) H → va_D A (w_Mo cy qmo mo) → va_S A s.heap H locs → lv_has ls 2 [(0, .ref (qmo 0)), (1, .int x1)] → Mo_clearsPlan_b2  n mo x1 = some mo' → W p l e (rmD 0) s m args below meth c H locs 0 0 (qRV D below args s A (w_Mo cy qmo mo')) (F0 m 2 ls []) := by
  intro n
  induction n with
  | zero =>
    intro mo x1 H locs ls hP hD hS hl hp
    cases hp
  | succ n ih =>
    intro mo x1 H locs ls hP hD hS hl hp
    exact Mo_clearsPlan_b2B_w C0 hK hA  (fun mo x1 H locs ls hP hD hS hl hp => ih mo x1 H locs ls hP hD hS hl hp) hP hD hS hl hp
set_option maxHeartbeats 4000000 in
set_option maxRecDepth 100000 in
theorem c_X12_clearsPlan (l : Launch) (D : va_G) (cy : Nat → ClassId) (qmo : Nat → Nat) (mo : Mem) (mo' : Mem) (hp : Mo_clearsPlan mo = some mo') : RV l yX12_clearsPlan cX12_clearsPlan 2 0 D cy [.ref (qmo 0)] (w_Mo cy qmo mo) (w_Mo cy qmo mo') := by
  refine RV_of RX12 rfl (by decide) (Nat.le_of_ble_eq_true rfl) ?_
  intro p e s m below meth c A C0 hK hP hD hS hA ls hl
  obtain ⟨hx, hb, hr, hml, hown, hts, hk⟩ := id C0
  unfold Mo_clearsPlan at hp
  have hl : lv_has ls 2 [(0, .ref (qmo 0))] := hl
  refine lv_iconst (v := 0) hx hb dX12_clearsPlan_0 (by decide) ?_
  refine lv_istore_n (lv' := [(1, .int 0), (0, .ref (qmo 0))]) hx hb dX12_clearsPlan_1 rfl hl (by decide) rfl (fun ls hl => ?_)
  exact Mo_clearsPlan_b2_w C0 hK hA  fl mo 0 _ _ _ hP hD hS (lv_sub hl [1, 0] rfl) hp
/-! StormSlotsModel.clears()V -/
def Mo_clears (mo : Mem) : Option (Mem) :=
  ckI 173 1452 (stk (upm mo 0 (173 : Int32).toNatClampNeg 0) (fun mo_2 => ckI 174 1452 (stk (upm mo_2 0 (174 : Int32).toNatClampNeg 0) (fun mo_4 => ckI 175 1452 (stk (upm mo_4 0 (175 : Int32).toNatClampNeg 0) (fun mo_6 => bn1 (Mo_clearsPlan mo_6) (fun mo_8 => some mo_8)))))))
set_option maxHeartbeats 4000000 in
set_option maxRecDepth 100000 in
theorem c_X12_clears (l : Launch) (D : va_G) (cy : Nat → ClassId) (qmo : Nat → Nat) (mo : Mem) (mo' : Mem) (hp : Mo_clears mo = some mo') : RV l yX12_clears cX12_clears 1 1 D cy [.ref (qmo 0)] (w_Mo cy qmo mo) (w_Mo cy qmo mo') := by
  refine RV_of RX12 rfl (by decide) (Nat.le_of_ble_eq_true rfl) ?_
  intro p e s m below meth c A C0 hK hP hD hS hA ls hl
  obtain ⟨hx, hb, hr, hml, hown, hts, hk⟩ := id C0
  unfold Mo_clears at hp
  have hl : lv_has ls 1 [(0, .ref (qmo 0))] := hl
  refine lv_aload_n hx hb dX12_clears_0 rfl (lv_at hl 0 rfl) ?_
  refine gf_X12_7 hx hb hts hown hK hP 0 rfl rfl dX12_clears_1 ?_
  refine lv_sipush (v := 173) hx hb dX12_clears_4 (by decide) ?_
  refine lv_iconst (v := 0) hx hb dX12_clears_7 (by decide) ?_
  obtain ⟨hi_1, hp⟩ := ckI_s hp
  obtain ⟨mo_2, emo_2⟩ : ∃ y : Mem, y = upm mo 0 (173 : Int32).toNatClampNeg 0 := ⟨_, rfl⟩
  have hp := stk_e hp emo_2
  refine r_ist hx hb hK hP hD hS (wn := (w_Mo cy qmo mo_2)) 1 rfl hi_1 (by subst emo_2; rfl) dX12_clears_8 (fun H locs hP hD hS => ?_)
  refine lv_aload_n hx hb dX12_clears_9 rfl (lv_at hl 0 rfl) ?_
  refine gf_X12_7 hx hb hts hown hK hP 0 rfl rfl dX12_clears_10 ?_
  refine lv_sipush (v := 174) hx hb dX12_clears_13 (by decide) ?_
  refine lv_iconst (v := 0) hx hb dX12_clears_16 (by decide) ?_
  obtain ⟨hi_3, hp⟩ := ckI_s hp
  obtain ⟨mo_4, emo_4⟩ : ∃ y : Mem, y = upm mo_2 0 (174 : Int32).toNatClampNeg 0 := ⟨_, rfl⟩
  have hp := stk_e hp emo_4
  refine r_ist hx hb hK hP hD hS (wn := (w_Mo cy qmo mo_4)) 1 rfl hi_3 (by subst emo_4; rfl) dX12_clears_17 (fun H locs hP hD hS => ?_)
  refine lv_aload_n hx hb dX12_clears_18 rfl (lv_at hl 0 rfl) ?_
  refine gf_X12_7 hx hb hts hown hK hP 0 rfl rfl dX12_clears_19 ?_
  refine lv_sipush (v := 175) hx hb dX12_clears_22 (by decide) ?_
  refine lv_iconst (v := 0) hx hb dX12_clears_25 (by decide) ?_
  obtain ⟨hi_5, hp⟩ := ckI_s hp
  obtain ⟨mo_6, emo_6⟩ : ∃ y : Mem, y = upm mo_4 0 (175 : Int32).toNatClampNeg 0 := ⟨_, rfl⟩
  have hp := stk_e hp emo_6
  refine r_ist hx hb hK hP hD hS (wn := (w_Mo cy qmo mo_6)) 1 rfl hi_5 (by subst emo_6; rfl) dX12_clears_26 (fun H locs hP hD hS => ?_)
  refine lv_aload_n hx hb dX12_clears_27 rfl (lv_at hl 0 rfl) ?_
  obtain ⟨mo_8, hc_7, hp⟩ := bn1_s hp
  refine k_RVV (As := []) (rest := []) ⟨hx, hb, hml, hown, hts⟩ hK hP hD hS hA FrS_rf (cw_X12_87 hts ⟨Nat.le_of_ble_eq_true rfl, Nat.le_of_ble_eq_true rfl⟩) 0 (ci := 12) rfl rfl rfl (c_X12_clearsPlan l D cy qmo mo_6 mo_8 hc_7) rfl hl.1 (Nat.le_of_ble_eq_true rfl) ⟨Nat.le_refl _, Nat.le_refl _⟩ dX12_clears_28 (fun H locs hP hD hS => ?_)
  simp only [Option.some.injEq, Prod.mk.injEq] at hp
  subst hp
  exact e_RV hx hb hr hk hP hD hS dX12_clears_31
/-! StormSlotsModel.adds(IIII)V -/
def Mo_adds (mo : Mem) (p1 : Int32) (p2 : Int32) (p3 : Int32) (p4 : Int32) : Option (Mem) :=
  ckI 173 1452 (stk (mo 0 (173 : Int32).toNatClampNeg) (fun x5_2 => bn1 (Mo_sets mo x5_2 0 p1) (fun mo_4 => bn1 (Mo_sets mo_4 x5_2 1 p2) (fun mo_6 => bn1 (Mo_sets mo_6 x5_2 2 p3) (fun mo_8 => bn1 (Mo_sets mo_8 x5_2 3 p4) (fun mo_10 => bn1 (Mo_sets mo_10 x5_2 4 (-1)) (fun mo_12 => bn1 (Mo_sets mo_12 x5_2 5 0) (fun mo_14 => bn1 (Mo_sets mo_14 x5_2 6 0) (fun mo_16 => bn1 (Mo_sets mo_16 x5_2 7 0) (fun mo_18 => stk (upm mo_18 0 (173 : Int32).toNatClampNeg (x5_2 + 1)) (fun mo_19 => some mo_19)))))))))))
set_option maxHeartbeats 4000000 in
set_option maxRecDepth 100000 in
theorem c_X12_adds (l : Launch) (D : va_G) (cy : Nat → ClassId) (qmo : Nat → Nat) (mo : Mem) (p1 p2 p3 p4 : Int32) (mo' : Mem) (hp : Mo_adds mo p1 p2 p3 p4 = some mo') : RV l yX12_adds cX12_adds 6 1 D cy [.ref (qmo 0), .int p1, .int p2, .int p3, .int p4] (w_Mo cy qmo mo) (w_Mo cy qmo mo') := by
  refine RV_of RX12 rfl (by decide) (Nat.le_of_ble_eq_true rfl) ?_
  intro p e s m below meth c A C0 hK hP hD hS hA ls hl
  obtain ⟨hx, hb, hr, hml, hown, hts, hk⟩ := id C0
  unfold Mo_adds at hp
  have hl : lv_has ls 6 [(0, .ref (qmo 0)), (1, .int p1), (2, .int p2), (3, .int p3), (4, .int p4)] := hl
  refine lv_aload_n hx hb dX12_adds_0 rfl (lv_at hl 0 rfl) ?_
  refine gf_X12_7 hx hb hts hown hK hP 0 rfl rfl dX12_adds_1 ?_
  refine lv_sipush (v := 173) hx hb dX12_adds_4 (by decide) ?_
  obtain ⟨hi_1, hp⟩ := ckI_s hp
  refine r_ild hx hb hK hP 1 rfl hi_1 dX12_adds_7 ?_
  refine lv_topi (fun x5_2 ex5_2 => ?_)
  have hp := stk_e hp ex5_2
  refine lv_istore (lv' := [(5, .int x5_2), (0, .ref (qmo 0)), (1, .int p1), (2, .int p2), (3, .int p3), (4, .int p4)]) hx hb dX12_adds_8 hl (by decide) rfl (fun ls hl => ?_)
  refine lv_aload_n hx hb dX12_adds_10 rfl (lv_at hl 1 rfl) ?_
  refine lv_iload hx hb dX12_adds_11 (lv_at hl 0 rfl) ?_
  refine lv_iconst (v := 0) hx hb dX12_adds_13 (by decide) ?_
  refine lv_iload_n hx hb dX12_adds_14 rfl (lv_at hl 2 rfl) ?_
  obtain ⟨mo_4, hc_3, hp⟩ := bn1_s hp
  refine k_RVV (As := [.int x5_2, .int 0, .int p1]) (rest := []) ⟨hx, hb, hml, hown, hts⟩ hK hP hD hS hA FrS_rf (cw_X12_90 hts ⟨Nat.le_of_ble_eq_true rfl, Nat.le_of_ble_eq_true rfl⟩) 0 (ci := 12) rfl rfl rfl (c_X12_sets l D cy qmo mo x5_2 0 p1 mo_4 hc_3) rfl hl.1 (Nat.le_of_ble_eq_true rfl) ⟨Nat.le_refl _, Nat.le_refl _⟩ dX12_adds_15 (fun H locs hP hD hS => ?_)
  refine lv_aload_n hx hb dX12_adds_18 rfl (lv_at hl 1 rfl) ?_
  refine lv_iload hx hb dX12_adds_19 (lv_at hl 0 rfl) ?_
  refine lv_iconst (v := 1) hx hb dX12_adds_21 (by decide) ?_
  refine lv_iload_n hx hb dX12_adds_22 rfl (lv_at hl 3 rfl) ?_
  obtain ⟨mo_6, hc_5, hp⟩ := bn1_s hp
  refine k_RVV (As := [.int x5_2, .int 1, .int p2]) (rest := []) ⟨hx, hb, hml, hown, hts⟩ hK hP hD hS hA FrS_rf (cw_X12_90 hts ⟨Nat.le_of_ble_eq_true rfl, Nat.le_of_ble_eq_true rfl⟩) 0 (ci := 12) rfl rfl rfl (c_X12_sets l D cy qmo mo_4 x5_2 1 p2 mo_6 hc_5) rfl hl.1 (Nat.le_of_ble_eq_true rfl) ⟨Nat.le_refl _, Nat.le_refl _⟩ dX12_adds_23 (fun H locs hP hD hS => ?_)
  refine lv_aload_n hx hb dX12_adds_26 rfl (lv_at hl 1 rfl) ?_
  refine lv_iload hx hb dX12_adds_27 (lv_at hl 0 rfl) ?_
  refine lv_iconst (v := 2) hx hb dX12_adds_29 (by decide) ?_
  refine lv_iload_n hx hb dX12_adds_30 rfl (lv_at hl 4 rfl) ?_
  obtain ⟨mo_8, hc_7, hp⟩ := bn1_s hp
  refine k_RVV (As := [.int x5_2, .int 2, .int p3]) (rest := []) ⟨hx, hb, hml, hown, hts⟩ hK hP hD hS hA FrS_rf (cw_X12_90 hts ⟨Nat.le_of_ble_eq_true rfl, Nat.le_of_ble_eq_true rfl⟩) 0 (ci := 12) rfl rfl rfl (c_X12_sets l D cy qmo mo_6 x5_2 2 p3 mo_8 hc_7) rfl hl.1 (Nat.le_of_ble_eq_true rfl) ⟨Nat.le_refl _, Nat.le_refl _⟩ dX12_adds_31 (fun H locs hP hD hS => ?_)
  refine lv_aload_n hx hb dX12_adds_34 rfl (lv_at hl 1 rfl) ?_
  refine lv_iload hx hb dX12_adds_35 (lv_at hl 0 rfl) ?_
  refine lv_iconst (v := 3) hx hb dX12_adds_37 (by decide) ?_
  refine lv_iload hx hb dX12_adds_38 (lv_at hl 5 rfl) ?_
  obtain ⟨mo_10, hc_9, hp⟩ := bn1_s hp
  refine k_RVV (As := [.int x5_2, .int 3, .int p4]) (rest := []) ⟨hx, hb, hml, hown, hts⟩ hK hP hD hS hA FrS_rf (cw_X12_90 hts ⟨Nat.le_of_ble_eq_true rfl, Nat.le_of_ble_eq_true rfl⟩) 0 (ci := 12) rfl rfl rfl (c_X12_sets l D cy qmo mo_8 x5_2 3 p4 mo_10 hc_9) rfl hl.1 (Nat.le_of_ble_eq_true rfl) ⟨Nat.le_refl _, Nat.le_refl _⟩ dX12_adds_40 (fun H locs hP hD hS => ?_)
  refine lv_aload_n hx hb dX12_adds_43 rfl (lv_at hl 1 rfl) ?_
  refine lv_iload hx hb dX12_adds_44 (lv_at hl 0 rfl) ?_
  refine lv_iconst (v := 4) hx hb dX12_adds_46 (by decide) ?_
  refine lv_iconst (v := (-1)) hx hb dX12_adds_47 (by decide) ?_
  obtain ⟨mo_12, hc_11, hp⟩ := bn1_s hp
  refine k_RVV (As := [.int x5_2, .int 4, .int (-1)]) (rest := []) ⟨hx, hb, hml, hown, hts⟩ hK hP hD hS hA FrS_rf (cw_X12_90 hts ⟨Nat.le_of_ble_eq_true rfl, Nat.le_of_ble_eq_true rfl⟩) 0 (ci := 12) rfl rfl rfl (c_X12_sets l D cy qmo mo_10 x5_2 4 (-1) mo_12 hc_11) rfl hl.1 (Nat.le_of_ble_eq_true rfl) ⟨Nat.le_refl _, Nat.le_refl _⟩ dX12_adds_48 (fun H locs hP hD hS => ?_)
  refine lv_aload_n hx hb dX12_adds_51 rfl (lv_at hl 1 rfl) ?_
  refine lv_iload hx hb dX12_adds_52 (lv_at hl 0 rfl) ?_
  refine lv_iconst (v := 5) hx hb dX12_adds_54 (by decide) ?_
  refine lv_iconst (v := 0) hx hb dX12_adds_55 (by decide) ?_
  obtain ⟨mo_14, hc_13, hp⟩ := bn1_s hp
  refine k_RVV (As := [.int x5_2, .int 5, .int 0]) (rest := []) ⟨hx, hb, hml, hown, hts⟩ hK hP hD hS hA FrS_rf (cw_X12_90 hts ⟨Nat.le_of_ble_eq_true rfl, Nat.le_of_ble_eq_true rfl⟩) 0 (ci := 12) rfl rfl rfl (c_X12_sets l D cy qmo mo_12 x5_2 5 0 mo_14 hc_13) rfl hl.1 (Nat.le_of_ble_eq_true rfl) ⟨Nat.le_refl _, Nat.le_refl _⟩ dX12_adds_56 (fun H locs hP hD hS => ?_)
  refine lv_aload_n hx hb dX12_adds_59 rfl (lv_at hl 1 rfl) ?_
  refine lv_iload hx hb dX12_adds_60 (lv_at hl 0 rfl) ?_
  refine lv_bipush (v := 6) hx hb dX12_adds_62 (by decide) ?_
  refine lv_iconst (v := 0) hx hb dX12_adds_64 (by decide) ?_
  obtain ⟨mo_16, hc_15, hp⟩ := bn1_s hp
  refine k_RVV (As := [.int x5_2, .int 6, .int 0]) (rest := []) ⟨hx, hb, hml, hown, hts⟩ hK hP hD hS hA FrS_rf (cw_X12_90 hts ⟨Nat.le_of_ble_eq_true rfl, Nat.le_of_ble_eq_true rfl⟩) 0 (ci := 12) rfl rfl rfl (c_X12_sets l D cy qmo mo_14 x5_2 6 0 mo_16 hc_15) rfl hl.1 (Nat.le_of_ble_eq_true rfl) ⟨Nat.le_refl _, Nat.le_refl _⟩ dX12_adds_65 (fun H locs hP hD hS => ?_)
  refine lv_aload_n hx hb dX12_adds_68 rfl (lv_at hl 1 rfl) ?_
  refine lv_iload hx hb dX12_adds_69 (lv_at hl 0 rfl) ?_
  refine lv_bipush (v := 7) hx hb dX12_adds_71 (by decide) ?_
  refine lv_iconst (v := 0) hx hb dX12_adds_73 (by decide) ?_
  obtain ⟨mo_18, hc_17, hp⟩ := bn1_s hp
  refine k_RVV (As := [.int x5_2, .int 7, .int 0]) (rest := []) ⟨hx, hb, hml, hown, hts⟩ hK hP hD hS hA FrS_rf (cw_X12_90 hts ⟨Nat.le_of_ble_eq_true rfl, Nat.le_of_ble_eq_true rfl⟩) 0 (ci := 12) rfl rfl rfl (c_X12_sets l D cy qmo mo_16 x5_2 7 0 mo_18 hc_17) rfl hl.1 (Nat.le_of_ble_eq_true rfl) ⟨Nat.le_refl _, Nat.le_refl _⟩ dX12_adds_74 (fun H locs hP hD hS => ?_)
  refine lv_aload_n hx hb dX12_adds_77 rfl (lv_at hl 1 rfl) ?_
  refine gf_X12_7 hx hb hts hown hK hP 0 rfl rfl dX12_adds_78 ?_
  refine lv_sipush (v := 173) hx hb dX12_adds_81 (by decide) ?_
  refine lv_iload hx hb dX12_adds_84 (lv_at hl 0 rfl) ?_
  refine lv_iconst (v := 1) hx hb dX12_adds_86 (by decide) ?_
  refine lv_iadd hx hb dX12_adds_87 ?_
  obtain ⟨mo_19, emo_19⟩ : ∃ y : Mem, y = upm mo_18 0 (173 : Int32).toNatClampNeg (x5_2 + 1) := ⟨_, rfl⟩
  have hp := stk_e hp emo_19
  refine r_ist hx hb hK hP hD hS (wn := (w_Mo cy qmo mo_19)) 1 rfl hi_1 (by subst emo_19; rfl) dX12_adds_88 (fun H locs hP hD hS => ?_)
  simp only [Option.some.injEq, Prod.mk.injEq] at hp
  subst hp
  exact e_RV hx hb hr hk hP hD hS dX12_adds_89
/-! StormSlotsModel.schedule(I)I -/
def Mo_schedule_b110B (p1 : Int32) (k110 : Mem → Int32 → Int32 → Option (Int32 × Mem)) (mo : Mem) (x2 : Int32) (x4 : Int32) : Option (Int32 × Mem) :=
  if x2 ≤ x4 then some (x2, mo) else ckI (4 * x4) 80 (ckI ((4 * x4) + 1) 80 (ckI ((4 * x4) + 2) 80 (ckI ((4 * x4) + 3) 80 (bn1 (Mo_adds mo (mo 8 (4 * x4).toNatClampNeg) (mo 8 ((4 * x4) + 1).toNatClampNeg) (mo 8 ((4 * x4) + 2).toNatClampNeg) (mo 8 ((4 * x4) + 3).toNatClampNeg)) (fun mo_31 => stk (x4 + 1) (fun x4_32 => k110 mo_31 x2 x4_32))))))
def Mo_schedule_b110 (p1 : Int32) : Nat → Mem → Int32 → Int32 → Option (Int32 × Mem)
  | 0 => fun _ _ _ => none
  | n + 1 => Mo_schedule_b110B p1 (Mo_schedule_b110 p1 n)
def Mo_schedule_b45B (p1 : Int32) (k45 : Mem → Int32 → Int32 → Option (Int32 × Mem)) (mo : Mem) (x2 : Int32) (x3 : Int32) : Option (Int32 × Mem) :=
  if x3 = 0 then if (mo 6 0) = 0 then bn1 (Mo_clears mo) (fun mo_12 => Mo_schedule_b110 p1 fl mo_12 x2 0) else some ((mo 6 0), mo) else bn1 (Mo_readsFlight mo x2) (fun mo_14 => stk (x2 + 1) (fun x2_15 => if (mo_14 6 0) = 0 then bn2 (Mo_see mo_14) (fun r_18 mo_19 => if r_18 = (-1) then k45 mo_19 x2_15 0 else bn2 (Mo_passes mo_19 59) (fun r_22 mo_23 => if r_22 = 0 then k45 mo_23 x2_15 0 else k45 mo_23 x2_15 1)) else k45 mo_14 x2_15 0))
def Mo_schedule_b45 (p1 : Int32) : Nat → Mem → Int32 → Int32 → Option (Int32 × Mem)
  | 0 => fun _ _ _ => none
  | n + 1 => Mo_schedule_b45B p1 (Mo_schedule_b45 p1 n)
def Mo_schedule (mo : Mem) (p1 : Int32) : Option (Int32 × Mem) :=
  bn1 (Mo_in p1 1 160) (fun r_2 => if r_2 = 0 then some ((-1), mo) else if p1 ≤ (mo 3 0) then stk (upm mo 3 0 0) (fun mo_5 => stk (upm mo_5 5 0 p1) (fun mo_6 => stk (upm mo_6 4 0 0) (fun mo_7 => stk (upm mo_7 6 0 0) (fun mo_8 => Mo_schedule_b45 p1 fl mo_8 0 1)))) else some ((-1), mo))
set_option maxHeartbeats 4000000 in
set_option maxRecDepth 100000 in
theorem Mo_schedule_b110B_w (C0 : cX RX12 cX12_schedule (some .int) 5 p s m args meth c) (hK : kN D cy s) {qmo : Nat → Nat} {p1 : Int32} {r : Int32} {mo' : Mem} (hA : ∀ q, s.heap.size ≤ q → A q) {k110 : Mem → Int32 → Int32 → Option (Int32 × Mem)} (hk110 : ∀ (mo : Mem) (x2 x4 : Int32) (H : Heap) (locs : List Loc) (ls : Array Slot), va_P D vwCl (w_Mo cy qmo mo) H → va_D A (w_Mo cy qmo mo) → va_S A s.heap H locs → lv_has ls 5 [(0, .ref (qmo 0)), (1, .int p1), (2, .int x2), (4, .int x4)] → k110 mo x2 x4 = some (r, mo') → W p l e (rmD 4) s m args below meth c H locs 0 0 (qRI D below args s A (w_Mo cy qmo mo') r) (F0 m 110 ls [])) {mo : Mem} {x2 : Int32} {x4 : Int32} {H : Heap} {locs : List Loc} (hP : va_P D vwCl (w_Mo cy qmo mo) H) (hD : va_D A (w_Mo cy qmo mo)) (hS : va_S A s.heap H locs) {ls : Array Slot} (hl : lv_has ls 5 [(0, .ref (qmo 0)), (1, .int p1), (2, .int x2), (4, .int x4)]) (hp : Mo_schedule_b110B p1 k110 mo x2 x4 = some (r, mo')) : W p l e (rmD 4) s m args below meth c H locs 0 0 (qRI D below args s A (w_Mo cy qmo mo') r) (F0 m 110 ls []) := by
  obtain ⟨hx, hb, hr, hml, hown, hts, hk⟩ := id C0
  unfold Mo_schedule_b110B at hp
  refine lv_iload hx hb dX12_schedule_110 (lv_at hl 3 rfl) ?_
  refine lv_iload_n hx hb dX12_schedule_112 rfl (lv_at hl 2 rfl) ?_
  refine lv_icmp_ge (tgt := 168) hx hb dX12_schedule_113 (by decide) (fun c_25 => ?_) (fun c_25 => ?_)
  · have hp := ite_p hp c_25
    refine lv_iload_n hx hb dX12_schedule_168 rfl (lv_at hl 2 rfl) ?_
    simp only [Option.some.injEq, Prod.mk.injEq] at hp
    obtain ⟨h0, rfl⟩ := hp
    exact e_RIi hx hb hr hk hP hD hS dX12_schedule_169 h0
  · have hp := ite_n hp c_25
    refine lv_aload_n hx hb dX12_schedule_116 rfl (lv_at hl 0 rfl) ?_
    refine lv_aload_n hx hb dX12_schedule_117 rfl (lv_at hl 0 rfl) ?_
    refine gf_X12_20 hx hb hts hown hK hP 0 rfl rfl dX12_schedule_118 ?_
    refine lv_iconst (v := 4) hx hb dX12_schedule_121 (by decide) ?_
    refine lv_iload hx hb dX12_schedule_122 (lv_at hl 3 rfl) ?_
    refine lv_imul hx hb dX12_schedule_124 ?_
    obtain ⟨hi_26, hp⟩ := ckI_s hp
    refine r_ild hx hb hK hP 4 rfl hi_26 dX12_schedule_125 ?_
    refine lv_aload_n hx hb dX12_schedule_126 rfl (lv_at hl 0 rfl) ?_
    refine gf_X12_20 hx hb hts hown hK hP 0 rfl rfl dX12_schedule_127 ?_
    refine lv_iconst (v := 4) hx hb dX12_schedule_130 (by decide) ?_
    refine lv_iload hx hb dX12_schedule_131 (lv_at hl 3 rfl) ?_
    refine lv_imul hx hb dX12_schedule_133 ?_
    refine lv_iconst (v := 1) hx hb dX12_schedule_134 (by decide) ?_
    refine lv_iadd hx hb dX12_schedule_135 ?_
    obtain ⟨hi_27, hp⟩ := ckI_s hp
    refine r_ild hx hb hK hP 4 rfl hi_27 dX12_schedule_136 ?_
    refine lv_aload_n hx hb dX12_schedule_137 rfl (lv_at hl 0 rfl) ?_
    refine gf_X12_20 hx hb hts hown hK hP 0 rfl rfl dX12_schedule_138 ?_
    refine lv_iconst (v := 4) hx hb dX12_schedule_141 (by decide) ?_
    refine lv_iload hx hb dX12_schedule_142 (lv_at hl 3 rfl) ?_
    refine lv_imul hx hb dX12_schedule_144 ?_
    refine lv_iconst (v := 2) hx hb dX12_schedule_145 (by decide) ?_
    refine lv_iadd hx hb dX12_schedule_146 ?_
    obtain ⟨hi_28, hp⟩ := ckI_s hp
    refine r_ild hx hb hK hP 4 rfl hi_28 dX12_schedule_147 ?_
    refine lv_aload_n hx hb dX12_schedule_148 rfl (lv_at hl 0 rfl) ?_
    refine gf_X12_20 hx hb hts hown hK hP 0 rfl rfl dX12_schedule_149 ?_
    refine lv_iconst (v := 4) hx hb dX12_schedule_152 (by decide) ?_
    refine lv_iload hx hb dX12_schedule_153 (lv_at hl 3 rfl) ?_
    refine lv_imul hx hb dX12_schedule_155 ?_
    refine lv_iconst (v := 3) hx hb dX12_schedule_156 (by decide) ?_
    refine lv_iadd hx hb dX12_schedule_157 ?_
    obtain ⟨hi_29, hp⟩ := ckI_s hp
    refine r_ild hx hb hK hP 4 rfl hi_29 dX12_schedule_158 ?_
    obtain ⟨mo_31, hc_30, hp⟩ := bn1_s hp
    refine k_RVV (As := [.int (mo 8 (4 * x4).toNatClampNeg), .int (mo 8 ((4 * x4) + 1).toNatClampNeg), .int (mo 8 ((4 * x4) + 2).toNatClampNeg), .int (mo 8 ((4 * x4) + 3).toNatClampNeg)]) (rest := []) ⟨hx, hb, hml, hown, hts⟩ hK hP hD hS hA FrS_rf (cw_X12_100 hts ⟨Nat.le_of_ble_eq_true rfl, Nat.le_of_ble_eq_true rfl⟩) 0 (ci := 12) rfl rfl rfl (c_X12_adds l D cy qmo mo (mo 8 (4 * x4).toNatClampNeg) (mo 8 ((4 * x4) + 1).toNatClampNeg) (mo 8 ((4 * x4) + 2).toNatClampNeg) (mo 8 ((4 * x4) + 3).toNatClampNeg) mo_31 hc_30) rfl hl.1 (Nat.le_of_ble_eq_true rfl) ⟨Nat.le_refl _, Nat.le_refl _⟩ dX12_schedule_159 (fun H locs hP hD hS => ?_)
    obtain ⟨x4_32, ex4_32⟩ : ∃ y : Int32, y = x4 + 1 := ⟨_, rfl⟩
    have hp := stk_e hp ex4_32
    refine lv_iinc (v := x4_32) (lv' := [(4, .int x4_32), (0, .ref (qmo 0)), (1, .int p1), (2, .int x2)]) hx hb dX12_schedule_162 hl (k := 3) rfl (by rw [ex4_32]; rfl) (by decide) rfl (fun ls hl => ?_)
    refine lv_goto (tgt := 110) hx hb dX12_schedule_165 (by decide) ?_
    exact hk110 mo_31 x2 x4_32 _ _ _ hP hD hS (lv_sub hl [1, 2, 3, 0] rfl) hp
theorem Mo_schedule_b110_w (C0 : cX RX12 cX12_schedule (some .int) 5 p s m args meth c) (hK : kN D cy s) {qmo : Nat → Nat} {p1 : Int32} {r : Int32} {mo' : Mem} (hA : ∀ q, s.heap.size ≤ q → A q) : ∀ (n : Nat) (mo : Mem) (x2 x4 : Int32) (H : Heap) (locs : List Loc) (ls : Array Slot), va_P D vwCl (w_Mo cy qmo mo) H → va_D A (w_Mo cy qmo mo) → va_S A s.heap H locs → lv_has ls 5 [(0, .ref (qmo 0)), (1, .int p1), (2, .int x2), (4, .int x4)] → Mo_schedule_b110 p1 n mo x2 x4 = some (r, mo') → W p l e (rmD 4) s m args below meth c H locs 0 0 (qRI D below args s A (w_Mo cy qmo mo') r) (F0 m 110 ls []) := by
  intro n
  induction n with
  | zero =>
    intro mo x2 x4 H locs ls hP hD hS hl hp
    cases hp
  | succ n ih =>
    intro mo x2 x4 H locs ls hP hD hS hl hp
    exact Mo_schedule_b110B_w C0 hK hA  (fun mo x2 x4 H locs ls hP hD hS hl hp => ih mo x2 x4 H locs ls hP hD hS hl hp) hP hD hS hl hp
set_option maxHeartbeats 4000000 in
set_option maxRecDepth 100000 in
theorem Mo_schedule_b45B_w (C0 : cX RX12 cX12_schedule (some .int) 5 p s m args meth c) (hK : kN D cy s) {qmo : Nat → Nat} {p1 : Int32} {r : Int32} {mo' : Mem} (hA : ∀ q, s.heap.size ≤ q → A q) {k45 : Mem → Int32 → Int32 → Option (Int32 × Mem)} (hk45 : ∀ (mo : Mem) (x2 x3 : Int32) (H : Heap) (locs : List Loc) (ls : Array Slot), va_P D vwCl (w_Mo cy qmo mo) H → va_D A (w_Mo cy qmo mo) → va_S A s.heap H locs → lv_has ls 5 [(0, .ref (qmo 0)), (1, .int p1), (2, .int x2), (3, .int x3)] → k45 mo x2 x3 = some (r, mo') → W p l e (rmD 4) s m args below meth c H locs 0 0 (qRI D below args s A (w_Mo cy qmo mo') r) (F0 m 45 ls [])) {mo : Mem} {x2 : Int32} {x3 : Int32} {H : Heap} {locs : List Loc} (hP : va_P D vwCl (w_Mo cy qmo mo) H) (hD : va_D A (w_Mo cy qmo mo)) (hS : va_S A s.heap H locs) {ls : Array Slot} (hl : lv_has ls 5 [(0, .ref (qmo 0)), (1, .int p1), (2, .int x2), (3, .int x3)]) (hp : Mo_schedule_b45B p1 k45 mo x2 x3 = some (r, mo')) : W p l e (rmD 4) s m args below meth c H locs 0 0 (qRI D below args s A (w_Mo cy qmo mo') r) (F0 m 45 ls []) := by
  obtain ⟨hx, hb, hr, hml, hown, hts, hk⟩ := id C0
  unfold Mo_schedule_b45B at hp
  refine lv_iload_n hx hb dX12_schedule_45 rfl (lv_at hl 3 rfl) ?_
  refine lv_if_eq (tgt := 91) hx hb dX12_schedule_46 (by decide) (fun c_9 => ?_) (fun c_9 => ?_)
  · have hp := ite_p hp c_9
    refine lv_aload_n hx hb dX12_schedule_91 rfl (lv_at hl 0 rfl) ?_
    refine gf_X12_63 hx hb hts hown hK hP 0 rfl rfl dX12_schedule_92 ?_
    refine lv_if_eq (tgt := 103) hx hb dX12_schedule_95 (by decide) (fun c_10 => ?_) (fun c_10 => ?_)
    · have hp := ite_p hp c_10
      refine lv_aload_n hx hb dX12_schedule_103 rfl (lv_at hl 0 rfl) ?_
      obtain ⟨mo_12, hc_11, hp⟩ := bn1_s hp
      refine k_RVV (As := []) (rest := []) ⟨hx, hb, hml, hown, hts⟩ hK hP hD hS hA FrS_rf (cw_X12_97 hts ⟨Nat.le_of_ble_eq_true rfl, Nat.le_of_ble_eq_true rfl⟩) 0 (ci := 12) rfl rfl rfl (c_X12_clears l D cy qmo mo mo_12 hc_11) rfl hl.1 (Nat.le_of_ble_eq_true rfl) ⟨Nat.le_refl _, Nat.le_refl _⟩ dX12_schedule_104 (fun H locs hP hD hS => ?_)
      refine lv_iconst (v := 0) hx hb dX12_schedule_107 (by decide) ?_
      refine lv_istore (lv' := [(4, .int 0), (0, .ref (qmo 0)), (1, .int p1), (2, .int x2), (3, .int x3)]) hx hb dX12_schedule_108 hl (by decide) rfl (fun ls hl => ?_)
      exact Mo_schedule_b110_w C0 hK hA  fl mo_12 x2 0 _ _ _ hP hD hS (lv_sub hl [1, 2, 3, 0] rfl) hp
    · have hp := ite_n hp c_10
      refine lv_aload_n hx hb dX12_schedule_98 rfl (lv_at hl 0 rfl) ?_
      refine gf_X12_63 hx hb hts hown hK hP 0 rfl rfl dX12_schedule_99 ?_
      simp only [Option.some.injEq, Prod.mk.injEq] at hp
      obtain ⟨h0, rfl⟩ := hp
      exact e_RIi hx hb hr hk hP hD hS dX12_schedule_102 h0
  · have hp := ite_n hp c_9
    refine lv_aload_n hx hb dX12_schedule_49 rfl (lv_at hl 0 rfl) ?_
    refine lv_iload_n hx hb dX12_schedule_50 rfl (lv_at hl 2 rfl) ?_
    obtain ⟨mo_14, hc_13, hp⟩ := bn1_s hp
    refine k_RVV (As := [.int x2]) (rest := []) ⟨hx, hb, hml, hown, hts⟩ hK hP hD hS hA FrS_rf (cw_X12_94 hts ⟨Nat.le_of_ble_eq_true rfl, Nat.le_of_ble_eq_true rfl⟩) 0 (ci := 12) rfl rfl rfl (c_X12_readsFlight l D cy qmo mo x2 mo_14 hc_13) rfl hl.1 (Nat.le_of_ble_eq_true rfl) ⟨Nat.le_refl _, Nat.le_refl _⟩ dX12_schedule_51 (fun H locs hP hD hS => ?_)
    refine lv_iload_n hx hb dX12_schedule_54 rfl (lv_at hl 2 rfl) ?_
    refine lv_iconst (v := 1) hx hb dX12_schedule_55 (by decide) ?_
    refine lv_iadd hx hb dX12_schedule_56 ?_
    refine lv_topi (fun x2_15 ex2_15 => ?_)
    have hp := stk_e hp ex2_15
    refine lv_istore_n (lv' := [(2, .int x2_15), (0, .ref (qmo 0)), (1, .int p1), (3, .int x3)]) hx hb dX12_schedule_57 rfl hl (by decide) rfl (fun ls hl => ?_)
    refine lv_aload_n hx hb dX12_schedule_58 rfl (lv_at hl 1 rfl) ?_
    refine gf_X12_63 hx hb hts hown hK hP 0 rfl rfl dX12_schedule_59 ?_
    refine lv_if_ne (tgt := 86) hx hb dX12_schedule_62 (by decide) (fun c_16 => ?_) (fun c_16 => ?_)
    · have hp := ite_n hp c_16
      refine lv_iconst (v := 0) hx hb dX12_schedule_86 (by decide) ?_
      refine lv_istore_n (lv' := [(3, .int 0), (2, .int x2_15), (0, .ref (qmo 0)), (1, .int p1)]) hx hb dX12_schedule_87 rfl hl (by decide) rfl (fun ls hl => ?_)
      refine lv_goto (tgt := 45) hx hb dX12_schedule_88 (by decide) ?_
      exact hk45 mo_14 x2_15 0 _ _ _ hP hD hS (lv_sub hl [2, 3, 1, 0] rfl) hp
    · have hp := ite_p hp c_16
      refine lv_aload_n hx hb dX12_schedule_65 rfl (lv_at hl 1 rfl) ?_
      obtain ⟨r_18, mo_19, hc_17, hp⟩ := bn2_s hp
      refine k_RIV (As := []) (rest := []) ⟨hx, hb, hml, hown, hts⟩ hK hP hD hS hA FrS_rf (cw_X12_66 hts ⟨Nat.le_of_ble_eq_true rfl, Nat.le_of_ble_eq_true rfl⟩) 0 (ci := 12) rfl rfl rfl (c_X12_see l D cy qmo mo_14 r_18 mo_19 hc_17) rfl hl.1 (Nat.le_of_ble_eq_true rfl) ⟨Nat.le_refl _, Nat.le_refl _⟩ dX12_schedule_66 (fun H locs hP hD hS => ?_)
      refine lv_iconst (v := (-1)) hx hb dX12_schedule_69 (by decide) ?_
      refine lv_icmp_eq (tgt := 86) hx hb dX12_schedule_70 (by decide) (fun c_20 => ?_) (fun c_20 => ?_)
      · have hp := ite_p hp c_20
        refine lv_iconst (v := 0) hx hb dX12_schedule_86 (by decide) ?_
        refine lv_istore_n (lv' := [(3, .int 0), (2, .int x2_15), (0, .ref (qmo 0)), (1, .int p1)]) hx hb dX12_schedule_87 rfl hl (by decide) rfl (fun ls hl => ?_)
        refine lv_goto (tgt := 45) hx hb dX12_schedule_88 (by decide) ?_
        exact hk45 mo_19 x2_15 0 _ _ _ hP hD hS (lv_sub hl [2, 3, 1, 0] rfl) hp
      · have hp := ite_n hp c_20
        refine lv_aload_n hx hb dX12_schedule_73 rfl (lv_at hl 1 rfl) ?_
        refine lv_bipush (v := 59) hx hb dX12_schedule_74 (by decide) ?_
        obtain ⟨r_22, mo_23, hc_21, hp⟩ := bn2_s hp
        refine k_RIV (As := [.int 59]) (rest := []) ⟨hx, hb, hml, hown, hts⟩ hK hP hD hS hA FrS_rf (cw_X12_84 hts ⟨Nat.le_of_ble_eq_true rfl, Nat.le_of_ble_eq_true rfl⟩) 0 (ci := 12) rfl rfl rfl (c_X12_passes l D cy qmo mo_19 59 r_22 mo_23 hc_21) rfl hl.1 (Nat.le_of_ble_eq_true rfl) ⟨Nat.le_refl _, Nat.le_refl _⟩ dX12_schedule_76 (fun H locs hP hD hS => ?_)
        refine lv_if_eq (tgt := 86) hx hb dX12_schedule_79 (by decide) (fun c_24 => ?_) (fun c_24 => ?_)
        · have hp := ite_p hp c_24
          refine lv_iconst (v := 0) hx hb dX12_schedule_86 (by decide) ?_
          refine lv_istore_n (lv' := [(3, .int 0), (2, .int x2_15), (0, .ref (qmo 0)), (1, .int p1)]) hx hb dX12_schedule_87 rfl hl (by decide) rfl (fun ls hl => ?_)
          refine lv_goto (tgt := 45) hx hb dX12_schedule_88 (by decide) ?_
          exact hk45 mo_23 x2_15 0 _ _ _ hP hD hS (lv_sub hl [2, 3, 1, 0] rfl) hp
        · have hp := ite_n hp c_24
          refine lv_iconst (v := 1) hx hb dX12_schedule_82 (by decide) ?_
          refine lv_goto (tgt := 87) hx hb dX12_schedule_83 (by decide) ?_
          refine lv_istore_n (lv' := [(3, .int 1), (2, .int x2_15), (0, .ref (qmo 0)), (1, .int p1)]) hx hb dX12_schedule_87 rfl hl (by decide) rfl (fun ls hl => ?_)
          refine lv_goto (tgt := 45) hx hb dX12_schedule_88 (by decide) ?_
          exact hk45 mo_23 x2_15 1 _ _ _ hP hD hS (lv_sub hl [2, 3, 1, 0] rfl) hp
theorem Mo_schedule_b45_w (C0 : cX RX12 cX12_schedule (some .int) 5 p s m args meth c) (hK : kN D cy s) {qmo : Nat → Nat} {p1 : Int32} {r : Int32} {mo' : Mem} (hA : ∀ q, s.heap.size ≤ q → A q) : ∀ (n : Nat) (mo : Mem) (x2 x3 : Int32) (H : Heap) (locs : List Loc) (ls : Array Slot), va_P D vwCl (w_Mo cy qmo mo) H → va_D A (w_Mo cy qmo mo) → va_S A s.heap H locs → lv_has ls 5 [(0, .ref (qmo 0)), (1, .int p1), (2, .int x2), (3, .int x3)] → Mo_schedule_b45 p1 n mo x2 x3 = some (r, mo') → W p l e (rmD 4) s m args below meth c H locs 0 0 (qRI D below args s A (w_Mo cy qmo mo') r) (F0 m 45 ls []) := by
  intro n
  induction n with
  | zero =>
    intro mo x2 x3 H locs ls hP hD hS hl hp
    cases hp
  | succ n ih =>
    intro mo x2 x3 H locs ls hP hD hS hl hp
    exact Mo_schedule_b45B_w C0 hK hA  (fun mo x2 x3 H locs ls hP hD hS hl hp => ih mo x2 x3 H locs ls hP hD hS hl hp) hP hD hS hl hp
set_option maxHeartbeats 4000000 in
set_option maxRecDepth 100000 in
theorem c_X12_schedule (l : Launch) (D : va_G) (cy : Nat → ClassId) (qmo : Nat → Nat) (mo : Mem) (p1 : Int32) (r : Int32) (mo' : Mem) (hp : Mo_schedule mo p1 = some (r, mo')) : RI l yX12_schedule cX12_schedule 5 (some .int) 4 D cy [.ref (qmo 0), .int p1] (w_Mo cy qmo mo) (w_Mo cy qmo mo') r := by
  refine RI_of RX12 rfl (by decide) (Nat.le_of_ble_eq_true rfl) ?_
  intro p e s m below meth c A C0 hK hP hD hS hA ls hl
  obtain ⟨hx, hb, hr, hml, hown, hts, hk⟩ := id C0
  unfold Mo_schedule at hp
  have hl : lv_has ls 5 [(0, .ref (qmo 0)), (1, .int p1)] := hl
  refine lv_iload_n hx hb dX12_schedule_0 rfl (lv_at hl 1 rfl) ?_
  refine lv_iconst (v := 1) hx hb dX12_schedule_1 (by decide) ?_
  refine lv_sipush (v := 160) hx hb dX12_schedule_2 (by decide) ?_
  obtain ⟨r_2, hc_1, hp⟩ := bn1_s hp
  refine k_ROS (As := [.int p1, .int 1, .int 160]) (rest := []) ⟨hx, hb, hml, hown, hts⟩ hK (show va_P D vwCl [] _ from fun k q h => by simp at h) (cw_X12_45 hts ⟨Nat.le_of_ble_eq_true rfl, Nat.le_of_ble_eq_true rfl⟩) (c_X12_in l D cy p1 1 160 r_2 hc_1) rfl hl.1 (Nat.le_of_ble_eq_true rfl) ⟨Nat.le_refl _, Nat.le_refl _⟩ dX12_schedule_5 ?_
  refine lv_if_eq (tgt := 19) hx hb dX12_schedule_8 (by decide) (fun c_3 => ?_) (fun c_3 => ?_)
  · have hp := ite_p hp c_3
    refine lv_iconst (v := (-1)) hx hb dX12_schedule_19 (by decide) ?_
    simp only [Option.some.injEq, Prod.mk.injEq] at hp
    obtain ⟨h0, rfl⟩ := hp
    exact e_RIi hx hb hr hk hP hD hS dX12_schedule_20 h0
  · have hp := ite_n hp c_3
    refine lv_iload_n hx hb dX12_schedule_11 rfl (lv_at hl 1 rfl) ?_
    refine lv_aload_n hx hb dX12_schedule_12 rfl (lv_at hl 0 rfl) ?_
    refine gf_X12_49 hx hb hts hown hK hP 0 rfl rfl dX12_schedule_13 ?_
    refine lv_icmp_le (tgt := 21) hx hb dX12_schedule_16 (by decide) (fun c_4 => ?_) (fun c_4 => ?_)
    · have hp := ite_p hp c_4
      refine lv_aload_n hx hb dX12_schedule_21 rfl (lv_at hl 0 rfl) ?_
      refine lv_iconst (v := 0) hx hb dX12_schedule_22 (by decide) ?_
      obtain ⟨mo_5, emo_5⟩ : ∃ y : Mem, y = upm mo 3 0 0 := ⟨_, rfl⟩
      have hp := stk_e hp emo_5
      refine pf_X12_49 hx hb hts hown hK hP hD hS (wn := (w_Mo cy qmo mo_5)) 0 rfl (Nat.le_of_ble_eq_true rfl) (by subst emo_5; rfl) dX12_schedule_23 (fun H locs hP hD hS => ?_)
      refine lv_aload_n hx hb dX12_schedule_26 rfl (lv_at hl 0 rfl) ?_
      refine lv_iload_n hx hb dX12_schedule_27 rfl (lv_at hl 1 rfl) ?_
      obtain ⟨mo_6, emo_6⟩ : ∃ y : Mem, y = upm mo_5 5 0 p1 := ⟨_, rfl⟩
      have hp := stk_e hp emo_6
      refine pf_X12_60 hx hb hts hown hK hP hD hS (wn := (w_Mo cy qmo mo_6)) 0 rfl (Nat.le_of_ble_eq_true rfl) (by subst emo_6; rfl) dX12_schedule_28 (fun H locs hP hD hS => ?_)
      refine lv_aload_n hx hb dX12_schedule_31 rfl (lv_at hl 0 rfl) ?_
      refine lv_iconst (v := 0) hx hb dX12_schedule_32 (by decide) ?_
      obtain ⟨mo_7, emo_7⟩ : ∃ y : Mem, y = upm mo_6 4 0 0 := ⟨_, rfl⟩
      have hp := stk_e hp emo_7
      refine pf_X12_57 hx hb hts hown hK hP hD hS (wn := (w_Mo cy qmo mo_7)) 0 rfl (Nat.le_of_ble_eq_true rfl) (by subst emo_7; rfl) dX12_schedule_33 (fun H locs hP hD hS => ?_)
      refine lv_aload_n hx hb dX12_schedule_36 rfl (lv_at hl 0 rfl) ?_
      refine lv_iconst (v := 0) hx hb dX12_schedule_37 (by decide) ?_
      obtain ⟨mo_8, emo_8⟩ : ∃ y : Mem, y = upm mo_7 6 0 0 := ⟨_, rfl⟩
      have hp := stk_e hp emo_8
      refine pf_X12_63 hx hb hts hown hK hP hD hS (wn := (w_Mo cy qmo mo_8)) 0 rfl (Nat.le_of_ble_eq_true rfl) (by subst emo_8; rfl) dX12_schedule_38 (fun H locs hP hD hS => ?_)
      refine lv_iconst (v := 0) hx hb dX12_schedule_41 (by decide) ?_
      refine lv_istore_n (lv' := [(2, .int 0), (0, .ref (qmo 0)), (1, .int p1)]) hx hb dX12_schedule_42 rfl hl (by decide) rfl (fun ls hl => ?_)
      refine lv_iconst (v := 1) hx hb dX12_schedule_43 (by decide) ?_
      refine lv_istore_n (lv' := [(3, .int 1), (2, .int 0), (0, .ref (qmo 0)), (1, .int p1)]) hx hb dX12_schedule_44 rfl hl (by decide) rfl (fun ls hl => ?_)
      exact Mo_schedule_b45_w C0 hK hA  fl mo_8 0 1 _ _ _ hP hD hS (lv_sub hl [2, 3, 1, 0] rfl) hp
    · have hp := ite_n hp c_4
      refine lv_iconst (v := (-1)) hx hb dX12_schedule_19 (by decide) ?_
      simp only [Option.some.injEq, Prod.mk.injEq] at hp
      obtain ⟨h0, rfl⟩ := hp
      exact e_RIi hx hb hr hk hP hD hS dX12_schedule_20 h0
/-! StormSlotsModel.flight(IIII)I -/
def Mo_flight (mo : Mem) (p1 : Int32) (p2 : Int32) (p3 : Int32) (p4 : Int32) : Option (Int32 × Mem) :=
  bn1 (Mo_isLine p1) (fun r_2 => if r_2 = 0 then some ((-1), mo) else bn1 (Mo_in p2 0 719) (fun r_5 => if r_5 = 0 then some ((-1), mo) else bn1 (Mo_in p3 0 300) (fun r_8 => if r_8 = 0 then some ((-1), mo) else bn1 (Mo_in p4 1 9) (fun r_11 => if r_11 = 0 then some ((-1), mo) else ckI 173 1452 (if (mo 0 (173 : Int32).toNatClampNeg) = 20 then some ((-2), mo) else bn1 (Mo_adds mo p1 p2 p3 p4) (fun mo_16 => some (((mo_16 0 (173 : Int32).toNatClampNeg) - 1), mo_16)))))))
set_option maxHeartbeats 4000000 in
set_option maxRecDepth 100000 in
theorem c_X12_flight (l : Launch) (D : va_G) (cy : Nat → ClassId) (qmo : Nat → Nat) (mo : Mem) (p1 p2 p3 p4 : Int32) (r : Int32) (mo' : Mem) (hp : Mo_flight mo p1 p2 p3 p4 = some (r, mo')) : RI l yX12_flight cX12_flight 5 (some .int) 2 D cy [.ref (qmo 0), .int p1, .int p2, .int p3, .int p4] (w_Mo cy qmo mo) (w_Mo cy qmo mo') r := by
  refine RI_of RX12 rfl (by decide) (Nat.le_of_ble_eq_true rfl) ?_
  intro p e s m below meth c A C0 hK hP hD hS hA ls hl
  obtain ⟨hx, hb, hr, hml, hown, hts, hk⟩ := id C0
  unfold Mo_flight at hp
  have hl : lv_has ls 5 [(0, .ref (qmo 0)), (1, .int p1), (2, .int p2), (3, .int p3), (4, .int p4)] := hl
  refine lv_iload_n hx hb dX12_flight_0 rfl (lv_at hl 1 rfl) ?_
  obtain ⟨r_2, hc_1, hp⟩ := bn1_s hp
  refine k_ROS (As := [.int p1]) (rest := []) ⟨hx, hb, hml, hown, hts⟩ hK (show va_P D vwCl [] _ from fun k q h => by simp at h) (cw_X12_104 hts ⟨Nat.le_of_ble_eq_true rfl, Nat.le_of_ble_eq_true rfl⟩) (c_X12_isLine l D cy p1 r_2 hc_1) rfl hl.1 (Nat.le_of_ble_eq_true rfl) ⟨Nat.le_refl _, Nat.le_refl _⟩ dX12_flight_1 ?_
  refine lv_if_eq (tgt := 40) hx hb dX12_flight_4 (by decide) (fun c_3 => ?_) (fun c_3 => ?_)
  · have hp := ite_p hp c_3
    refine lv_iconst (v := (-1)) hx hb dX12_flight_40 (by decide) ?_
    simp only [Option.some.injEq, Prod.mk.injEq] at hp
    obtain ⟨h0, rfl⟩ := hp
    exact e_RIi hx hb hr hk hP hD hS dX12_flight_41 h0
  · have hp := ite_n hp c_3
    refine lv_iload_n hx hb dX12_flight_7 rfl (lv_at hl 2 rfl) ?_
    refine lv_iconst (v := 0) hx hb dX12_flight_8 (by decide) ?_
    refine lv_sipush (v := 719) hx hb dX12_flight_9 (by decide) ?_
    obtain ⟨r_5, hc_4, hp⟩ := bn1_s hp
    refine k_ROS (As := [.int p2, .int 0, .int 719]) (rest := []) ⟨hx, hb, hml, hown, hts⟩ hK (show va_P D vwCl [] _ from fun k q h => by simp at h) (cw_X12_45 hts ⟨Nat.le_of_ble_eq_true rfl, Nat.le_of_ble_eq_true rfl⟩) (c_X12_in l D cy p2 0 719 r_5 hc_4) rfl hl.1 (Nat.le_of_ble_eq_true rfl) ⟨Nat.le_refl _, Nat.le_refl _⟩ dX12_flight_12 ?_
    refine lv_if_eq (tgt := 40) hx hb dX12_flight_15 (by decide) (fun c_6 => ?_) (fun c_6 => ?_)
    · have hp := ite_p hp c_6
      refine lv_iconst (v := (-1)) hx hb dX12_flight_40 (by decide) ?_
      simp only [Option.some.injEq, Prod.mk.injEq] at hp
      obtain ⟨h0, rfl⟩ := hp
      exact e_RIi hx hb hr hk hP hD hS dX12_flight_41 h0
    · have hp := ite_n hp c_6
      refine lv_iload_n hx hb dX12_flight_18 rfl (lv_at hl 3 rfl) ?_
      refine lv_iconst (v := 0) hx hb dX12_flight_19 (by decide) ?_
      refine lv_sipush (v := 300) hx hb dX12_flight_20 (by decide) ?_
      obtain ⟨r_8, hc_7, hp⟩ := bn1_s hp
      refine k_ROS (As := [.int p3, .int 0, .int 300]) (rest := []) ⟨hx, hb, hml, hown, hts⟩ hK (show va_P D vwCl [] _ from fun k q h => by simp at h) (cw_X12_45 hts ⟨Nat.le_of_ble_eq_true rfl, Nat.le_of_ble_eq_true rfl⟩) (c_X12_in l D cy p3 0 300 r_8 hc_7) rfl hl.1 (Nat.le_of_ble_eq_true rfl) ⟨Nat.le_refl _, Nat.le_refl _⟩ dX12_flight_23 ?_
      refine lv_if_eq (tgt := 40) hx hb dX12_flight_26 (by decide) (fun c_9 => ?_) (fun c_9 => ?_)
      · have hp := ite_p hp c_9
        refine lv_iconst (v := (-1)) hx hb dX12_flight_40 (by decide) ?_
        simp only [Option.some.injEq, Prod.mk.injEq] at hp
        obtain ⟨h0, rfl⟩ := hp
        exact e_RIi hx hb hr hk hP hD hS dX12_flight_41 h0
      · have hp := ite_n hp c_9
        refine lv_iload hx hb dX12_flight_29 (lv_at hl 4 rfl) ?_
        refine lv_iconst (v := 1) hx hb dX12_flight_31 (by decide) ?_
        refine lv_bipush (v := 9) hx hb dX12_flight_32 (by decide) ?_
        obtain ⟨r_11, hc_10, hp⟩ := bn1_s hp
        refine k_ROS (As := [.int p4, .int 1, .int 9]) (rest := []) ⟨hx, hb, hml, hown, hts⟩ hK (show va_P D vwCl [] _ from fun k q h => by simp at h) (cw_X12_45 hts ⟨Nat.le_of_ble_eq_true rfl, Nat.le_of_ble_eq_true rfl⟩) (c_X12_in l D cy p4 1 9 r_11 hc_10) rfl hl.1 (Nat.le_of_ble_eq_true rfl) ⟨Nat.le_refl _, Nat.le_refl _⟩ dX12_flight_34 ?_
        refine lv_if_ne (tgt := 42) hx hb dX12_flight_37 (by decide) (fun c_12 => ?_) (fun c_12 => ?_)
        · have hp := ite_n hp c_12
          refine lv_aload_n hx hb dX12_flight_42 rfl (lv_at hl 0 rfl) ?_
          refine gf_X12_7 hx hb hts hown hK hP 0 rfl rfl dX12_flight_43 ?_
          refine lv_sipush (v := 173) hx hb dX12_flight_46 (by decide) ?_
          obtain ⟨hi_13, hp⟩ := ckI_s hp
          refine r_ild hx hb hK hP 1 rfl hi_13 dX12_flight_49 ?_
          refine lv_bipush (v := 20) hx hb dX12_flight_50 (by decide) ?_
          refine lv_icmp_ne (tgt := 58) hx hb dX12_flight_52 (by decide) (fun c_14 => ?_) (fun c_14 => ?_)
          · have hp := ite_n hp c_14
            refine lv_aload_n hx hb dX12_flight_58 rfl (lv_at hl 0 rfl) ?_
            refine lv_iload_n hx hb dX12_flight_59 rfl (lv_at hl 1 rfl) ?_
            refine lv_iload_n hx hb dX12_flight_60 rfl (lv_at hl 2 rfl) ?_
            refine lv_iload_n hx hb dX12_flight_61 rfl (lv_at hl 3 rfl) ?_
            refine lv_iload hx hb dX12_flight_62 (lv_at hl 4 rfl) ?_
            obtain ⟨mo_16, hc_15, hp⟩ := bn1_s hp
            refine k_RVV (As := [.int p1, .int p2, .int p3, .int p4]) (rest := []) ⟨hx, hb, hml, hown, hts⟩ hK hP hD hS hA FrS_rf (cw_X12_100 hts ⟨Nat.le_of_ble_eq_true rfl, Nat.le_of_ble_eq_true rfl⟩) 0 (ci := 12) rfl rfl rfl (c_X12_adds l D cy qmo mo p1 p2 p3 p4 mo_16 hc_15) rfl hl.1 (Nat.le_of_ble_eq_true rfl) ⟨Nat.le_refl _, Nat.le_refl _⟩ dX12_flight_64 (fun H locs hP hD hS => ?_)
            refine lv_aload_n hx hb dX12_flight_67 rfl (lv_at hl 0 rfl) ?_
            refine gf_X12_7 hx hb hts hown hK hP 0 rfl rfl dX12_flight_68 ?_
            refine lv_sipush (v := 173) hx hb dX12_flight_71 (by decide) ?_
            refine r_ild hx hb hK hP 1 rfl hi_13 dX12_flight_74 ?_
            refine lv_iconst (v := 1) hx hb dX12_flight_75 (by decide) ?_
            refine lv_isub hx hb dX12_flight_76 ?_
            simp only [Option.some.injEq, Prod.mk.injEq] at hp
            obtain ⟨h0, rfl⟩ := hp
            exact e_RIi hx hb hr hk hP hD hS dX12_flight_77 h0
          · have hp := ite_p hp c_14
            refine lv_bipush (v := (-2)) hx hb dX12_flight_55 (by decide) ?_
            simp only [Option.some.injEq, Prod.mk.injEq] at hp
            obtain ⟨h0, rfl⟩ := hp
            exact e_RIi hx hb hr hk hP hD hS dX12_flight_57 h0
        · have hp := ite_p hp c_12
          refine lv_iconst (v := (-1)) hx hb dX12_flight_40 (by decide) ?_
          simp only [Option.some.injEq, Prod.mk.injEq] at hp
          obtain ⟨h0, rfl⟩ := hp
          exact e_RIi hx hb hr hk hP hD hS dX12_flight_41 h0
/-! StormSlotsModel.draw(I)I -/
def Mo_draw (mo : Mem) (p1 : Int32) : Option (Int32 × Mem) :=
  stk (upm mo 9 0 (((25173 * (mo 9 0)) + 13849) - ((25173 * (mo 9 0)) + 13849) / 65536 * 65536)) (fun mo_1 => ckD p1 (some ((((mo_1 9 0) / 4) - ((mo_1 9 0) / 4) / p1 * p1), mo_1)))
set_option maxHeartbeats 4000000 in
set_option maxRecDepth 100000 in
theorem c_X12_draw (l : Launch) (D : va_G) (cy : Nat → ClassId) (qmo : Nat → Nat) (mo : Mem) (p1 : Int32) (r : Int32) (mo' : Mem) (hp : Mo_draw mo p1 = some (r, mo')) : RI l yX12_draw cX12_draw 2 (some .int) 0 D cy [.ref (qmo 0), .int p1] (w_Mo cy qmo mo) (w_Mo cy qmo mo') r := by
  refine RI_of RX12 rfl (by decide) (Nat.le_of_ble_eq_true rfl) ?_
  intro p e s m below meth c A C0 hK hP hD hS hA ls hl
  obtain ⟨hx, hb, hr, hml, hown, hts, hk⟩ := id C0
  unfold Mo_draw at hp
  have hl : lv_has ls 2 [(0, .ref (qmo 0)), (1, .int p1)] := hl
  refine lv_aload_n hx hb dX12_draw_0 rfl (lv_at hl 0 rfl) ?_
  refine lv_sipush (v := 25173) hx hb dX12_draw_1 (by decide) ?_
  refine lv_aload_n hx hb dX12_draw_4 rfl (lv_at hl 0 rfl) ?_
  refine gf_X12_107 hx hb hts hown hK hP 0 rfl rfl dX12_draw_5 ?_
  refine lv_imul hx hb dX12_draw_8 ?_
  refine lv_sipush (v := 13849) hx hb dX12_draw_9 (by decide) ?_
  refine lv_iadd hx hb dX12_draw_12 ?_
  refine lc_X12_110 hx hb hts hown dX12_draw_13 ?_
  refine lv_irem hx hb dX12_draw_15 (by decide) ?_
  obtain ⟨mo_1, emo_1⟩ : ∃ y : Mem, y = upm mo 9 0 (((25173 * (mo 9 0)) + 13849) - ((25173 * (mo 9 0)) + 13849) / 65536 * 65536) := ⟨_, rfl⟩
  have hp := stk_e hp emo_1
  refine pf_X12_107 hx hb hts hown hK hP hD hS (wn := (w_Mo cy qmo mo_1)) 0 rfl (Nat.le_of_ble_eq_true rfl) (by subst emo_1; rfl) dX12_draw_16 (fun H locs hP hD hS => ?_)
  refine lv_aload_n hx hb dX12_draw_19 rfl (lv_at hl 0 rfl) ?_
  refine gf_X12_107 hx hb hts hown hK hP 0 rfl rfl dX12_draw_20 ?_
  refine lv_iconst (v := 4) hx hb dX12_draw_23 (by decide) ?_
  refine lv_idiv hx hb dX12_draw_24 (by decide) ?_
  refine lv_iload_n hx hb dX12_draw_25 rfl (lv_at hl 1 rfl) ?_
  obtain ⟨hd_2, hp⟩ := ckD_s hp
  refine lv_irem hx hb dX12_draw_26 hd_2 ?_
  simp only [Option.some.injEq, Prod.mk.injEq] at hp
  obtain ⟨h0, rfl⟩ := hp
  exact e_RIi hx hb hr hk hP hD hS dX12_draw_27 h0
/-! StormSlotsModel.draws(II)I -/
def Mo_draws_b26B (p1 : Int32) (p2 : Int32) (k26 : Mem → Int32 → Option (Int32 × Mem)) (mo : Mem) (x3 : Int32) : Option (Int32 × Mem) :=
  if p2 ≤ x3 then some ((mo 9 0), mo) else bn2 (Mo_draw mo 5) (fun r_9 mo_10 => bn2 (Mo_draw mo_10 720) (fun r_12 mo_13 => bn2 (Mo_draw mo_13 301) (fun r_15 mo_16 => bn2 (Mo_draw mo_16 9) (fun r_18 mo_19 => bn1 (Mo_adds mo_19 r_9 r_12 r_15 (r_18 + 1)) (fun mo_21 => stk (x3 + 1) (fun x3_22 => k26 mo_21 x3_22))))))
def Mo_draws_b26 (p1 : Int32) (p2 : Int32) : Nat → Mem → Int32 → Option (Int32 × Mem)
  | 0 => fun _ _ => none
  | n + 1 => Mo_draws_b26B p1 p2 (Mo_draws_b26 p1 p2 n)
def Mo_draws (mo : Mem) (p1 : Int32) (p2 : Int32) : Option (Int32 × Mem) :=
  bn1 (Mo_in p2 1 20) (fun r_2 => if r_2 = 0 then some ((-1), mo) else stk (upm mo 9 0 (p1 &&& 65535)) (fun mo_4 => bn1 (Mo_clears mo_4) (fun mo_6 => Mo_draws_b26 p1 p2 fl mo_6 0)))
set_option maxHeartbeats 4000000 in
set_option maxRecDepth 100000 in
theorem Mo_draws_b26B_w (C0 : cX RX12 cX12_draws (some .int) 7 p s m args meth c) (hK : kN D cy s) {qmo : Nat → Nat} {p1 p2 : Int32} {r : Int32} {mo' : Mem} (hA : ∀ q, s.heap.size ≤ q → A q) {k26 : Mem → Int32 → Option (Int32 × Mem)} (hk26 : ∀ (mo : Mem) (x3 : Int32) (H : Heap) (locs : List Loc) (ls : Array Slot), va_P D vwCl (w_Mo cy qmo mo) H → va_D A (w_Mo cy qmo mo) → va_S A s.heap H locs → lv_has ls 7 [(0, .ref (qmo 0)), (1, .int p1), (2, .int p2), (3, .int x3)] → k26 mo x3 = some (r, mo') → W p l e (rmD 2) s m args below meth c H locs 0 0 (qRI D below args s A (w_Mo cy qmo mo') r) (F0 m 26 ls [])) {mo : Mem} {x3 : Int32} {H : Heap} {locs : List Loc} (hP : va_P D vwCl (w_Mo cy qmo mo) H) (hD : va_D A (w_Mo cy qmo mo)) (hS : va_S A s.heap H locs) {ls : Array Slot} (hl : lv_has ls 7 [(0, .ref (qmo 0)), (1, .int p1), (2, .int p2), (3, .int x3)]) (hp : Mo_draws_b26B p1 p2 k26 mo x3 = some (r, mo')) : W p l e (rmD 2) s m args below meth c H locs 0 0 (qRI D below args s A (w_Mo cy qmo mo') r) (F0 m 26 ls []) := by
  obtain ⟨hx, hb, hr, hml, hown, hts, hk⟩ := id C0
  unfold Mo_draws_b26B at hp
  refine lv_iload_n hx hb dX12_draws_26 rfl (lv_at hl 3 rfl) ?_
  refine lv_iload_n hx hb dX12_draws_27 rfl (lv_at hl 2 rfl) ?_
  refine lv_icmp_ge (tgt := 80) hx hb dX12_draws_28 (by decide) (fun c_7 => ?_) (fun c_7 => ?_)
  · have hp := ite_p hp c_7
    refine lv_aload_n hx hb dX12_draws_80 rfl (lv_at hl 0 rfl) ?_
    refine gf_X12_107 hx hb hts hown hK hP 0 rfl rfl dX12_draws_81 ?_
    simp only [Option.some.injEq, Prod.mk.injEq] at hp
    obtain ⟨h0, rfl⟩ := hp
    exact e_RIi hx hb hr hk hP hD hS dX12_draws_84 h0
  · have hp := ite_n hp c_7
    refine lv_aload_n hx hb dX12_draws_31 rfl (lv_at hl 0 rfl) ?_
    refine lv_iconst (v := 5) hx hb dX12_draws_32 (by decide) ?_
    obtain ⟨r_9, mo_10, hc_8, hp⟩ := bn2_s hp
    refine k_RIV (As := [.int 5]) (rest := []) ⟨hx, hb, hml, hown, hts⟩ hK hP hD hS hA FrS_rf (cw_X12_112 hts ⟨Nat.le_of_ble_eq_true rfl, Nat.le_of_ble_eq_true rfl⟩) 0 (ci := 12) rfl rfl rfl (c_X12_draw l D cy qmo mo 5 r_9 mo_10 hc_8) rfl hl.1 (Nat.le_of_ble_eq_true rfl) ⟨Nat.le_refl _, Nat.le_refl _⟩ dX12_draws_33 (fun H locs hP hD hS => ?_)
    refine lv_istore (lv' := [(4, .int r_9), (0, .ref (qmo 0)), (1, .int p1), (2, .int p2), (3, .int x3)]) hx hb dX12_draws_36 hl (by decide) rfl (fun ls hl => ?_)
    refine lv_aload_n hx hb dX12_draws_38 rfl (lv_at hl 1 rfl) ?_
    refine lv_sipush (v := 720) hx hb dX12_draws_39 (by decide) ?_
    obtain ⟨r_12, mo_13, hc_11, hp⟩ := bn2_s hp
    refine k_RIV (As := [.int 720]) (rest := []) ⟨hx, hb, hml, hown, hts⟩ hK hP hD hS hA FrS_rf (cw_X12_112 hts ⟨Nat.le_of_ble_eq_true rfl, Nat.le_of_ble_eq_true rfl⟩) 0 (ci := 12) rfl rfl rfl (c_X12_draw l D cy qmo mo_10 720 r_12 mo_13 hc_11) rfl hl.1 (Nat.le_of_ble_eq_true rfl) ⟨Nat.le_refl _, Nat.le_refl _⟩ dX12_draws_42 (fun H locs hP hD hS => ?_)
    refine lv_istore (lv' := [(5, .int r_12), (4, .int r_9), (0, .ref (qmo 0)), (1, .int p1), (2, .int p2), (3, .int x3)]) hx hb dX12_draws_45 hl (by decide) rfl (fun ls hl => ?_)
    refine lv_aload_n hx hb dX12_draws_47 rfl (lv_at hl 2 rfl) ?_
    refine lv_sipush (v := 301) hx hb dX12_draws_48 (by decide) ?_
    obtain ⟨r_15, mo_16, hc_14, hp⟩ := bn2_s hp
    refine k_RIV (As := [.int 301]) (rest := []) ⟨hx, hb, hml, hown, hts⟩ hK hP hD hS hA FrS_rf (cw_X12_112 hts ⟨Nat.le_of_ble_eq_true rfl, Nat.le_of_ble_eq_true rfl⟩) 0 (ci := 12) rfl rfl rfl (c_X12_draw l D cy qmo mo_13 301 r_15 mo_16 hc_14) rfl hl.1 (Nat.le_of_ble_eq_true rfl) ⟨Nat.le_refl _, Nat.le_refl _⟩ dX12_draws_51 (fun H locs hP hD hS => ?_)
    refine lv_istore (lv' := [(6, .int r_15), (5, .int r_12), (4, .int r_9), (0, .ref (qmo 0)), (1, .int p1), (2, .int p2), (3, .int x3)]) hx hb dX12_draws_54 hl (by decide) rfl (fun ls hl => ?_)
    refine lv_aload_n hx hb dX12_draws_56 rfl (lv_at hl 3 rfl) ?_
    refine lv_iload hx hb dX12_draws_57 (lv_at hl 2 rfl) ?_
    refine lv_iload hx hb dX12_draws_59 (lv_at hl 1 rfl) ?_
    refine lv_iload hx hb dX12_draws_61 (lv_at hl 0 rfl) ?_
    refine lv_aload_n hx hb dX12_draws_63 rfl (lv_at hl 3 rfl) ?_
    refine lv_bipush (v := 9) hx hb dX12_draws_64 (by decide) ?_
    obtain ⟨r_18, mo_19, hc_17, hp⟩ := bn2_s hp
    refine k_RIV (As := [.int 9]) (rest := [.int r_15, .int r_12, .int r_9, .ref (qmo 0)]) ⟨hx, hb, hml, hown, hts⟩ hK hP hD hS hA FrS_rf (cw_X12_112 hts ⟨Nat.le_of_ble_eq_true rfl, Nat.le_of_ble_eq_true rfl⟩) 0 (ci := 12) rfl rfl rfl (c_X12_draw l D cy qmo mo_16 9 r_18 mo_19 hc_17) rfl hl.1 (Nat.le_of_ble_eq_true rfl) ⟨Nat.le_refl _, Nat.le_refl _⟩ dX12_draws_66 (fun H locs hP hD hS => ?_)
    refine lv_iconst (v := 1) hx hb dX12_draws_69 (by decide) ?_
    refine lv_iadd hx hb dX12_draws_70 ?_
    obtain ⟨mo_21, hc_20, hp⟩ := bn1_s hp
    refine k_RVV (As := [.int r_9, .int r_12, .int r_15, .int (r_18 + 1)]) (rest := []) ⟨hx, hb, hml, hown, hts⟩ hK hP hD hS hA FrS_rf (cw_X12_100 hts ⟨Nat.le_of_ble_eq_true rfl, Nat.le_of_ble_eq_true rfl⟩) 0 (ci := 12) rfl rfl rfl (c_X12_adds l D cy qmo mo_19 r_9 r_12 r_15 (r_18 + 1) mo_21 hc_20) rfl hl.1 (Nat.le_of_ble_eq_true rfl) ⟨Nat.le_refl _, Nat.le_refl _⟩ dX12_draws_71 (fun H locs hP hD hS => ?_)
    obtain ⟨x3_22, ex3_22⟩ : ∃ y : Int32, y = x3 + 1 := ⟨_, rfl⟩
    have hp := stk_e hp ex3_22
    refine lv_iinc (v := x3_22) (lv' := [(3, .int x3_22), (6, .int r_15), (5, .int r_12), (4, .int r_9), (0, .ref (qmo 0)), (1, .int p1), (2, .int p2)]) hx hb dX12_draws_74 hl (k := 6) rfl (by rw [ex3_22]; rfl) (by decide) rfl (fun ls hl => ?_)
    refine lv_goto (tgt := 26) hx hb dX12_draws_77 (by decide) ?_
    exact hk26 mo_21 x3_22 _ _ _ hP hD hS (lv_sub hl [4, 5, 6, 0] rfl) hp
theorem Mo_draws_b26_w (C0 : cX RX12 cX12_draws (some .int) 7 p s m args meth c) (hK : kN D cy s) {qmo : Nat → Nat} {p1 p2 : Int32} {r : Int32} {mo' : Mem} (hA : ∀ q, s.heap.size ≤ q → A q) : ∀ (n : Nat) (mo : Mem) (x3 : Int32) (H : Heap) (locs : List Loc) (ls : Array Slot), va_P D vwCl (w_Mo cy qmo mo) H → va_D A (w_Mo cy qmo mo) → va_S A s.heap H locs → lv_has ls 7 [(0, .ref (qmo 0)), (1, .int p1), (2, .int p2), (3, .int x3)] → Mo_draws_b26 p1 p2 n mo x3 = some (r, mo') → W p l e (rmD 2) s m args below meth c H locs 0 0 (qRI D below args s A (w_Mo cy qmo mo') r) (F0 m 26 ls []) := by
  intro n
  induction n with
  | zero =>
    intro mo x3 H locs ls hP hD hS hl hp
    cases hp
  | succ n ih =>
    intro mo x3 H locs ls hP hD hS hl hp
    exact Mo_draws_b26B_w C0 hK hA  (fun mo x3 H locs ls hP hD hS hl hp => ih mo x3 H locs ls hP hD hS hl hp) hP hD hS hl hp
set_option maxHeartbeats 4000000 in
set_option maxRecDepth 100000 in
theorem c_X12_draws (l : Launch) (D : va_G) (cy : Nat → ClassId) (qmo : Nat → Nat) (mo : Mem) (p1 p2 : Int32) (r : Int32) (mo' : Mem) (hp : Mo_draws mo p1 p2 = some (r, mo')) : RI l yX12_draws cX12_draws 7 (some .int) 2 D cy [.ref (qmo 0), .int p1, .int p2] (w_Mo cy qmo mo) (w_Mo cy qmo mo') r := by
  refine RI_of RX12 rfl (by decide) (Nat.le_of_ble_eq_true rfl) ?_
  intro p e s m below meth c A C0 hK hP hD hS hA ls hl
  obtain ⟨hx, hb, hr, hml, hown, hts, hk⟩ := id C0
  unfold Mo_draws at hp
  have hl : lv_has ls 7 [(0, .ref (qmo 0)), (1, .int p1), (2, .int p2)] := hl
  refine lv_iload_n hx hb dX12_draws_0 rfl (lv_at hl 2 rfl) ?_
  refine lv_iconst (v := 1) hx hb dX12_draws_1 (by decide) ?_
  refine lv_bipush (v := 20) hx hb dX12_draws_2 (by decide) ?_
  obtain ⟨r_2, hc_1, hp⟩ := bn1_s hp
  refine k_ROS (As := [.int p2, .int 1, .int 20]) (rest := []) ⟨hx, hb, hml, hown, hts⟩ hK (show va_P D vwCl [] _ from fun k q h => by simp at h) (cw_X12_45 hts ⟨Nat.le_of_ble_eq_true rfl, Nat.le_of_ble_eq_true rfl⟩) (c_X12_in l D cy p2 1 20 r_2 hc_1) rfl hl.1 (Nat.le_of_ble_eq_true rfl) ⟨Nat.le_refl _, Nat.le_refl _⟩ dX12_draws_4 ?_
  refine lv_if_ne (tgt := 12) hx hb dX12_draws_7 (by decide) (fun c_3 => ?_) (fun c_3 => ?_)
  · have hp := ite_n hp c_3
    refine lv_aload_n hx hb dX12_draws_12 rfl (lv_at hl 0 rfl) ?_
    refine lv_iload_n hx hb dX12_draws_13 rfl (lv_at hl 1 rfl) ?_
    refine lc_X12_111 hx hb hts hown dX12_draws_14 ?_
    refine lv_iand hx hb dX12_draws_16 ?_
    obtain ⟨mo_4, emo_4⟩ : ∃ y : Mem, y = upm mo 9 0 (p1 &&& 65535) := ⟨_, rfl⟩
    have hp := stk_e hp emo_4
    refine pf_X12_107 hx hb hts hown hK hP hD hS (wn := (w_Mo cy qmo mo_4)) 0 rfl (Nat.le_of_ble_eq_true rfl) (by subst emo_4; rfl) dX12_draws_17 (fun H locs hP hD hS => ?_)
    refine lv_aload_n hx hb dX12_draws_20 rfl (lv_at hl 0 rfl) ?_
    obtain ⟨mo_6, hc_5, hp⟩ := bn1_s hp
    refine k_RVV (As := []) (rest := []) ⟨hx, hb, hml, hown, hts⟩ hK hP hD hS hA FrS_rf (cw_X12_97 hts ⟨Nat.le_of_ble_eq_true rfl, Nat.le_of_ble_eq_true rfl⟩) 0 (ci := 12) rfl rfl rfl (c_X12_clears l D cy qmo mo_4 mo_6 hc_5) rfl hl.1 (Nat.le_of_ble_eq_true rfl) ⟨Nat.le_refl _, Nat.le_refl _⟩ dX12_draws_21 (fun H locs hP hD hS => ?_)
    refine lv_iconst (v := 0) hx hb dX12_draws_24 (by decide) ?_
    refine lv_istore_n (lv' := [(3, .int 0), (0, .ref (qmo 0)), (1, .int p1), (2, .int p2)]) hx hb dX12_draws_25 rfl hl (by decide) rfl (fun ls hl => ?_)
    exact Mo_draws_b26_w C0 hK hA  fl mo_6 0 _ _ _ hP hD hS (lv_sub hl [1, 2, 3, 0] rfl) hp
  · have hp := ite_p hp c_3
    refine lv_iconst (v := (-1)) hx hb dX12_draws_10 (by decide) ?_
    simp only [Option.some.injEq, Prod.mk.injEq] at hp
    obtain ⟨h0, rfl⟩ := hp
    exact e_RIi hx hb hr hk hP hD hS dX12_draws_11 h0
/-! StormSlotsModel.writes(I)V -/
def Mo_writes_b16 (p1 : Int32) (mo : Mem) : Option (Mem) :=
  stk (upm mo 10 0 ((mo 10 0) + 1)) (fun mo_3 => some mo_3)
def Mo_writes (mo : Mem) (p1 : Int32) : Option (Mem) :=
  if (mo 10 0) = (mo 11 0) then stk (upm mo 12 0 p1) (fun mo_2 => Mo_writes_b16 p1 mo_2) else Mo_writes_b16 p1 mo
set_option maxHeartbeats 4000000 in
set_option maxRecDepth 100000 in
theorem Mo_writes_b16_w (C0 : cX RX12 cX12_writes none 2 p s m args meth c) (hK : kN D cy s) {qmo : Nat → Nat} {p1 : Int32} {mo' : Mem} (hA : ∀ q, s.heap.size ≤ q → A q) {mo : Mem} {H : Heap} {locs : List Loc} (hP : va_P D vwCl (w_Mo cy qmo mo) H) (hD : va_D A (w_Mo cy qmo mo)) (hS : va_S A s.heap H locs) {ls : Array Slot} (hl : lv_has ls 2 [(0, .ref (qmo 0)), (1, .int p1)]) (hp : Mo_writes_b16 p1 mo = some mo') : W p l e (rmD 0) s m args below meth c H locs 0 0 (qRV D below args s A (w_Mo cy qmo mo')) (F0 m 16 ls []) := by
  obtain ⟨hx, hb, hr, hml, hown, hts, hk⟩ := id C0
  unfold Mo_writes_b16 at hp
  refine lv_aload_n hx hb dX12_writes_16 rfl (lv_at hl 0 rfl) ?_
  refine lv_aload_n hx hb dX12_writes_17 rfl (lv_at hl 0 rfl) ?_
  refine gf_X12_116 hx hb hts hown hK hP 0 rfl rfl dX12_writes_18 ?_
  refine lv_iconst (v := 1) hx hb dX12_writes_21 (by decide) ?_
  refine lv_iadd hx hb dX12_writes_22 ?_
  obtain ⟨mo_3, emo_3⟩ : ∃ y : Mem, y = upm mo 10 0 ((mo 10 0) + 1) := ⟨_, rfl⟩
  have hp := stk_e hp emo_3
  refine pf_X12_116 hx hb hts hown hK hP hD hS (wn := (w_Mo cy qmo mo_3)) 0 rfl (Nat.le_of_ble_eq_true rfl) (by subst emo_3; rfl) dX12_writes_23 (fun H locs hP hD hS => ?_)
  simp only [Option.some.injEq, Prod.mk.injEq] at hp
  subst hp
  exact e_RV hx hb hr hk hP hD hS dX12_writes_26
set_option maxHeartbeats 4000000 in
set_option maxRecDepth 100000 in
theorem c_X12_writes (l : Launch) (D : va_G) (cy : Nat → ClassId) (qmo : Nat → Nat) (mo : Mem) (p1 : Int32) (mo' : Mem) (hp : Mo_writes mo p1 = some mo') : RV l yX12_writes cX12_writes 2 0 D cy [.ref (qmo 0), .int p1] (w_Mo cy qmo mo) (w_Mo cy qmo mo') := by
  refine RV_of RX12 rfl (by decide) (Nat.le_of_ble_eq_true rfl) ?_
  intro p e s m below meth c A C0 hK hP hD hS hA ls hl
  obtain ⟨hx, hb, hr, hml, hown, hts, hk⟩ := id C0
  unfold Mo_writes at hp
  have hl : lv_has ls 2 [(0, .ref (qmo 0)), (1, .int p1)] := hl
  refine lv_aload_n hx hb dX12_writes_0 rfl (lv_at hl 0 rfl) ?_
  refine gf_X12_116 hx hb hts hown hK hP 0 rfl rfl dX12_writes_1 ?_
  refine lv_aload_n hx hb dX12_writes_4 rfl (lv_at hl 0 rfl) ?_
  refine gf_X12_119 hx hb hts hown hK hP 0 rfl rfl dX12_writes_5 ?_
  refine lv_icmp_ne (tgt := 16) hx hb dX12_writes_8 (by decide) (fun c_1 => ?_) (fun c_1 => ?_)
  · have hp := ite_n hp c_1
    exact Mo_writes_b16_w C0 hK hA  hP hD hS hl hp
  · have hp := ite_p hp c_1
    refine lv_aload_n hx hb dX12_writes_11 rfl (lv_at hl 0 rfl) ?_
    refine lv_iload_n hx hb dX12_writes_12 rfl (lv_at hl 1 rfl) ?_
    obtain ⟨mo_2, emo_2⟩ : ∃ y : Mem, y = upm mo 12 0 p1 := ⟨_, rfl⟩
    have hp := stk_e hp emo_2
    refine pf_X12_122 hx hb hts hown hK hP hD hS (wn := (w_Mo cy qmo mo_2)) 0 rfl (Nat.le_of_ble_eq_true rfl) (by subst emo_2; rfl) dX12_writes_13 (fun H locs hP hD hS => ?_)
    exact Mo_writes_b16_w C0 hK hA  hP hD hS hl hp
/-! StormSlotsModel.writesNumber(I)V -/
def Mo_writesNumber_b37 (p1 : Int32) (mo : Mem) : Option (Mem) :=
  bn1 (Mo_writes mo (48 + (p1 - p1 / 10 * 10))) (fun mo_8 => some mo_8)
def Mo_writesNumber_b17 (p1 : Int32) (mo : Mem) : Option (Mem) :=
  if p1 ≤ 9 then Mo_writesNumber_b37 p1 mo else bn1 (Mo_writes mo (48 + ((p1 / 10) - (p1 / 10) / 10 * 10))) (fun mo_6 => Mo_writesNumber_b37 p1 mo_6)
def Mo_writesNumber (mo : Mem) (p1 : Int32) : Option (Mem) :=
  if p1 ≤ 99 then Mo_writesNumber_b17 p1 mo else bn1 (Mo_writes mo (48 + (p1 / 100))) (fun mo_3 => Mo_writesNumber_b17 p1 mo_3)
set_option maxHeartbeats 4000000 in
set_option maxRecDepth 100000 in
theorem Mo_writesNumber_b37_w (C0 : cX RX12 cX12_writesNumber none 2 p s m args meth c) (hK : kN D cy s) {qmo : Nat → Nat} {p1 : Int32} {mo' : Mem} (hA : ∀ q, s.heap.size ≤ q → A q) {mo : Mem} {H : Heap} {locs : List Loc} (hP : va_P D vwCl (w_Mo cy qmo mo) H) (hD : va_D A (w_Mo cy qmo mo)) (hS : va_S A s.heap H locs) {ls : Array Slot} (hl : lv_has ls 2 [(0, .ref (qmo 0)), (1, .int p1)]) (hp : Mo_writesNumber_b37 p1 mo = some mo') : W p l e (rmD 1) s m args below meth c H locs 0 0 (qRV D below args s A (w_Mo cy qmo mo')) (F0 m 37 ls []) := by
  obtain ⟨hx, hb, hr, hml, hown, hts, hk⟩ := id C0
  unfold Mo_writesNumber_b37 at hp
  refine lv_aload_n hx hb dX12_writesNumber_37 rfl (lv_at hl 0 rfl) ?_
  refine lv_bipush (v := 48) hx hb dX12_writesNumber_38 (by decide) ?_
  refine lv_iload_n hx hb dX12_writesNumber_40 rfl (lv_at hl 1 rfl) ?_
  refine lv_bipush (v := 10) hx hb dX12_writesNumber_41 (by decide) ?_
  refine lv_irem hx hb dX12_writesNumber_43 (by decide) ?_
  refine lv_iadd hx hb dX12_writesNumber_44 ?_
  obtain ⟨mo_8, hc_7, hp⟩ := bn1_s hp
  refine k_RVV (As := [.int (48 + (p1 - p1 / 10 * 10))]) (rest := []) ⟨hx, hb, hml, hown, hts⟩ hK hP hD hS hA FrS_rf (cw_X12_125 hts ⟨Nat.le_of_ble_eq_true rfl, Nat.le_of_ble_eq_true rfl⟩) 0 (ci := 12) rfl rfl rfl (c_X12_writes l D cy qmo mo (48 + (p1 - p1 / 10 * 10)) mo_8 hc_7) rfl hl.1 (Nat.le_of_ble_eq_true rfl) ⟨Nat.le_refl _, Nat.le_refl _⟩ dX12_writesNumber_45 (fun H locs hP hD hS => ?_)
  simp only [Option.some.injEq, Prod.mk.injEq] at hp
  subst hp
  exact e_RV hx hb hr hk hP hD hS dX12_writesNumber_48
set_option maxHeartbeats 4000000 in
set_option maxRecDepth 100000 in
theorem Mo_writesNumber_b17_w (C0 : cX RX12 cX12_writesNumber none 2 p s m args meth c) (hK : kN D cy s) {qmo : Nat → Nat} {p1 : Int32} {mo' : Mem} (hA : ∀ q, s.heap.size ≤ q → A q) {mo : Mem} {H : Heap} {locs : List Loc} (hP : va_P D vwCl (w_Mo cy qmo mo) H) (hD : va_D A (w_Mo cy qmo mo)) (hS : va_S A s.heap H locs) {ls : Array Slot} (hl : lv_has ls 2 [(0, .ref (qmo 0)), (1, .int p1)]) (hp : Mo_writesNumber_b17 p1 mo = some mo') : W p l e (rmD 1) s m args below meth c H locs 0 0 (qRV D below args s A (w_Mo cy qmo mo')) (F0 m 17 ls []) := by
  obtain ⟨hx, hb, hr, hml, hown, hts, hk⟩ := id C0
  unfold Mo_writesNumber_b17 at hp
  refine lv_iload_n hx hb dX12_writesNumber_17 rfl (lv_at hl 1 rfl) ?_
  refine lv_bipush (v := 9) hx hb dX12_writesNumber_18 (by decide) ?_
  refine lv_icmp_le (tgt := 37) hx hb dX12_writesNumber_20 (by decide) (fun c_4 => ?_) (fun c_4 => ?_)
  · have hp := ite_p hp c_4
    exact Mo_writesNumber_b37_w C0 hK hA  hP hD hS hl hp
  · have hp := ite_n hp c_4
    refine lv_aload_n hx hb dX12_writesNumber_23 rfl (lv_at hl 0 rfl) ?_
    refine lv_bipush (v := 48) hx hb dX12_writesNumber_24 (by decide) ?_
    refine lv_iload_n hx hb dX12_writesNumber_26 rfl (lv_at hl 1 rfl) ?_
    refine lv_bipush (v := 10) hx hb dX12_writesNumber_27 (by decide) ?_
    refine lv_idiv hx hb dX12_writesNumber_29 (by decide) ?_
    refine lv_bipush (v := 10) hx hb dX12_writesNumber_30 (by decide) ?_
    refine lv_irem hx hb dX12_writesNumber_32 (by decide) ?_
    refine lv_iadd hx hb dX12_writesNumber_33 ?_
    obtain ⟨mo_6, hc_5, hp⟩ := bn1_s hp
    refine k_RVV (As := [.int (48 + ((p1 / 10) - (p1 / 10) / 10 * 10))]) (rest := []) ⟨hx, hb, hml, hown, hts⟩ hK hP hD hS hA FrS_rf (cw_X12_125 hts ⟨Nat.le_of_ble_eq_true rfl, Nat.le_of_ble_eq_true rfl⟩) 0 (ci := 12) rfl rfl rfl (c_X12_writes l D cy qmo mo (48 + ((p1 / 10) - (p1 / 10) / 10 * 10)) mo_6 hc_5) rfl hl.1 (Nat.le_of_ble_eq_true rfl) ⟨Nat.le_refl _, Nat.le_refl _⟩ dX12_writesNumber_34 (fun H locs hP hD hS => ?_)
    exact Mo_writesNumber_b37_w C0 hK hA  hP hD hS hl hp
set_option maxHeartbeats 4000000 in
set_option maxRecDepth 100000 in
theorem c_X12_writesNumber (l : Launch) (D : va_G) (cy : Nat → ClassId) (qmo : Nat → Nat) (mo : Mem) (p1 : Int32) (mo' : Mem) (hp : Mo_writesNumber mo p1 = some mo') : RV l yX12_writesNumber cX12_writesNumber 2 1 D cy [.ref (qmo 0), .int p1] (w_Mo cy qmo mo) (w_Mo cy qmo mo') := by
  refine RV_of RX12 rfl (by decide) (Nat.le_of_ble_eq_true rfl) ?_
  intro p e s m below meth c A C0 hK hP hD hS hA ls hl
  obtain ⟨hx, hb, hr, hml, hown, hts, hk⟩ := id C0
  unfold Mo_writesNumber at hp
  have hl : lv_has ls 2 [(0, .ref (qmo 0)), (1, .int p1)] := hl
  refine lv_iload_n hx hb dX12_writesNumber_0 rfl (lv_at hl 1 rfl) ?_
  refine lv_bipush (v := 99) hx hb dX12_writesNumber_1 (by decide) ?_
  refine lv_icmp_le (tgt := 17) hx hb dX12_writesNumber_3 (by decide) (fun c_1 => ?_) (fun c_1 => ?_)
  · have hp := ite_p hp c_1
    exact Mo_writesNumber_b17_w C0 hK hA  hP hD hS hl hp
  · have hp := ite_n hp c_1
    refine lv_aload_n hx hb dX12_writesNumber_6 rfl (lv_at hl 0 rfl) ?_
    refine lv_bipush (v := 48) hx hb dX12_writesNumber_7 (by decide) ?_
    refine lv_iload_n hx hb dX12_writesNumber_9 rfl (lv_at hl 1 rfl) ?_
    refine lv_bipush (v := 100) hx hb dX12_writesNumber_10 (by decide) ?_
    refine lv_idiv hx hb dX12_writesNumber_12 (by decide) ?_
    refine lv_iadd hx hb dX12_writesNumber_13 ?_
    obtain ⟨mo_3, hc_2, hp⟩ := bn1_s hp
    refine k_RVV (As := [.int (48 + (p1 / 100))]) (rest := []) ⟨hx, hb, hml, hown, hts⟩ hK hP hD hS hA FrS_rf (cw_X12_125 hts ⟨Nat.le_of_ble_eq_true rfl, Nat.le_of_ble_eq_true rfl⟩) 0 (ci := 12) rfl rfl rfl (c_X12_writes l D cy qmo mo (48 + (p1 / 100)) mo_3 hc_2) rfl hl.1 (Nat.le_of_ble_eq_true rfl) ⟨Nat.le_refl _, Nat.le_refl _⟩ dX12_writesNumber_14 (fun H locs hP hD hS => ?_)
    exact Mo_writesNumber_b17_w C0 hK hA  hP hD hS hl hp
/-! StormSlotsModel.letter(I)I -/
def Mo_letter_b41 (p1 : Int32) (k19 : Mem → Int32 → Option (Int32 × Mem)) (mo : Mem) (x2 : Int32) : Option (Int32 × Mem) :=
  bn1 (Mo_of mo x2 0) (fun r_12 => bn1 (Mo_writes mo (97 + r_12)) (fun mo_14 => bn1 (Mo_of mo_14 x2 1) (fun r_16 => bn1 (Mo_writesNumber mo_14 r_16) (fun mo_18 => bn1 (Mo_writes mo_18 47) (fun mo_20 => bn1 (Mo_of mo_20 x2 2) (fun r_22 => bn1 (Mo_writesNumber mo_20 r_22) (fun mo_24 => bn1 (Mo_of mo_24 x2 3) (fun r_26 => if r_26 ≤ 1 then stk (x2 + 1) (fun x2_28 => k19 mo_24 x2_28) else bn1 (Mo_writes mo_24 42) (fun mo_30 => bn1 (Mo_of mo_30 x2 3) (fun r_32 => bn1 (Mo_writesNumber mo_30 r_32) (fun mo_34 => stk (x2 + 1) (fun x2_35 => k19 mo_34 x2_35))))))))))))
def Mo_letter_b19B (p1 : Int32) (k19 : Mem → Int32 → Option (Int32 × Mem)) (mo : Mem) (x2 : Int32) : Option (Int32 × Mem) :=
  ckI 173 1452 (if (mo 0 (173 : Int32).toNatClampNeg) ≤ x2 then if p1 = (-1) then some ((mo 10 0), mo) else if (mo 10 0) ≤ p1 then some ((-2), mo) else some ((mo 12 0), mo) else if x2 ≤ 0 then Mo_letter_b41 p1 k19 mo x2 else bn1 (Mo_writes mo 59) (fun mo_10 => Mo_letter_b41 p1 k19 mo_10 x2))
def Mo_letter_b19 (p1 : Int32) : Nat → Mem → Int32 → Option (Int32 × Mem)
  | 0 => fun _ _ => none
  | n + 1 => Mo_letter_b19B p1 (Mo_letter_b19 p1 n)
def Mo_letter (mo : Mem) (p1 : Int32) : Option (Int32 × Mem) :=
  if (-1) ≤ p1 then stk (upm mo 10 0 0) (fun mo_2 => stk (upm mo_2 11 0 p1) (fun mo_3 => Mo_letter_b19 p1 fl mo_3 0)) else some ((-1), mo)
set_option maxHeartbeats 4000000 in
set_option maxRecDepth 100000 in
theorem Mo_letter_b41_w (C0 : cX RX12 cX12_letter (some .int) 3 p s m args meth c) (hK : kN D cy s) {qmo : Nat → Nat} {p1 : Int32} {r : Int32} {mo' : Mem} (hA : ∀ q, s.heap.size ≤ q → A q) {k19 : Mem → Int32 → Option (Int32 × Mem)} (hk19 : ∀ (mo : Mem) (x2 : Int32) (H : Heap) (locs : List Loc) (ls : Array Slot), va_P D vwCl (w_Mo cy qmo mo) H → va_D A (w_Mo cy qmo mo) → va_S A s.heap H locs → lv_has ls 3 [(0, .ref (qmo 0)), (1, .int p1), (2, .int x2)] → k19 mo x2 = some (r, mo') → W p l e (rmD 2) s m args below meth c H locs 0 0 (qRI D below args s A (w_Mo cy qmo mo') r) (F0 m 19 ls [])) {mo : Mem} {x2 : Int32} {H : Heap} {locs : List Loc} (hP : va_P D vwCl (w_Mo cy qmo mo) H) (hD : va_D A (w_Mo cy qmo mo)) (hS : va_S A s.heap H locs) {ls : Array Slot} (hl : lv_has ls 3 [(0, .ref (qmo 0)), (1, .int p1), (2, .int x2)]) (hp : Mo_letter_b41 p1 k19 mo x2 = some (r, mo')) : W p l e (rmD 2) s m args below meth c H locs 0 0 (qRI D below args s A (w_Mo cy qmo mo') r) (F0 m 41 ls []) := by
  obtain ⟨hx, hb, hr, hml, hown, hts, hk⟩ := id C0
  unfold Mo_letter_b41 at hp
  refine lv_aload_n hx hb dX12_letter_41 rfl (lv_at hl 0 rfl) ?_
  refine lv_bipush (v := 97) hx hb dX12_letter_42 (by decide) ?_
  refine lv_aload_n hx hb dX12_letter_44 rfl (lv_at hl 0 rfl) ?_
  refine lv_iload_n hx hb dX12_letter_45 rfl (lv_at hl 2 rfl) ?_
  refine lv_iconst (v := 0) hx hb dX12_letter_46 (by decide) ?_
  obtain ⟨r_12, hc_11, hp⟩ := bn1_s hp
  refine k_ROV (As := [.int x2, .int 0]) (rest := [.int 97, .ref (qmo 0)]) ⟨hx, hb, hml, hown, hts⟩ hK hP (cw_X12_128 hts ⟨Nat.le_of_ble_eq_true rfl, Nat.le_of_ble_eq_true rfl⟩) 0 (ci := 12) rfl rfl rfl (c_X12_of l D cy qmo mo x2 0 r_12 hc_11) rfl hl.1 (Nat.le_of_ble_eq_true rfl) ⟨Nat.le_refl _, Nat.le_refl _⟩ dX12_letter_47 ?_
  refine lv_iadd hx hb dX12_letter_50 ?_
  obtain ⟨mo_14, hc_13, hp⟩ := bn1_s hp
  refine k_RVV (As := [.int (97 + r_12)]) (rest := []) ⟨hx, hb, hml, hown, hts⟩ hK hP hD hS hA FrS_rf (cw_X12_125 hts ⟨Nat.le_of_ble_eq_true rfl, Nat.le_of_ble_eq_true rfl⟩) 0 (ci := 12) rfl rfl rfl (c_X12_writes l D cy qmo mo (97 + r_12) mo_14 hc_13) rfl hl.1 (Nat.le_of_ble_eq_true rfl) ⟨Nat.le_refl _, Nat.le_refl _⟩ dX12_letter_51 (fun H locs hP hD hS => ?_)
  refine lv_aload_n hx hb dX12_letter_54 rfl (lv_at hl 0 rfl) ?_
  refine lv_aload_n hx hb dX12_letter_55 rfl (lv_at hl 0 rfl) ?_
  refine lv_iload_n hx hb dX12_letter_56 rfl (lv_at hl 2 rfl) ?_
  refine lv_iconst (v := 1) hx hb dX12_letter_57 (by decide) ?_
  obtain ⟨r_16, hc_15, hp⟩ := bn1_s hp
  refine k_ROV (As := [.int x2, .int 1]) (rest := [.ref (qmo 0)]) ⟨hx, hb, hml, hown, hts⟩ hK hP (cw_X12_128 hts ⟨Nat.le_of_ble_eq_true rfl, Nat.le_of_ble_eq_true rfl⟩) 0 (ci := 12) rfl rfl rfl (c_X12_of l D cy qmo mo_14 x2 1 r_16 hc_15) rfl hl.1 (Nat.le_of_ble_eq_true rfl) ⟨Nat.le_refl _, Nat.le_refl _⟩ dX12_letter_58 ?_
  obtain ⟨mo_18, hc_17, hp⟩ := bn1_s hp
  refine k_RVV (As := [.int r_16]) (rest := []) ⟨hx, hb, hml, hown, hts⟩ hK hP hD hS hA FrS_rf (cw_X12_132 hts ⟨Nat.le_of_ble_eq_true rfl, Nat.le_of_ble_eq_true rfl⟩) 0 (ci := 12) rfl rfl rfl (c_X12_writesNumber l D cy qmo mo_14 r_16 mo_18 hc_17) rfl hl.1 (Nat.le_of_ble_eq_true rfl) ⟨Nat.le_refl _, Nat.le_refl _⟩ dX12_letter_61 (fun H locs hP hD hS => ?_)
  refine lv_aload_n hx hb dX12_letter_64 rfl (lv_at hl 0 rfl) ?_
  refine lv_bipush (v := 47) hx hb dX12_letter_65 (by decide) ?_
  obtain ⟨mo_20, hc_19, hp⟩ := bn1_s hp
  refine k_RVV (As := [.int 47]) (rest := []) ⟨hx, hb, hml, hown, hts⟩ hK hP hD hS hA FrS_rf (cw_X12_125 hts ⟨Nat.le_of_ble_eq_true rfl, Nat.le_of_ble_eq_true rfl⟩) 0 (ci := 12) rfl rfl rfl (c_X12_writes l D cy qmo mo_18 47 mo_20 hc_19) rfl hl.1 (Nat.le_of_ble_eq_true rfl) ⟨Nat.le_refl _, Nat.le_refl _⟩ dX12_letter_67 (fun H locs hP hD hS => ?_)
  refine lv_aload_n hx hb dX12_letter_70 rfl (lv_at hl 0 rfl) ?_
  refine lv_aload_n hx hb dX12_letter_71 rfl (lv_at hl 0 rfl) ?_
  refine lv_iload_n hx hb dX12_letter_72 rfl (lv_at hl 2 rfl) ?_
  refine lv_iconst (v := 2) hx hb dX12_letter_73 (by decide) ?_
  obtain ⟨r_22, hc_21, hp⟩ := bn1_s hp
  refine k_ROV (As := [.int x2, .int 2]) (rest := [.ref (qmo 0)]) ⟨hx, hb, hml, hown, hts⟩ hK hP (cw_X12_128 hts ⟨Nat.le_of_ble_eq_true rfl, Nat.le_of_ble_eq_true rfl⟩) 0 (ci := 12) rfl rfl rfl (c_X12_of l D cy qmo mo_20 x2 2 r_22 hc_21) rfl hl.1 (Nat.le_of_ble_eq_true rfl) ⟨Nat.le_refl _, Nat.le_refl _⟩ dX12_letter_74 ?_
  obtain ⟨mo_24, hc_23, hp⟩ := bn1_s hp
  refine k_RVV (As := [.int r_22]) (rest := []) ⟨hx, hb, hml, hown, hts⟩ hK hP hD hS hA FrS_rf (cw_X12_132 hts ⟨Nat.le_of_ble_eq_true rfl, Nat.le_of_ble_eq_true rfl⟩) 0 (ci := 12) rfl rfl rfl (c_X12_writesNumber l D cy qmo mo_20 r_22 mo_24 hc_23) rfl hl.1 (Nat.le_of_ble_eq_true rfl) ⟨Nat.le_refl _, Nat.le_refl _⟩ dX12_letter_77 (fun H locs hP hD hS => ?_)
  refine lv_aload_n hx hb dX12_letter_80 rfl (lv_at hl 0 rfl) ?_
  refine lv_iload_n hx hb dX12_letter_81 rfl (lv_at hl 2 rfl) ?_
  refine lv_iconst (v := 3) hx hb dX12_letter_82 (by decide) ?_
  obtain ⟨r_26, hc_25, hp⟩ := bn1_s hp
  refine k_ROV (As := [.int x2, .int 3]) (rest := []) ⟨hx, hb, hml, hown, hts⟩ hK hP (cw_X12_128 hts ⟨Nat.le_of_ble_eq_true rfl, Nat.le_of_ble_eq_true rfl⟩) 0 (ci := 12) rfl rfl rfl (c_X12_of l D cy qmo mo_24 x2 3 r_26 hc_25) rfl hl.1 (Nat.le_of_ble_eq_true rfl) ⟨Nat.le_refl _, Nat.le_refl _⟩ dX12_letter_83 ?_
  refine lv_iconst (v := 1) hx hb dX12_letter_86 (by decide) ?_
  refine lv_icmp_le (tgt := 106) hx hb dX12_letter_87 (by decide) (fun c_27 => ?_) (fun c_27 => ?_)
  · have hp := ite_p hp c_27
    obtain ⟨x2_28, ex2_28⟩ : ∃ y : Int32, y = x2 + 1 := ⟨_, rfl⟩
    have hp := stk_e hp ex2_28
    refine lv_iinc (v := x2_28) (lv' := [(2, .int x2_28), (0, .ref (qmo 0)), (1, .int p1)]) hx hb dX12_letter_106 hl (k := 2) rfl (by rw [ex2_28]; rfl) (by decide) rfl (fun ls hl => ?_)
    refine lv_goto (tgt := 19) hx hb dX12_letter_109 (by decide) ?_
    exact hk19 mo_24 x2_28 _ _ _ hP hD hS (lv_sub hl [1, 2, 0] rfl) hp
  · have hp := ite_n hp c_27
    refine lv_aload_n hx hb dX12_letter_90 rfl (lv_at hl 0 rfl) ?_
    refine lv_bipush (v := 42) hx hb dX12_letter_91 (by decide) ?_
    obtain ⟨mo_30, hc_29, hp⟩ := bn1_s hp
    refine k_RVV (As := [.int 42]) (rest := []) ⟨hx, hb, hml, hown, hts⟩ hK hP hD hS hA FrS_rf (cw_X12_125 hts ⟨Nat.le_of_ble_eq_true rfl, Nat.le_of_ble_eq_true rfl⟩) 0 (ci := 12) rfl rfl rfl (c_X12_writes l D cy qmo mo_24 42 mo_30 hc_29) rfl hl.1 (Nat.le_of_ble_eq_true rfl) ⟨Nat.le_refl _, Nat.le_refl _⟩ dX12_letter_93 (fun H locs hP hD hS => ?_)
    refine lv_aload_n hx hb dX12_letter_96 rfl (lv_at hl 0 rfl) ?_
    refine lv_aload_n hx hb dX12_letter_97 rfl (lv_at hl 0 rfl) ?_
    refine lv_iload_n hx hb dX12_letter_98 rfl (lv_at hl 2 rfl) ?_
    refine lv_iconst (v := 3) hx hb dX12_letter_99 (by decide) ?_
    obtain ⟨r_32, hc_31, hp⟩ := bn1_s hp
    refine k_ROV (As := [.int x2, .int 3]) (rest := [.ref (qmo 0)]) ⟨hx, hb, hml, hown, hts⟩ hK hP (cw_X12_128 hts ⟨Nat.le_of_ble_eq_true rfl, Nat.le_of_ble_eq_true rfl⟩) 0 (ci := 12) rfl rfl rfl (c_X12_of l D cy qmo mo_30 x2 3 r_32 hc_31) rfl hl.1 (Nat.le_of_ble_eq_true rfl) ⟨Nat.le_refl _, Nat.le_refl _⟩ dX12_letter_100 ?_
    obtain ⟨mo_34, hc_33, hp⟩ := bn1_s hp
    refine k_RVV (As := [.int r_32]) (rest := []) ⟨hx, hb, hml, hown, hts⟩ hK hP hD hS hA FrS_rf (cw_X12_132 hts ⟨Nat.le_of_ble_eq_true rfl, Nat.le_of_ble_eq_true rfl⟩) 0 (ci := 12) rfl rfl rfl (c_X12_writesNumber l D cy qmo mo_30 r_32 mo_34 hc_33) rfl hl.1 (Nat.le_of_ble_eq_true rfl) ⟨Nat.le_refl _, Nat.le_refl _⟩ dX12_letter_103 (fun H locs hP hD hS => ?_)
    obtain ⟨x2_35, ex2_35⟩ : ∃ y : Int32, y = x2 + 1 := ⟨_, rfl⟩
    have hp := stk_e hp ex2_35
    refine lv_iinc (v := x2_35) (lv' := [(2, .int x2_35), (0, .ref (qmo 0)), (1, .int p1)]) hx hb dX12_letter_106 hl (k := 2) rfl (by rw [ex2_35]; rfl) (by decide) rfl (fun ls hl => ?_)
    refine lv_goto (tgt := 19) hx hb dX12_letter_109 (by decide) ?_
    exact hk19 mo_34 x2_35 _ _ _ hP hD hS (lv_sub hl [1, 2, 0] rfl) hp
set_option maxHeartbeats 4000000 in
set_option maxRecDepth 100000 in
theorem Mo_letter_b19B_w (C0 : cX RX12 cX12_letter (some .int) 3 p s m args meth c) (hK : kN D cy s) {qmo : Nat → Nat} {p1 : Int32} {r : Int32} {mo' : Mem} (hA : ∀ q, s.heap.size ≤ q → A q) {k19 : Mem → Int32 → Option (Int32 × Mem)} (hk19 : ∀ (mo : Mem) (x2 : Int32) (H : Heap) (locs : List Loc) (ls : Array Slot), va_P D vwCl (w_Mo cy qmo mo) H → va_D A (w_Mo cy qmo mo) → va_S A s.heap H locs → lv_has ls 3 [(0, .ref (qmo 0)), (1, .int p1), (2, .int x2)] → k19 mo x2 = some (r, mo') → W p l e (rmD 2) s m args below meth c H locs 0 0 (qRI D below args s A (w_Mo cy qmo mo') r) (F0 m 19 ls [])) {mo : Mem} {x2 : Int32} {H : Heap} {locs : List Loc} (hP : va_P D vwCl (w_Mo cy qmo mo) H) (hD : va_D A (w_Mo cy qmo mo)) (hS : va_S A s.heap H locs) {ls : Array Slot} (hl : lv_has ls 3 [(0, .ref (qmo 0)), (1, .int p1), (2, .int x2)]) (hp : Mo_letter_b19B p1 k19 mo x2 = some (r, mo')) : W p l e (rmD 2) s m args below meth c H locs 0 0 (qRI D below args s A (w_Mo cy qmo mo') r) (F0 m 19 ls []) := by
  obtain ⟨hx, hb, hr, hml, hown, hts, hk⟩ := id C0
  unfold Mo_letter_b19B at hp
  refine lv_iload_n hx hb dX12_letter_19 rfl (lv_at hl 2 rfl) ?_
  refine lv_aload_n hx hb dX12_letter_20 rfl (lv_at hl 0 rfl) ?_
  refine gf_X12_7 hx hb hts hown hK hP 0 rfl rfl dX12_letter_21 ?_
  refine lv_sipush (v := 173) hx hb dX12_letter_24 (by decide) ?_
  obtain ⟨hi_4, hp⟩ := ckI_s hp
  refine r_ild hx hb hK hP 1 rfl hi_4 dX12_letter_27 ?_
  refine lv_icmp_ge (tgt := 112) hx hb dX12_letter_28 (by decide) (fun c_5 => ?_) (fun c_5 => ?_)
  · have hp := ite_p hp c_5
    refine lv_iload_n hx hb dX12_letter_112 rfl (lv_at hl 1 rfl) ?_
    refine lv_iconst (v := (-1)) hx hb dX12_letter_113 (by decide) ?_
    refine lv_icmp_ne (tgt := 124) hx hb dX12_letter_114 (by decide) (fun c_6 => ?_) (fun c_6 => ?_)
    · have hp := ite_n hp c_6
      refine lv_iload_n hx hb dX12_letter_124 rfl (lv_at hl 1 rfl) ?_
      refine lv_aload_n hx hb dX12_letter_125 rfl (lv_at hl 0 rfl) ?_
      refine gf_X12_116 hx hb hts hown hK hP 0 rfl rfl dX12_letter_126 ?_
      refine lv_icmp_ge (tgt := 139) hx hb dX12_letter_129 (by decide) (fun c_7 => ?_) (fun c_7 => ?_)
      · have hp := ite_p hp c_7
        refine lv_bipush (v := (-2)) hx hb dX12_letter_139 (by decide) ?_
        simp only [Option.some.injEq, Prod.mk.injEq] at hp
        obtain ⟨h0, rfl⟩ := hp
        exact e_RIi hx hb hr hk hP hD hS dX12_letter_141 h0
      · have hp := ite_n hp c_7
        refine lv_aload_n hx hb dX12_letter_132 rfl (lv_at hl 0 rfl) ?_
        refine gf_X12_122 hx hb hts hown hK hP 0 rfl rfl dX12_letter_133 ?_
        refine lv_goto (tgt := 141) hx hb dX12_letter_136 (by decide) ?_
        simp only [Option.some.injEq, Prod.mk.injEq] at hp
        obtain ⟨h0, rfl⟩ := hp
        exact e_RIi hx hb hr hk hP hD hS dX12_letter_141 h0
    · have hp := ite_p hp c_6
      refine lv_aload_n hx hb dX12_letter_117 rfl (lv_at hl 0 rfl) ?_
      refine gf_X12_116 hx hb hts hown hK hP 0 rfl rfl dX12_letter_118 ?_
      refine lv_goto (tgt := 141) hx hb dX12_letter_121 (by decide) ?_
      simp only [Option.some.injEq, Prod.mk.injEq] at hp
      obtain ⟨h0, rfl⟩ := hp
      exact e_RIi hx hb hr hk hP hD hS dX12_letter_141 h0
  · have hp := ite_n hp c_5
    refine lv_iload_n hx hb dX12_letter_31 rfl (lv_at hl 2 rfl) ?_
    refine lv_if_le (tgt := 41) hx hb dX12_letter_32 (by decide) (fun c_8 => ?_) (fun c_8 => ?_)
    · have hp := ite_p hp c_8
      exact Mo_letter_b41_w C0 hK hA hk19 hP hD hS hl hp
    · have hp := ite_n hp c_8
      refine lv_aload_n hx hb dX12_letter_35 rfl (lv_at hl 0 rfl) ?_
      refine lv_bipush (v := 59) hx hb dX12_letter_36 (by decide) ?_
      obtain ⟨mo_10, hc_9, hp⟩ := bn1_s hp
      refine k_RVV (As := [.int 59]) (rest := []) ⟨hx, hb, hml, hown, hts⟩ hK hP hD hS hA FrS_rf (cw_X12_125 hts ⟨Nat.le_of_ble_eq_true rfl, Nat.le_of_ble_eq_true rfl⟩) 0 (ci := 12) rfl rfl rfl (c_X12_writes l D cy qmo mo 59 mo_10 hc_9) rfl hl.1 (Nat.le_of_ble_eq_true rfl) ⟨Nat.le_refl _, Nat.le_refl _⟩ dX12_letter_38 (fun H locs hP hD hS => ?_)
      exact Mo_letter_b41_w C0 hK hA hk19 hP hD hS hl hp
theorem Mo_letter_b19_w (C0 : cX RX12 cX12_letter (some .int) 3 p s m args meth c) (hK : kN D cy s) {qmo : Nat → Nat} {p1 : Int32} {r : Int32} {mo' : Mem} (hA : ∀ q, s.heap.size ≤ q → A q) : ∀ (n : Nat) (mo : Mem) (x2 : Int32) (H : Heap) (locs : List Loc) (ls : Array Slot), va_P D vwCl (w_Mo cy qmo mo) H → va_D A (w_Mo cy qmo mo) → va_S A s.heap H locs → lv_has ls 3 [(0, .ref (qmo 0)), (1, .int p1), (2, .int x2)] → Mo_letter_b19 p1 n mo x2 = some (r, mo') → W p l e (rmD 2) s m args below meth c H locs 0 0 (qRI D below args s A (w_Mo cy qmo mo') r) (F0 m 19 ls []) := by
  intro n
  induction n with
  | zero =>
    intro mo x2 H locs ls hP hD hS hl hp
    cases hp
  | succ n ih =>
    intro mo x2 H locs ls hP hD hS hl hp
    exact Mo_letter_b19B_w C0 hK hA  (fun mo x2 H locs ls hP hD hS hl hp => ih mo x2 H locs ls hP hD hS hl hp) hP hD hS hl hp
set_option maxHeartbeats 4000000 in
set_option maxRecDepth 100000 in
theorem c_X12_letter (l : Launch) (D : va_G) (cy : Nat → ClassId) (qmo : Nat → Nat) (mo : Mem) (p1 : Int32) (r : Int32) (mo' : Mem) (hp : Mo_letter mo p1 = some (r, mo')) : RI l yX12_letter cX12_letter 3 (some .int) 2 D cy [.ref (qmo 0), .int p1] (w_Mo cy qmo mo) (w_Mo cy qmo mo') r := by
  refine RI_of RX12 rfl (by decide) (Nat.le_of_ble_eq_true rfl) ?_
  intro p e s m below meth c A C0 hK hP hD hS hA ls hl
  obtain ⟨hx, hb, hr, hml, hown, hts, hk⟩ := id C0
  unfold Mo_letter at hp
  have hl : lv_has ls 3 [(0, .ref (qmo 0)), (1, .int p1)] := hl
  refine lv_iload_n hx hb dX12_letter_0 rfl (lv_at hl 1 rfl) ?_
  refine lv_iconst (v := (-1)) hx hb dX12_letter_1 (by decide) ?_
  refine lv_icmp_ge (tgt := 7) hx hb dX12_letter_2 (by decide) (fun c_1 => ?_) (fun c_1 => ?_)
  · have hp := ite_p hp c_1
    refine lv_aload_n hx hb dX12_letter_7 rfl (lv_at hl 0 rfl) ?_
    refine lv_iconst (v := 0) hx hb dX12_letter_8 (by decide) ?_
    obtain ⟨mo_2, emo_2⟩ : ∃ y : Mem, y = upm mo 10 0 0 := ⟨_, rfl⟩
    have hp := stk_e hp emo_2
    refine pf_X12_116 hx hb hts hown hK hP hD hS (wn := (w_Mo cy qmo mo_2)) 0 rfl (Nat.le_of_ble_eq_true rfl) (by subst emo_2; rfl) dX12_letter_9 (fun H locs hP hD hS => ?_)
    refine lv_aload_n hx hb dX12_letter_12 rfl (lv_at hl 0 rfl) ?_
    refine lv_iload_n hx hb dX12_letter_13 rfl (lv_at hl 1 rfl) ?_
    obtain ⟨mo_3, emo_3⟩ : ∃ y : Mem, y = upm mo_2 11 0 p1 := ⟨_, rfl⟩
    have hp := stk_e hp emo_3
    refine pf_X12_119 hx hb hts hown hK hP hD hS (wn := (w_Mo cy qmo mo_3)) 0 rfl (Nat.le_of_ble_eq_true rfl) (by subst emo_3; rfl) dX12_letter_14 (fun H locs hP hD hS => ?_)
    refine lv_iconst (v := 0) hx hb dX12_letter_17 (by decide) ?_
    refine lv_istore_n (lv' := [(2, .int 0), (0, .ref (qmo 0)), (1, .int p1)]) hx hb dX12_letter_18 rfl hl (by decide) rfl (fun ls hl => ?_)
    exact Mo_letter_b19_w C0 hK hA  fl mo_3 0 _ _ _ hP hD hS (lv_sub hl [1, 2, 0] rfl) hp
  · have hp := ite_n hp c_1
    refine lv_iconst (v := (-1)) hx hb dX12_letter_5 (by decide) ?_
    simp only [Option.some.injEq, Prod.mk.injEq] at hp
    obtain ⟨h0, rfl⟩ := hp
    exact e_RIi hx hb hr hk hP hD hS dX12_letter_6 h0
/-! StormSlotsModel.rate(II)I -/
def Mo_rate (mo : Mem) (p1 : Int32) (p2 : Int32) : Option (Int32 × Mem) :=
  bn1 (Mo_in p1 0 11) (fun r_2 => if r_2 = 0 then some ((-1), mo) else bn1 (Mo_in p2 0 12) (fun r_5 => if r_5 = 0 then some ((-1), mo) else ckI (160 + p1) 1452 (stk (mo 0 (160 + p1).toNatClampNeg) (fun x3_8 => stk (upm mo 0 (160 + p1).toNatClampNeg p2) (fun mo_9 => some (x3_8, mo_9))))))
set_option maxHeartbeats 4000000 in
set_option maxRecDepth 100000 in
theorem c_X12_rate (l : Launch) (D : va_G) (cy : Nat → ClassId) (qmo : Nat → Nat) (mo : Mem) (p1 p2 : Int32) (r : Int32) (mo' : Mem) (hp : Mo_rate mo p1 p2 = some (r, mo')) : RI l yX12_rate cX12_rate 4 (some .int) 1 D cy [.ref (qmo 0), .int p1, .int p2] (w_Mo cy qmo mo) (w_Mo cy qmo mo') r := by
  refine RI_of RX12 rfl (by decide) (Nat.le_of_ble_eq_true rfl) ?_
  intro p e s m below meth c A C0 hK hP hD hS hA ls hl
  obtain ⟨hx, hb, hr, hml, hown, hts, hk⟩ := id C0
  unfold Mo_rate at hp
  have hl : lv_has ls 4 [(0, .ref (qmo 0)), (1, .int p1), (2, .int p2)] := hl
  refine lv_iload_n hx hb dX12_rate_0 rfl (lv_at hl 1 rfl) ?_
  refine lv_iconst (v := 0) hx hb dX12_rate_1 (by decide) ?_
  refine lv_bipush (v := 11) hx hb dX12_rate_2 (by decide) ?_
  obtain ⟨r_2, hc_1, hp⟩ := bn1_s hp
  refine k_ROS (As := [.int p1, .int 0, .int 11]) (rest := []) ⟨hx, hb, hml, hown, hts⟩ hK (show va_P D vwCl [] _ from fun k q h => by simp at h) (cw_X12_45 hts ⟨Nat.le_of_ble_eq_true rfl, Nat.le_of_ble_eq_true rfl⟩) (c_X12_in l D cy p1 0 11 r_2 hc_1) rfl hl.1 (Nat.le_of_ble_eq_true rfl) ⟨Nat.le_refl _, Nat.le_refl _⟩ dX12_rate_4 ?_
  refine lv_if_eq (tgt := 20) hx hb dX12_rate_7 (by decide) (fun c_3 => ?_) (fun c_3 => ?_)
  · have hp := ite_p hp c_3
    refine lv_iconst (v := (-1)) hx hb dX12_rate_20 (by decide) ?_
    simp only [Option.some.injEq, Prod.mk.injEq] at hp
    obtain ⟨h0, rfl⟩ := hp
    exact e_RIi hx hb hr hk hP hD hS dX12_rate_21 h0
  · have hp := ite_n hp c_3
    refine lv_iload_n hx hb dX12_rate_10 rfl (lv_at hl 2 rfl) ?_
    refine lv_iconst (v := 0) hx hb dX12_rate_11 (by decide) ?_
    refine lv_bipush (v := 12) hx hb dX12_rate_12 (by decide) ?_
    obtain ⟨r_5, hc_4, hp⟩ := bn1_s hp
    refine k_ROS (As := [.int p2, .int 0, .int 12]) (rest := []) ⟨hx, hb, hml, hown, hts⟩ hK (show va_P D vwCl [] _ from fun k q h => by simp at h) (cw_X12_45 hts ⟨Nat.le_of_ble_eq_true rfl, Nat.le_of_ble_eq_true rfl⟩) (c_X12_in l D cy p2 0 12 r_5 hc_4) rfl hl.1 (Nat.le_of_ble_eq_true rfl) ⟨Nat.le_refl _, Nat.le_refl _⟩ dX12_rate_14 ?_
    refine lv_if_ne (tgt := 22) hx hb dX12_rate_17 (by decide) (fun c_6 => ?_) (fun c_6 => ?_)
    · have hp := ite_n hp c_6
      refine lv_aload_n hx hb dX12_rate_22 rfl (lv_at hl 0 rfl) ?_
      refine gf_X12_7 hx hb hts hown hK hP 0 rfl rfl dX12_rate_23 ?_
      refine lv_sipush (v := 160) hx hb dX12_rate_26 (by decide) ?_
      refine lv_iload_n hx hb dX12_rate_29 rfl (lv_at hl 1 rfl) ?_
      refine lv_iadd hx hb dX12_rate_30 ?_
      obtain ⟨hi_7, hp⟩ := ckI_s hp
      refine r_ild hx hb hK hP 1 rfl hi_7 dX12_rate_31 ?_
      refine lv_topi (fun x3_8 ex3_8 => ?_)
      have hp := stk_e hp ex3_8
      refine lv_istore_n (lv' := [(3, .int x3_8), (0, .ref (qmo 0)), (1, .int p1), (2, .int p2)]) hx hb dX12_rate_32 rfl hl (by decide) rfl (fun ls hl => ?_)
      refine lv_aload_n hx hb dX12_rate_33 rfl (lv_at hl 1 rfl) ?_
      refine gf_X12_7 hx hb hts hown hK hP 0 rfl rfl dX12_rate_34 ?_
      refine lv_sipush (v := 160) hx hb dX12_rate_37 (by decide) ?_
      refine lv_iload_n hx hb dX12_rate_40 rfl (lv_at hl 2 rfl) ?_
      refine lv_iadd hx hb dX12_rate_41 ?_
      refine lv_iload_n hx hb dX12_rate_42 rfl (lv_at hl 3 rfl) ?_
      obtain ⟨mo_9, emo_9⟩ : ∃ y : Mem, y = upm mo 0 (160 + p1).toNatClampNeg p2 := ⟨_, rfl⟩
      have hp := stk_e hp emo_9
      refine r_ist hx hb hK hP hD hS (wn := (w_Mo cy qmo mo_9)) 1 rfl hi_7 (by subst emo_9; rfl) dX12_rate_43 (fun H locs hP hD hS => ?_)
      refine lv_iload_n hx hb dX12_rate_44 rfl (lv_at hl 0 rfl) ?_
      simp only [Option.some.injEq, Prod.mk.injEq] at hp
      obtain ⟨h0, rfl⟩ := hp
      exact e_RIi hx hb hr hk hP hD hS dX12_rate_45 h0
    · have hp := ite_p hp c_6
      refine lv_iconst (v := (-1)) hx hb dX12_rate_20 (by decide) ?_
      simp only [Option.some.injEq, Prod.mk.injEq] at hp
      obtain ⟨h0, rfl⟩ := hp
      exact e_RIi hx hb hr hk hP hD hS dX12_rate_21 h0
/-! StormSlotsModel.storm(IIII)I -/
def Mo_storm_b32B (p1 : Int32) (p2 : Int32) (p3 : Int32) (p4 : Int32) (k32 : Mem → Int32 → Option (Int32 × Mem)) (mo : Mem) (x5 : Int32) : Option (Int32 × Mem) :=
  if p3 < x5 then some ((mo 9 0), mo) else bn2 (Mo_draw mo (p4 + 1)) (fun r_10 mo_11 => ckI (160 + x5) 1452 (stk (upm mo_11 0 (160 + x5).toNatClampNeg r_10) (fun mo_13 => stk (x5 + 1) (fun x5_14 => k32 mo_13 x5_14))))
def Mo_storm_b32 (p1 : Int32) (p2 : Int32) (p3 : Int32) (p4 : Int32) : Nat → Mem → Int32 → Option (Int32 × Mem)
  | 0 => fun _ _ => none
  | n + 1 => Mo_storm_b32B p1 p2 p3 p4 (Mo_storm_b32 p1 p2 p3 p4 n)
def Mo_storm (mo : Mem) (p1 : Int32) (p2 : Int32) (p3 : Int32) (p4 : Int32) : Option (Int32 × Mem) :=
  bn1 (Mo_areHours p2 p3) (fun r_2 => if r_2 = 0 then some ((-1), mo) else bn1 (Mo_in p4 0 12) (fun r_5 => if r_5 = 0 then some ((-1), mo) else stk (upm mo 9 0 (p1 &&& 65535)) (fun mo_7 => Mo_storm_b32 p1 p2 p3 p4 fl mo_7 p2)))
set_option maxHeartbeats 4000000 in
set_option maxRecDepth 100000 in
theorem Mo_storm_b32B_w (C0 : cX RX12 cX12_storm (some .int) 6 p s m args meth c) (hK : kN D cy s) {qmo : Nat → Nat} {p1 p2 p3 p4 : Int32} {r : Int32} {mo' : Mem} (hA : ∀ q, s.heap.size ≤ q → A q) {k32 : Mem → Int32 → Option (Int32 × Mem)} (hk32 : ∀ (mo : Mem) (x5 : Int32) (H : Heap) (locs : List Loc) (ls : Array Slot), va_P D vwCl (w_Mo cy qmo mo) H → va_D A (w_Mo cy qmo mo) → va_S A s.heap H locs → lv_has ls 6 [(0, .ref (qmo 0)), (1, .int p1), (2, .int p2), (3, .int p3), (4, .int p4), (5, .int x5)] → k32 mo x5 = some (r, mo') → W p l e (rmD 2) s m args below meth c H locs 0 0 (qRI D below args s A (w_Mo cy qmo mo') r) (F0 m 32 ls [])) {mo : Mem} {x5 : Int32} {H : Heap} {locs : List Loc} (hP : va_P D vwCl (w_Mo cy qmo mo) H) (hD : va_D A (w_Mo cy qmo mo)) (hS : va_S A s.heap H locs) {ls : Array Slot} (hl : lv_has ls 6 [(0, .ref (qmo 0)), (1, .int p1), (2, .int p2), (3, .int p3), (4, .int p4), (5, .int x5)]) (hp : Mo_storm_b32B p1 p2 p3 p4 k32 mo x5 = some (r, mo')) : W p l e (rmD 2) s m args below meth c H locs 0 0 (qRI D below args s A (w_Mo cy qmo mo') r) (F0 m 32 ls []) := by
  obtain ⟨hx, hb, hr, hml, hown, hts, hk⟩ := id C0
  unfold Mo_storm_b32B at hp
  refine lv_iload hx hb dX12_storm_32 (lv_at hl 5 rfl) ?_
  refine lv_iload_n hx hb dX12_storm_34 rfl (lv_at hl 3 rfl) ?_
  refine lv_icmp_gt (tgt := 63) hx hb dX12_storm_35 (by decide) (fun c_8 => ?_) (fun c_8 => ?_)
  · have hp := ite_p hp c_8
    refine lv_aload_n hx hb dX12_storm_63 rfl (lv_at hl 0 rfl) ?_
    refine gf_X12_107 hx hb hts hown hK hP 0 rfl rfl dX12_storm_64 ?_
    simp only [Option.some.injEq, Prod.mk.injEq] at hp
    obtain ⟨h0, rfl⟩ := hp
    exact e_RIi hx hb hr hk hP hD hS dX12_storm_67 h0
  · have hp := ite_n hp c_8
    refine lv_aload_n hx hb dX12_storm_38 rfl (lv_at hl 0 rfl) ?_
    refine gf_X12_7 hx hb hts hown hK hP 0 rfl rfl dX12_storm_39 ?_
    refine lv_sipush (v := 160) hx hb dX12_storm_42 (by decide) ?_
    refine lv_iload hx hb dX12_storm_45 (lv_at hl 5 rfl) ?_
    refine lv_iadd hx hb dX12_storm_47 ?_
    refine lv_aload_n hx hb dX12_storm_48 rfl (lv_at hl 0 rfl) ?_
    refine lv_iload hx hb dX12_storm_49 (lv_at hl 4 rfl) ?_
    refine lv_iconst (v := 1) hx hb dX12_storm_51 (by decide) ?_
    refine lv_iadd hx hb dX12_storm_52 ?_
    obtain ⟨r_10, mo_11, hc_9, hp⟩ := bn2_s hp
    refine k_RIV (As := [.int (p4 + 1)]) (rest := [.int (160 + x5), .ref (qmo 1)]) ⟨hx, hb, hml, hown, hts⟩ hK hP hD hS hA FrS_rf (cw_X12_112 hts ⟨Nat.le_of_ble_eq_true rfl, Nat.le_of_ble_eq_true rfl⟩) 0 (ci := 12) rfl rfl rfl (c_X12_draw l D cy qmo mo (p4 + 1) r_10 mo_11 hc_9) rfl hl.1 (Nat.le_of_ble_eq_true rfl) ⟨Nat.le_refl _, Nat.le_refl _⟩ dX12_storm_53 (fun H locs hP hD hS => ?_)
    obtain ⟨hi_12, hp⟩ := ckI_s hp
    obtain ⟨mo_13, emo_13⟩ : ∃ y : Mem, y = upm mo_11 0 (160 + x5).toNatClampNeg r_10 := ⟨_, rfl⟩
    have hp := stk_e hp emo_13
    refine r_ist hx hb hK hP hD hS (wn := (w_Mo cy qmo mo_13)) 1 rfl hi_12 (by subst emo_13; rfl) dX12_storm_56 (fun H locs hP hD hS => ?_)
    obtain ⟨x5_14, ex5_14⟩ : ∃ y : Int32, y = x5 + 1 := ⟨_, rfl⟩
    have hp := stk_e hp ex5_14
    refine lv_iinc (v := x5_14) (lv' := [(5, .int x5_14), (0, .ref (qmo 0)), (1, .int p1), (2, .int p2), (3, .int p3), (4, .int p4)]) hx hb dX12_storm_57 hl (k := 5) rfl (by rw [ex5_14]; rfl) (by decide) rfl (fun ls hl => ?_)
    refine lv_goto (tgt := 32) hx hb dX12_storm_60 (by decide) ?_
    exact hk32 mo_13 x5_14 _ _ _ hP hD hS (lv_sub hl [1, 2, 3, 4, 5, 0] rfl) hp
theorem Mo_storm_b32_w (C0 : cX RX12 cX12_storm (some .int) 6 p s m args meth c) (hK : kN D cy s) {qmo : Nat → Nat} {p1 p2 p3 p4 : Int32} {r : Int32} {mo' : Mem} (hA : ∀ q, s.heap.size ≤ q → A q) : ∀ (n : Nat) (mo : Mem) (x5 : Int32) (H : Heap) (locs : List Loc) (ls : Array Slot), va_P D vwCl (w_Mo cy qmo mo) H → va_D A (w_Mo cy qmo mo) → va_S A s.heap H locs → lv_has ls 6 [(0, .ref (qmo 0)), (1, .int p1), (2, .int p2), (3, .int p3), (4, .int p4), (5, .int x5)] → Mo_storm_b32 p1 p2 p3 p4 n mo x5 = some (r, mo') → W p l e (rmD 2) s m args below meth c H locs 0 0 (qRI D below args s A (w_Mo cy qmo mo') r) (F0 m 32 ls []) := by
  intro n
  induction n with
  | zero =>
    intro mo x5 H locs ls hP hD hS hl hp
    cases hp
  | succ n ih =>
    intro mo x5 H locs ls hP hD hS hl hp
    exact Mo_storm_b32B_w C0 hK hA  (fun mo x5 H locs ls hP hD hS hl hp => ih mo x5 H locs ls hP hD hS hl hp) hP hD hS hl hp
set_option maxHeartbeats 4000000 in
set_option maxRecDepth 100000 in
theorem c_X12_storm (l : Launch) (D : va_G) (cy : Nat → ClassId) (qmo : Nat → Nat) (mo : Mem) (p1 p2 p3 p4 : Int32) (r : Int32) (mo' : Mem) (hp : Mo_storm mo p1 p2 p3 p4 = some (r, mo')) : RI l yX12_storm cX12_storm 6 (some .int) 2 D cy [.ref (qmo 0), .int p1, .int p2, .int p3, .int p4] (w_Mo cy qmo mo) (w_Mo cy qmo mo') r := by
  refine RI_of RX12 rfl (by decide) (Nat.le_of_ble_eq_true rfl) ?_
  intro p e s m below meth c A C0 hK hP hD hS hA ls hl
  obtain ⟨hx, hb, hr, hml, hown, hts, hk⟩ := id C0
  unfold Mo_storm at hp
  have hl : lv_has ls 6 [(0, .ref (qmo 0)), (1, .int p1), (2, .int p2), (3, .int p3), (4, .int p4)] := hl
  refine lv_iload_n hx hb dX12_storm_0 rfl (lv_at hl 2 rfl) ?_
  refine lv_iload_n hx hb dX12_storm_1 rfl (lv_at hl 3 rfl) ?_
  obtain ⟨r_2, hc_1, hp⟩ := bn1_s hp
  refine k_ROS (As := [.int p2, .int p3]) (rest := []) ⟨hx, hb, hml, hown, hts⟩ hK (show va_P D vwCl [] _ from fun k q h => by simp at h) (cw_X12_135 hts ⟨Nat.le_of_ble_eq_true rfl, Nat.le_of_ble_eq_true rfl⟩) (c_X12_areHours l D cy p2 p3 r_2 hc_1) rfl hl.1 (Nat.le_of_ble_eq_true rfl) ⟨Nat.le_refl _, Nat.le_refl _⟩ dX12_storm_2 ?_
  refine lv_if_eq (tgt := 19) hx hb dX12_storm_5 (by decide) (fun c_3 => ?_) (fun c_3 => ?_)
  · have hp := ite_p hp c_3
    refine lv_iconst (v := (-1)) hx hb dX12_storm_19 (by decide) ?_
    simp only [Option.some.injEq, Prod.mk.injEq] at hp
    obtain ⟨h0, rfl⟩ := hp
    exact e_RIi hx hb hr hk hP hD hS dX12_storm_20 h0
  · have hp := ite_n hp c_3
    refine lv_iload hx hb dX12_storm_8 (lv_at hl 4 rfl) ?_
    refine lv_iconst (v := 0) hx hb dX12_storm_10 (by decide) ?_
    refine lv_bipush (v := 12) hx hb dX12_storm_11 (by decide) ?_
    obtain ⟨r_5, hc_4, hp⟩ := bn1_s hp
    refine k_ROS (As := [.int p4, .int 0, .int 12]) (rest := []) ⟨hx, hb, hml, hown, hts⟩ hK (show va_P D vwCl [] _ from fun k q h => by simp at h) (cw_X12_45 hts ⟨Nat.le_of_ble_eq_true rfl, Nat.le_of_ble_eq_true rfl⟩) (c_X12_in l D cy p4 0 12 r_5 hc_4) rfl hl.1 (Nat.le_of_ble_eq_true rfl) ⟨Nat.le_refl _, Nat.le_refl _⟩ dX12_storm_13 ?_
    refine lv_if_ne (tgt := 21) hx hb dX12_storm_16 (by decide) (fun c_6 => ?_) (fun c_6 => ?_)
    · have hp := ite_n hp c_6
      refine lv_aload_n hx hb dX12_storm_21 rfl (lv_at hl 0 rfl) ?_
      refine lv_iload_n hx hb dX12_storm_22 rfl (lv_at hl 1 rfl) ?_
      refine lc_X12_111 hx hb hts hown dX12_storm_23 ?_
      refine lv_iand hx hb dX12_storm_25 ?_
      obtain ⟨mo_7, emo_7⟩ : ∃ y : Mem, y = upm mo 9 0 (p1 &&& 65535) := ⟨_, rfl⟩
      have hp := stk_e hp emo_7
      refine pf_X12_107 hx hb hts hown hK hP hD hS (wn := (w_Mo cy qmo mo_7)) 0 rfl (Nat.le_of_ble_eq_true rfl) (by subst emo_7; rfl) dX12_storm_26 (fun H locs hP hD hS => ?_)
      refine lv_iload_n hx hb dX12_storm_29 rfl (lv_at hl 2 rfl) ?_
      refine lv_istore (lv' := [(5, .int p2), (0, .ref (qmo 0)), (1, .int p1), (2, .int p2), (3, .int p3), (4, .int p4)]) hx hb dX12_storm_30 hl (by decide) rfl (fun ls hl => ?_)
      exact Mo_storm_b32_w C0 hK hA  fl mo_7 p2 _ _ _ hP hD hS (lv_sub hl [1, 2, 3, 4, 5, 0] rfl) hp
    · have hp := ite_p hp c_6
      refine lv_iconst (v := (-1)) hx hb dX12_storm_19 (by decide) ?_
      simp only [Option.some.injEq, Prod.mk.injEq] at hp
      obtain ⟨h0, rfl⟩ := hp
      exact e_RIi hx hb hr hk hP hD hS dX12_storm_20 h0
/-! StormSlotsModel.now(I)Z -/
def Mo_now (mo : Mem) (p1 : Int32) : Option (Int32 × Mem) :=
  ckI 172 1452 (bn1 (Mo_in p1 (mo 0 (172 : Int32).toNatClampNeg) 719) (fun r_3 => if r_3 = 0 then some (0, mo) else stk (upm mo 0 (172 : Int32).toNatClampNeg p1) (fun mo_5 => some (1, mo_5))))
set_option maxHeartbeats 4000000 in
set_option maxRecDepth 100000 in
theorem c_X12_now (l : Launch) (D : va_G) (cy : Nat → ClassId) (qmo : Nat → Nat) (mo : Mem) (p1 : Int32) (r : Int32) (mo' : Mem) (hp : Mo_now mo p1 = some (r, mo')) : RI l yX12_now cX12_now 2 (some .boolean) 1 D cy [.ref (qmo 0), .int p1] (w_Mo cy qmo mo) (w_Mo cy qmo mo') r := by
  refine RI_of RX12 rfl (by decide) (Nat.le_of_ble_eq_true rfl) ?_
  intro p e s m below meth c A C0 hK hP hD hS hA ls hl
  obtain ⟨hx, hb, hr, hml, hown, hts, hk⟩ := id C0
  unfold Mo_now at hp
  have hl : lv_has ls 2 [(0, .ref (qmo 0)), (1, .int p1)] := hl
  refine lv_iload_n hx hb dX12_now_0 rfl (lv_at hl 1 rfl) ?_
  refine lv_aload_n hx hb dX12_now_1 rfl (lv_at hl 0 rfl) ?_
  refine gf_X12_7 hx hb hts hown hK hP 0 rfl rfl dX12_now_2 ?_
  refine lv_sipush (v := 172) hx hb dX12_now_5 (by decide) ?_
  obtain ⟨hi_1, hp⟩ := ckI_s hp
  refine r_ild hx hb hK hP 1 rfl hi_1 dX12_now_8 ?_
  refine lv_sipush (v := 719) hx hb dX12_now_9 (by decide) ?_
  obtain ⟨r_3, hc_2, hp⟩ := bn1_s hp
  refine k_ROS (As := [.int p1, .int (mo 0 (172 : Int32).toNatClampNeg), .int 719]) (rest := []) ⟨hx, hb, hml, hown, hts⟩ hK (show va_P D vwCl [] _ from fun k q h => by simp at h) (cw_X12_45 hts ⟨Nat.le_of_ble_eq_true rfl, Nat.le_of_ble_eq_true rfl⟩) (c_X12_in l D cy p1 (mo 0 (172 : Int32).toNatClampNeg) 719 r_3 hc_2) rfl hl.1 (Nat.le_of_ble_eq_true rfl) ⟨Nat.le_refl _, Nat.le_refl _⟩ dX12_now_12 ?_
  refine lv_if_ne (tgt := 20) hx hb dX12_now_15 (by decide) (fun c_4 => ?_) (fun c_4 => ?_)
  · have hp := ite_n hp c_4
    refine lv_aload_n hx hb dX12_now_20 rfl (lv_at hl 0 rfl) ?_
    refine gf_X12_7 hx hb hts hown hK hP 0 rfl rfl dX12_now_21 ?_
    refine lv_sipush (v := 172) hx hb dX12_now_24 (by decide) ?_
    refine lv_iload_n hx hb dX12_now_27 rfl (lv_at hl 1 rfl) ?_
    obtain ⟨mo_5, emo_5⟩ : ∃ y : Mem, y = upm mo 0 (172 : Int32).toNatClampNeg p1 := ⟨_, rfl⟩
    have hp := stk_e hp emo_5
    refine r_ist hx hb hK hP hD hS (wn := (w_Mo cy qmo mo_5)) 1 rfl hi_1 (by subst emo_5; rfl) dX12_now_28 (fun H locs hP hD hS => ?_)
    refine lv_iconst (v := 1) hx hb dX12_now_29 (by decide) ?_
    simp only [Option.some.injEq, Prod.mk.injEq] at hp
    obtain ⟨h0, rfl⟩ := hp
    exact e_RIz hx hb hr hk (Or.inr rfl) hP hD hS dX12_now_30 h0
  · have hp := ite_p hp c_4
    refine lv_iconst (v := 0) hx hb dX12_now_18 (by decide) ?_
    simp only [Option.some.injEq, Prod.mk.injEq] at hp
    obtain ⟨h0, rfl⟩ := hp
    exact e_RIz hx hb hr hk (Or.inl rfl) hP hD hS dX12_now_19 h0
/-! StormSlotsModel.isSlot(I)Z -/
def Mo_isSlot (mo : Mem) (p1 : Int32) : Option (Int32) :=
  if p1 < 720 then ckI (160 + (p1 / 60)) 1452 (stk (mo 0 (160 + (p1 / 60)).toNatClampNeg) (fun x2_3 => stk (p1 - p1 / 60 * 60) (fun x3_4 => if x2_3 ≤ 0 then some 0 else if x2_3 ≤ (((x3_4 * x2_3) + 59) / 60) then some 0 else ckD x2_3 (if ((60 * (((x3_4 * x2_3) + 59) / 60)) / x2_3) = x3_4 then some 1 else some 0)))) else if 1200 ≤ p1 then some 0 else if (p1 - p1 / 5 * 5) = 0 then some 1 else some 0
set_option maxHeartbeats 4000000 in
set_option maxRecDepth 100000 in
theorem c_X12_isSlot (l : Launch) (D : va_G) (cy : Nat → ClassId) (qmo : Nat → Nat) (mo : Mem) (p1 : Int32) (r : Int32) (hp : Mo_isSlot mo p1 = some r) : RO l yX12_isSlot cX12_isSlot 4 (some .boolean) 0 D cy [.ref (qmo 0), .int p1] (w_Mo cy qmo mo) r := by
  refine RO_of RX12 rfl (by decide) (Nat.le_of_ble_eq_true rfl) ?_
  intro p e s m below meth c C0 hK hP ls hl
  obtain ⟨hx, hb, hr, hml, hown, hts, hk⟩ := id C0
  unfold Mo_isSlot at hp
  have hl : lv_has ls 4 [(0, .ref (qmo 0)), (1, .int p1)] := hl
  refine lv_iload_n hx hb dX12_isSlot_0 rfl (lv_at hl 1 rfl) ?_
  refine lv_sipush (v := 720) hx hb dX12_isSlot_1 (by decide) ?_
  refine lv_icmp_lt (tgt := 26) hx hb dX12_isSlot_4 (by decide) (fun c_1 => ?_) (fun c_1 => ?_)
  · have hp := ite_p hp c_1
    refine lv_aload_n hx hb dX12_isSlot_26 rfl (lv_at hl 0 rfl) ?_
    refine gf_X12_7 hx hb hts hown hK hP 0 rfl rfl dX12_isSlot_27 ?_
    refine lv_sipush (v := 160) hx hb dX12_isSlot_30 (by decide) ?_
    refine lv_iload_n hx hb dX12_isSlot_33 rfl (lv_at hl 1 rfl) ?_
    refine lv_bipush (v := 60) hx hb dX12_isSlot_34 (by decide) ?_
    refine lv_idiv hx hb dX12_isSlot_36 (by decide) ?_
    refine lv_iadd hx hb dX12_isSlot_37 ?_
    obtain ⟨hi_2, hp⟩ := ckI_s hp
    refine r_ild hx hb hK hP 1 rfl hi_2 dX12_isSlot_38 ?_
    refine lv_topi (fun x2_3 ex2_3 => ?_)
    have hp := stk_e hp ex2_3
    refine lv_istore_n (lv' := [(2, .int x2_3), (0, .ref (qmo 0)), (1, .int p1)]) hx hb dX12_isSlot_39 rfl hl (by decide) rfl (fun ls hl => ?_)
    refine lv_iload_n hx hb dX12_isSlot_40 rfl (lv_at hl 2 rfl) ?_
    refine lv_bipush (v := 60) hx hb dX12_isSlot_41 (by decide) ?_
    refine lv_irem hx hb dX12_isSlot_43 (by decide) ?_
    refine lv_topi (fun x3_4 ex3_4 => ?_)
    have hp := stk_e hp ex3_4
    refine lv_istore_n (lv' := [(3, .int x3_4), (2, .int x2_3), (0, .ref (qmo 0)), (1, .int p1)]) hx hb dX12_isSlot_44 rfl hl (by decide) rfl (fun ls hl => ?_)
    refine lv_iload_n hx hb dX12_isSlot_45 rfl (lv_at hl 1 rfl) ?_
    refine lv_if_le (tgt := 84) hx hb dX12_isSlot_46 (by decide) (fun c_5 => ?_) (fun c_5 => ?_)
    · have hp := ite_p hp c_5
      refine lv_iconst (v := 0) hx hb dX12_isSlot_84 (by decide) ?_
      exact e_ROz hx hb hr hk (Or.inl rfl) dX12_isSlot_85 (Option.some.inj hp)
    · have hp := ite_n hp c_5
      refine lv_iload_n hx hb dX12_isSlot_49 rfl (lv_at hl 0 rfl) ?_
      refine lv_iload_n hx hb dX12_isSlot_50 rfl (lv_at hl 1 rfl) ?_
      refine lv_imul hx hb dX12_isSlot_51 ?_
      refine lv_bipush (v := 59) hx hb dX12_isSlot_52 (by decide) ?_
      refine lv_iadd hx hb dX12_isSlot_54 ?_
      refine lv_bipush (v := 60) hx hb dX12_isSlot_55 (by decide) ?_
      refine lv_idiv hx hb dX12_isSlot_57 (by decide) ?_
      refine lv_iload_n hx hb dX12_isSlot_58 rfl (lv_at hl 1 rfl) ?_
      refine lv_icmp_ge (tgt := 84) hx hb dX12_isSlot_59 (by decide) (fun c_6 => ?_) (fun c_6 => ?_)
      · have hp := ite_p hp c_6
        refine lv_iconst (v := 0) hx hb dX12_isSlot_84 (by decide) ?_
        exact e_ROz hx hb hr hk (Or.inl rfl) dX12_isSlot_85 (Option.some.inj hp)
      · have hp := ite_n hp c_6
        refine lv_bipush (v := 60) hx hb dX12_isSlot_62 (by decide) ?_
        refine lv_iload_n hx hb dX12_isSlot_64 rfl (lv_at hl 0 rfl) ?_
        refine lv_iload_n hx hb dX12_isSlot_65 rfl (lv_at hl 1 rfl) ?_
        refine lv_imul hx hb dX12_isSlot_66 ?_
        refine lv_bipush (v := 59) hx hb dX12_isSlot_67 (by decide) ?_
        refine lv_iadd hx hb dX12_isSlot_69 ?_
        refine lv_bipush (v := 60) hx hb dX12_isSlot_70 (by decide) ?_
        refine lv_idiv hx hb dX12_isSlot_72 (by decide) ?_
        refine lv_imul hx hb dX12_isSlot_73 ?_
        refine lv_iload_n hx hb dX12_isSlot_74 rfl (lv_at hl 1 rfl) ?_
        obtain ⟨hd_7, hp⟩ := ckD_s hp
        refine lv_idiv hx hb dX12_isSlot_75 hd_7 ?_
        refine lv_iload_n hx hb dX12_isSlot_76 rfl (lv_at hl 0 rfl) ?_
        refine lv_icmp_ne (tgt := 84) hx hb dX12_isSlot_77 (by decide) (fun c_8 => ?_) (fun c_8 => ?_)
        · have hp := ite_n hp c_8
          refine lv_iconst (v := 0) hx hb dX12_isSlot_84 (by decide) ?_
          exact e_ROz hx hb hr hk (Or.inl rfl) dX12_isSlot_85 (Option.some.inj hp)
        · have hp := ite_p hp c_8
          refine lv_iconst (v := 1) hx hb dX12_isSlot_80 (by decide) ?_
          refine lv_goto (tgt := 85) hx hb dX12_isSlot_81 (by decide) ?_
          exact e_ROz hx hb hr hk (Or.inr rfl) dX12_isSlot_85 (Option.some.inj hp)
  · have hp := ite_n hp c_1
    refine lv_iload_n hx hb dX12_isSlot_7 rfl (lv_at hl 1 rfl) ?_
    refine lv_sipush (v := 1200) hx hb dX12_isSlot_8 (by decide) ?_
    refine lv_icmp_ge (tgt := 24) hx hb dX12_isSlot_11 (by decide) (fun c_9 => ?_) (fun c_9 => ?_)
    · have hp := ite_p hp c_9
      refine lv_iconst (v := 0) hx hb dX12_isSlot_24 (by decide) ?_
      exact e_ROz hx hb hr hk (Or.inl rfl) dX12_isSlot_25 (Option.some.inj hp)
    · have hp := ite_n hp c_9
      refine lv_iload_n hx hb dX12_isSlot_14 rfl (lv_at hl 1 rfl) ?_
      refine lv_iconst (v := 5) hx hb dX12_isSlot_15 (by decide) ?_
      refine lv_irem hx hb dX12_isSlot_16 (by decide) ?_
      refine lv_if_ne (tgt := 24) hx hb dX12_isSlot_17 (by decide) (fun c_10 => ?_) (fun c_10 => ?_)
      · have hp := ite_n hp c_10
        refine lv_iconst (v := 0) hx hb dX12_isSlot_24 (by decide) ?_
        exact e_ROz hx hb hr hk (Or.inl rfl) dX12_isSlot_25 (Option.some.inj hp)
      · have hp := ite_p hp c_10
        refine lv_iconst (v := 1) hx hb dX12_isSlot_20 (by decide) ?_
        refine lv_goto (tgt := 25) hx hb dX12_isSlot_21 (by decide) ?_
        exact e_ROz hx hb hr hk (Or.inr rfl) dX12_isSlot_25 (Option.some.inj hp)
/-! StormSlotsModel.slot(I)I -/
def Mo_slot_b10B (mo : Mem) (p1 : Int32) (k10 : Int32 → Int32 → Option (Int32)) (x2 : Int32) (x3 : Int32) : Option (Int32) :=
  if 1200 ≤ x3 then some (-2) else bn1 (Mo_isSlot mo x3) (fun r_4 => if r_4 = 0 then stk (x3 + 1) (fun x3_9 => k10 x2 x3_9) else if x2 = 0 then some x3 else stk (x2 - 1) (fun x2_7 => stk (x3 + 1) (fun x3_8 => k10 x2_7 x3_8)))
def Mo_slot_b10 (mo : Mem) (p1 : Int32) : Nat → Int32 → Int32 → Option (Int32)
  | 0 => fun _ _ => none
  | n + 1 => Mo_slot_b10B mo p1 (Mo_slot_b10 mo p1 n)
def Mo_slot (mo : Mem) (p1 : Int32) : Option (Int32) :=
  if 0 ≤ p1 then Mo_slot_b10 mo p1 fl p1 0 else some (-1)
set_option maxHeartbeats 4000000 in
set_option maxRecDepth 100000 in
theorem Mo_slot_b10B_w (C0 : cX RX12 cX12_slot (some .int) 4 p s m args meth c) (hK : kN D cy s) {qmo : Nat → Nat} {mo : Mem} {p1 : Int32} {r : Int32} (hP : va_P D vwCl (w_Mo cy qmo mo) s.heap) {k10 : Int32 → Int32 → Option (Int32)} (hk10 : ∀ (x2 x3 : Int32) (ls : Array Slot), lv_has ls 4 [(0, .ref (qmo 0)), (1, .int p1), (2, .int x2), (3, .int x3)] → k10 x2 x3 = some r → W p l e (rmD 1) s m args below meth c s.heap [] 0 0 (qRO below args s r) (F0 m 10 ls [])) {x2 : Int32} {x3 : Int32} {ls : Array Slot} (hl : lv_has ls 4 [(0, .ref (qmo 0)), (1, .int p1), (2, .int x2), (3, .int x3)]) (hp : Mo_slot_b10B mo p1 k10 x2 x3 = some r) : W p l e (rmD 1) s m args below meth c s.heap [] 0 0 (qRO below args s r) (F0 m 10 ls []) := by
  obtain ⟨hx, hb, hr, hml, hown, hts, hk⟩ := id C0
  unfold Mo_slot_b10B at hp
  refine lv_iload_n hx hb dX12_slot_10 rfl (lv_at hl 3 rfl) ?_
  refine lv_sipush (v := 1200) hx hb dX12_slot_11 (by decide) ?_
  refine lv_icmp_ge (tgt := 44) hx hb dX12_slot_14 (by decide) (fun c_2 => ?_) (fun c_2 => ?_)
  · have hp := ite_p hp c_2
    refine lv_bipush (v := (-2)) hx hb dX12_slot_44 (by decide) ?_
    exact e_ROi hx hb hr hk dX12_slot_46 (Option.some.inj hp)
  · have hp := ite_n hp c_2
    refine lv_aload_n hx hb dX12_slot_17 rfl (lv_at hl 0 rfl) ?_
    refine lv_iload_n hx hb dX12_slot_18 rfl (lv_at hl 3 rfl) ?_
    obtain ⟨r_4, hc_3, hp⟩ := bn1_s hp
    refine k_ROV (As := [.int x3]) (rest := []) ⟨hx, hb, hml, hown, hts⟩ hK hP (cw_X12_138 hts ⟨Nat.le_of_ble_eq_true rfl, Nat.le_of_ble_eq_true rfl⟩) 0 (ci := 12) rfl rfl rfl (c_X12_isSlot l D cy qmo mo x3 r_4 hc_3) rfl hl.1 (Nat.le_of_ble_eq_true rfl) ⟨Nat.le_refl _, Nat.le_refl _⟩ dX12_slot_19 ?_
    refine lv_if_ne (tgt := 28) hx hb dX12_slot_22 (by decide) (fun c_5 => ?_) (fun c_5 => ?_)
    · have hp := ite_n hp c_5
      refine lv_iload_n hx hb dX12_slot_28 rfl (lv_at hl 2 rfl) ?_
      refine lv_if_ne (tgt := 34) hx hb dX12_slot_29 (by decide) (fun c_6 => ?_) (fun c_6 => ?_)
      · have hp := ite_n hp c_6
        refine lv_iload_n hx hb dX12_slot_34 rfl (lv_at hl 2 rfl) ?_
        refine lv_iconst (v := 1) hx hb dX12_slot_35 (by decide) ?_
        refine lv_isub hx hb dX12_slot_36 ?_
        refine lv_topi (fun x2_7 ex2_7 => ?_)
        have hp := stk_e hp ex2_7
        refine lv_istore_n (lv' := [(2, .int x2_7), (0, .ref (qmo 0)), (1, .int p1), (3, .int x3)]) hx hb dX12_slot_37 rfl hl (by decide) rfl (fun ls hl => ?_)
        obtain ⟨x3_8, ex3_8⟩ : ∃ y : Int32, y = x3 + 1 := ⟨_, rfl⟩
        have hp := stk_e hp ex3_8
        refine lv_iinc (v := x3_8) (lv' := [(3, .int x3_8), (2, .int x2_7), (0, .ref (qmo 0)), (1, .int p1)]) hx hb dX12_slot_38 hl (k := 3) rfl (by rw [ex3_8]; rfl) (by decide) rfl (fun ls hl => ?_)
        refine lv_goto (tgt := 10) hx hb dX12_slot_41 (by decide) ?_
        exact hk10 x2_7 x3_8 _ (lv_sub hl [2, 3, 1, 0] rfl) hp
      · have hp := ite_p hp c_6
        refine lv_iload_n hx hb dX12_slot_32 rfl (lv_at hl 3 rfl) ?_
        exact e_ROi hx hb hr hk dX12_slot_33 (Option.some.inj hp)
    · have hp := ite_p hp c_5
      refine lv_goto (tgt := 38) hx hb dX12_slot_25 (by decide) ?_
      obtain ⟨x3_9, ex3_9⟩ : ∃ y : Int32, y = x3 + 1 := ⟨_, rfl⟩
      have hp := stk_e hp ex3_9
      refine lv_iinc (v := x3_9) (lv' := [(3, .int x3_9), (0, .ref (qmo 0)), (1, .int p1), (2, .int x2)]) hx hb dX12_slot_38 hl (k := 3) rfl (by rw [ex3_9]; rfl) (by decide) rfl (fun ls hl => ?_)
      refine lv_goto (tgt := 10) hx hb dX12_slot_41 (by decide) ?_
      exact hk10 x2 x3_9 _ (lv_sub hl [1, 2, 3, 0] rfl) hp
theorem Mo_slot_b10_w (C0 : cX RX12 cX12_slot (some .int) 4 p s m args meth c) (hK : kN D cy s) {qmo : Nat → Nat} {mo : Mem} {p1 : Int32} {r : Int32} (hP : va_P D vwCl (w_Mo cy qmo mo) s.heap) : ∀ (n : Nat) (x2 x3 : Int32) (ls : Array Slot), lv_has ls 4 [(0, .ref (qmo 0)), (1, .int p1), (2, .int x2), (3, .int x3)] → Mo_slot_b10 mo p1 n x2 x3 = some r → W p l e (rmD 1) s m args below meth c s.heap [] 0 0 (qRO below args s r) (F0 m 10 ls []) := by
  intro n
  induction n with
  | zero =>
    intro x2 x3 ls hl hp
    cases hp
  | succ n ih =>
    intro x2 x3 ls hl hp
    exact Mo_slot_b10B_w C0 hK hP  (fun x2 x3 ls hl hp => ih x2 x3 ls hl hp) hl hp
set_option maxHeartbeats 4000000 in
set_option maxRecDepth 100000 in
theorem c_X12_slot (l : Launch) (D : va_G) (cy : Nat → ClassId) (qmo : Nat → Nat) (mo : Mem) (p1 : Int32) (r : Int32) (hp : Mo_slot mo p1 = some r) : RO l yX12_slot cX12_slot 4 (some .int) 1 D cy [.ref (qmo 0), .int p1] (w_Mo cy qmo mo) r := by
  refine RO_of RX12 rfl (by decide) (Nat.le_of_ble_eq_true rfl) ?_
  intro p e s m below meth c C0 hK hP ls hl
  obtain ⟨hx, hb, hr, hml, hown, hts, hk⟩ := id C0
  unfold Mo_slot at hp
  have hl : lv_has ls 4 [(0, .ref (qmo 0)), (1, .int p1)] := hl
  refine lv_iload_n hx hb dX12_slot_0 rfl (lv_at hl 1 rfl) ?_
  refine lv_if_ge (tgt := 6) hx hb dX12_slot_1 (by decide) (fun c_1 => ?_) (fun c_1 => ?_)
  · have hp := ite_p hp c_1
    refine lv_iload_n hx hb dX12_slot_6 rfl (lv_at hl 1 rfl) ?_
    refine lv_istore_n (lv' := [(2, .int p1), (0, .ref (qmo 0)), (1, .int p1)]) hx hb dX12_slot_7 rfl hl (by decide) rfl (fun ls hl => ?_)
    refine lv_iconst (v := 0) hx hb dX12_slot_8 (by decide) ?_
    refine lv_istore_n (lv' := [(3, .int 0), (2, .int p1), (0, .ref (qmo 0)), (1, .int p1)]) hx hb dX12_slot_9 rfl hl (by decide) rfl (fun ls hl => ?_)
    exact Mo_slot_b10_w C0 hK hP  fl p1 0 _ (lv_sub hl [2, 3, 1, 0] rfl) hp
  · have hp := ite_n hp c_1
    refine lv_iconst (v := (-1)) hx hb dX12_slot_4 (by decide) ?_
    exact e_ROi hx hb hr hk dX12_slot_5 (Option.some.inj hp)
/-! StormSlotsModel.isPlanned(I)Z -/
def Mo_isPlanned (mo : Mem) (p1 : Int32) : Option (Int32) :=
  bn1 (Mo_of mo p1 4) (fun r_2 => if r_2 < 0 then some 0 else bn1 (Mo_of mo p1 7) (fun r_5 => if r_5 = 0 then some 1 else some 0))
set_option maxHeartbeats 4000000 in
set_option maxRecDepth 100000 in
theorem c_X12_isPlanned (l : Launch) (D : va_G) (cy : Nat → ClassId) (qmo : Nat → Nat) (mo : Mem) (p1 : Int32) (r : Int32) (hp : Mo_isPlanned mo p1 = some r) : RO l yX12_isPlanned cX12_isPlanned 2 (some .boolean) 1 D cy [.ref (qmo 0), .int p1] (w_Mo cy qmo mo) r := by
  refine RO_of RX12 rfl (by decide) (Nat.le_of_ble_eq_true rfl) ?_
  intro p e s m below meth c C0 hK hP ls hl
  obtain ⟨hx, hb, hr, hml, hown, hts, hk⟩ := id C0
  unfold Mo_isPlanned at hp
  have hl : lv_has ls 2 [(0, .ref (qmo 0)), (1, .int p1)] := hl
  refine lv_aload_n hx hb dX12_isPlanned_0 rfl (lv_at hl 0 rfl) ?_
  refine lv_iload_n hx hb dX12_isPlanned_1 rfl (lv_at hl 1 rfl) ?_
  refine lv_iconst (v := 4) hx hb dX12_isPlanned_2 (by decide) ?_
  obtain ⟨r_2, hc_1, hp⟩ := bn1_s hp
  refine k_ROV (As := [.int p1, .int 4]) (rest := []) ⟨hx, hb, hml, hown, hts⟩ hK hP (cw_X12_128 hts ⟨Nat.le_of_ble_eq_true rfl, Nat.le_of_ble_eq_true rfl⟩) 0 (ci := 12) rfl rfl rfl (c_X12_of l D cy qmo mo p1 4 r_2 hc_1) rfl hl.1 (Nat.le_of_ble_eq_true rfl) ⟨Nat.le_refl _, Nat.le_refl _⟩ dX12_isPlanned_3 ?_
  refine lv_if_lt (tgt := 23) hx hb dX12_isPlanned_6 (by decide) (fun c_3 => ?_) (fun c_3 => ?_)
  · have hp := ite_p hp c_3
    refine lv_iconst (v := 0) hx hb dX12_isPlanned_23 (by decide) ?_
    exact e_ROz hx hb hr hk (Or.inl rfl) dX12_isPlanned_24 (Option.some.inj hp)
  · have hp := ite_n hp c_3
    refine lv_aload_n hx hb dX12_isPlanned_9 rfl (lv_at hl 0 rfl) ?_
    refine lv_iload_n hx hb dX12_isPlanned_10 rfl (lv_at hl 1 rfl) ?_
    refine lv_bipush (v := 7) hx hb dX12_isPlanned_11 (by decide) ?_
    obtain ⟨r_5, hc_4, hp⟩ := bn1_s hp
    refine k_ROV (As := [.int p1, .int 7]) (rest := []) ⟨hx, hb, hml, hown, hts⟩ hK hP (cw_X12_128 hts ⟨Nat.le_of_ble_eq_true rfl, Nat.le_of_ble_eq_true rfl⟩) 0 (ci := 12) rfl rfl rfl (c_X12_of l D cy qmo mo p1 7 r_5 hc_4) rfl hl.1 (Nat.le_of_ble_eq_true rfl) ⟨Nat.le_refl _, Nat.le_refl _⟩ dX12_isPlanned_13 ?_
    refine lv_if_ne (tgt := 23) hx hb dX12_isPlanned_16 (by decide) (fun c_6 => ?_) (fun c_6 => ?_)
    · have hp := ite_n hp c_6
      refine lv_iconst (v := 0) hx hb dX12_isPlanned_23 (by decide) ?_
      exact e_ROz hx hb hr hk (Or.inl rfl) dX12_isPlanned_24 (Option.some.inj hp)
    · have hp := ite_p hp c_6
      refine lv_iconst (v := 1) hx hb dX12_isPlanned_19 (by decide) ?_
      refine lv_goto (tgt := 24) hx hb dX12_isPlanned_20 (by decide) ?_
      exact e_ROz hx hb hr hk (Or.inr rfl) dX12_isPlanned_24 (Option.some.inj hp)
/-! StormSlotsModel.offOf(I)I -/
def Mo_offOf (mo : Mem) (p1 : Int32) : Option (Int32) :=
  bn1 (Mo_of mo p1 1) (fun r_2 => bn1 (Mo_of mo p1 2) (fun r_4 => some (r_2 - r_4)))
set_option maxHeartbeats 4000000 in
set_option maxRecDepth 100000 in
theorem c_X12_offOf (l : Launch) (D : va_G) (cy : Nat → ClassId) (qmo : Nat → Nat) (mo : Mem) (p1 : Int32) (r : Int32) (hp : Mo_offOf mo p1 = some r) : RO l yX12_offOf cX12_offOf 2 (some .int) 1 D cy [.ref (qmo 0), .int p1] (w_Mo cy qmo mo) r := by
  refine RO_of RX12 rfl (by decide) (Nat.le_of_ble_eq_true rfl) ?_
  intro p e s m below meth c C0 hK hP ls hl
  obtain ⟨hx, hb, hr, hml, hown, hts, hk⟩ := id C0
  unfold Mo_offOf at hp
  have hl : lv_has ls 2 [(0, .ref (qmo 0)), (1, .int p1)] := hl
  refine lv_aload_n hx hb dX12_offOf_0 rfl (lv_at hl 0 rfl) ?_
  refine lv_iload_n hx hb dX12_offOf_1 rfl (lv_at hl 1 rfl) ?_
  refine lv_iconst (v := 1) hx hb dX12_offOf_2 (by decide) ?_
  obtain ⟨r_2, hc_1, hp⟩ := bn1_s hp
  refine k_ROV (As := [.int p1, .int 1]) (rest := []) ⟨hx, hb, hml, hown, hts⟩ hK hP (cw_X12_128 hts ⟨Nat.le_of_ble_eq_true rfl, Nat.le_of_ble_eq_true rfl⟩) 0 (ci := 12) rfl rfl rfl (c_X12_of l D cy qmo mo p1 1 r_2 hc_1) rfl hl.1 (Nat.le_of_ble_eq_true rfl) ⟨Nat.le_refl _, Nat.le_refl _⟩ dX12_offOf_3 ?_
  refine lv_aload_n hx hb dX12_offOf_6 rfl (lv_at hl 0 rfl) ?_
  refine lv_iload_n hx hb dX12_offOf_7 rfl (lv_at hl 1 rfl) ?_
  refine lv_iconst (v := 2) hx hb dX12_offOf_8 (by decide) ?_
  obtain ⟨r_4, hc_3, hp⟩ := bn1_s hp
  refine k_ROV (As := [.int p1, .int 2]) (rest := [.int r_2]) ⟨hx, hb, hml, hown, hts⟩ hK hP (cw_X12_128 hts ⟨Nat.le_of_ble_eq_true rfl, Nat.le_of_ble_eq_true rfl⟩) 0 (ci := 12) rfl rfl rfl (c_X12_of l D cy qmo mo p1 2 r_4 hc_3) rfl hl.1 (Nat.le_of_ble_eq_true rfl) ⟨Nat.le_refl _, Nat.le_refl _⟩ dX12_offOf_9 ?_
  refine lv_isub hx hb dX12_offOf_12 ?_
  exact e_ROi hx hb hr hk dX12_offOf_13 (Option.some.inj hp)
/-! StormSlotsModel.earliest(I)I -/
def Mo_earliest (mo : Mem) (p1 : Int32) : Option (Int32) :=
  bn1 (Mo_of mo p1 1) (fun r_2 => ckI 172 1452 (bn1 (Mo_of mo p1 2) (fun r_5 => bn1 (Mo_more r_2 ((mo 0 (172 : Int32).toNatClampNeg) + r_5)) (fun r_7 => some r_7))))
set_option maxHeartbeats 4000000 in
set_option maxRecDepth 100000 in
theorem c_X12_earliest (l : Launch) (D : va_G) (cy : Nat → ClassId) (qmo : Nat → Nat) (mo : Mem) (p1 : Int32) (r : Int32) (hp : Mo_earliest mo p1 = some r) : RO l yX12_earliest cX12_earliest 2 (some .int) 1 D cy [.ref (qmo 0), .int p1] (w_Mo cy qmo mo) r := by
  refine RO_of RX12 rfl (by decide) (Nat.le_of_ble_eq_true rfl) ?_
  intro p e s m below meth c C0 hK hP ls hl
  obtain ⟨hx, hb, hr, hml, hown, hts, hk⟩ := id C0
  unfold Mo_earliest at hp
  have hl : lv_has ls 2 [(0, .ref (qmo 0)), (1, .int p1)] := hl
  refine lv_aload_n hx hb dX12_earliest_0 rfl (lv_at hl 0 rfl) ?_
  refine lv_iload_n hx hb dX12_earliest_1 rfl (lv_at hl 1 rfl) ?_
  refine lv_iconst (v := 1) hx hb dX12_earliest_2 (by decide) ?_
  obtain ⟨r_2, hc_1, hp⟩ := bn1_s hp
  refine k_ROV (As := [.int p1, .int 1]) (rest := []) ⟨hx, hb, hml, hown, hts⟩ hK hP (cw_X12_128 hts ⟨Nat.le_of_ble_eq_true rfl, Nat.le_of_ble_eq_true rfl⟩) 0 (ci := 12) rfl rfl rfl (c_X12_of l D cy qmo mo p1 1 r_2 hc_1) rfl hl.1 (Nat.le_of_ble_eq_true rfl) ⟨Nat.le_refl _, Nat.le_refl _⟩ dX12_earliest_3 ?_
  refine lv_aload_n hx hb dX12_earliest_6 rfl (lv_at hl 0 rfl) ?_
  refine gf_X12_7 hx hb hts hown hK hP 0 rfl rfl dX12_earliest_7 ?_
  refine lv_sipush (v := 172) hx hb dX12_earliest_10 (by decide) ?_
  obtain ⟨hi_3, hp⟩ := ckI_s hp
  refine r_ild hx hb hK hP 1 rfl hi_3 dX12_earliest_13 ?_
  refine lv_aload_n hx hb dX12_earliest_14 rfl (lv_at hl 0 rfl) ?_
  refine lv_iload_n hx hb dX12_earliest_15 rfl (lv_at hl 1 rfl) ?_
  refine lv_iconst (v := 2) hx hb dX12_earliest_16 (by decide) ?_
  obtain ⟨r_5, hc_4, hp⟩ := bn1_s hp
  refine k_ROV (As := [.int p1, .int 2]) (rest := [.int (mo 0 (172 : Int32).toNatClampNeg), .int r_2]) ⟨hx, hb, hml, hown, hts⟩ hK hP (cw_X12_128 hts ⟨Nat.le_of_ble_eq_true rfl, Nat.le_of_ble_eq_true rfl⟩) 0 (ci := 12) rfl rfl rfl (c_X12_of l D cy qmo mo p1 2 r_5 hc_4) rfl hl.1 (Nat.le_of_ble_eq_true rfl) ⟨Nat.le_refl _, Nat.le_refl _⟩ dX12_earliest_17 ?_
  refine lv_iadd hx hb dX12_earliest_20 ?_
  obtain ⟨r_7, hc_6, hp⟩ := bn1_s hp
  refine k_ROS (As := [.int r_2, .int ((mo 0 (172 : Int32).toNatClampNeg) + r_5)]) (rest := []) ⟨hx, hb, hml, hown, hts⟩ hK (show va_P D vwCl [] _ from fun k q h => by simp at h) (cw_X12_141 hts ⟨Nat.le_of_ble_eq_true rfl, Nat.le_of_ble_eq_true rfl⟩) (c_X12_more l D cy r_2 ((mo 0 (172 : Int32).toNatClampNeg) + r_5) r_7 hc_6) rfl hl.1 (Nat.le_of_ble_eq_true rfl) ⟨Nat.le_refl _, Nat.le_refl _⟩ dX12_earliest_21 ?_
  exact e_ROi hx hb hr hk dX12_earliest_24 (Option.some.inj hp)
/-! StormSlotsModel.isAir(I)Z -/
def Mo_isAir (mo : Mem) (p1 : Int32) : Option (Int32) :=
  bn1 (Mo_isPlanned mo p1) (fun r_2 => if r_2 = 0 then some 0 else bn1 (Mo_offOf mo p1) (fun r_5 => bn1 (Mo_of mo p1 5) (fun r_7 => ckI 172 1452 (if (mo 0 (172 : Int32).toNatClampNeg) < (r_5 + r_7) then some 0 else some 1))))
set_option maxHeartbeats 4000000 in
set_option maxRecDepth 100000 in
theorem c_X12_isAir (l : Launch) (D : va_G) (cy : Nat → ClassId) (qmo : Nat → Nat) (mo : Mem) (p1 : Int32) (r : Int32) (hp : Mo_isAir mo p1 = some r) : RO l yX12_isAir cX12_isAir 2 (some .boolean) 2 D cy [.ref (qmo 0), .int p1] (w_Mo cy qmo mo) r := by
  refine RO_of RX12 rfl (by decide) (Nat.le_of_ble_eq_true rfl) ?_
  intro p e s m below meth c C0 hK hP ls hl
  obtain ⟨hx, hb, hr, hml, hown, hts, hk⟩ := id C0
  unfold Mo_isAir at hp
  have hl : lv_has ls 2 [(0, .ref (qmo 0)), (1, .int p1)] := hl
  refine lv_aload_n hx hb dX12_isAir_0 rfl (lv_at hl 0 rfl) ?_
  refine lv_iload_n hx hb dX12_isAir_1 rfl (lv_at hl 1 rfl) ?_
  obtain ⟨r_2, hc_1, hp⟩ := bn1_s hp
  refine k_ROV (As := [.int p1]) (rest := []) ⟨hx, hb, hml, hown, hts⟩ hK hP (cw_X12_144 hts ⟨Nat.le_of_ble_eq_true rfl, Nat.le_of_ble_eq_true rfl⟩) 0 (ci := 12) rfl rfl rfl (c_X12_isPlanned l D cy qmo mo p1 r_2 hc_1) rfl hl.1 (Nat.le_of_ble_eq_true rfl) ⟨Nat.le_refl _, Nat.le_refl _⟩ dX12_isAir_2 ?_
  refine lv_if_eq (tgt := 35) hx hb dX12_isAir_5 (by decide) (fun c_3 => ?_) (fun c_3 => ?_)
  · have hp := ite_p hp c_3
    refine lv_iconst (v := 0) hx hb dX12_isAir_35 (by decide) ?_
    exact e_ROz hx hb hr hk (Or.inl rfl) dX12_isAir_36 (Option.some.inj hp)
  · have hp := ite_n hp c_3
    refine lv_aload_n hx hb dX12_isAir_8 rfl (lv_at hl 0 rfl) ?_
    refine lv_iload_n hx hb dX12_isAir_9 rfl (lv_at hl 1 rfl) ?_
    obtain ⟨r_5, hc_4, hp⟩ := bn1_s hp
    refine k_ROV (As := [.int p1]) (rest := []) ⟨hx, hb, hml, hown, hts⟩ hK hP (cw_X12_147 hts ⟨Nat.le_of_ble_eq_true rfl, Nat.le_of_ble_eq_true rfl⟩) 0 (ci := 12) rfl rfl rfl (c_X12_offOf l D cy qmo mo p1 r_5 hc_4) rfl hl.1 (Nat.le_of_ble_eq_true rfl) ⟨Nat.le_refl _, Nat.le_refl _⟩ dX12_isAir_10 ?_
    refine lv_aload_n hx hb dX12_isAir_13 rfl (lv_at hl 0 rfl) ?_
    refine lv_iload_n hx hb dX12_isAir_14 rfl (lv_at hl 1 rfl) ?_
    refine lv_iconst (v := 5) hx hb dX12_isAir_15 (by decide) ?_
    obtain ⟨r_7, hc_6, hp⟩ := bn1_s hp
    refine k_ROV (As := [.int p1, .int 5]) (rest := [.int r_5]) ⟨hx, hb, hml, hown, hts⟩ hK hP (cw_X12_128 hts ⟨Nat.le_of_ble_eq_true rfl, Nat.le_of_ble_eq_true rfl⟩) 0 (ci := 12) rfl rfl rfl (c_X12_of l D cy qmo mo p1 5 r_7 hc_6) rfl hl.1 (Nat.le_of_ble_eq_true rfl) ⟨Nat.le_refl _, Nat.le_refl _⟩ dX12_isAir_16 ?_
    refine lv_iadd hx hb dX12_isAir_19 ?_
    refine lv_aload_n hx hb dX12_isAir_20 rfl (lv_at hl 0 rfl) ?_
    refine gf_X12_7 hx hb hts hown hK hP 0 rfl rfl dX12_isAir_21 ?_
    refine lv_sipush (v := 172) hx hb dX12_isAir_24 (by decide) ?_
    obtain ⟨hi_8, hp⟩ := ckI_s hp
    refine r_ild hx hb hK hP 1 rfl hi_8 dX12_isAir_27 ?_
    refine lv_icmp_gt (tgt := 35) hx hb dX12_isAir_28 (by decide) (fun c_9 => ?_) (fun c_9 => ?_)
    · have hp := ite_p hp c_9
      refine lv_iconst (v := 0) hx hb dX12_isAir_35 (by decide) ?_
      exact e_ROz hx hb hr hk (Or.inl rfl) dX12_isAir_36 (Option.some.inj hp)
    · have hp := ite_n hp c_9
      refine lv_iconst (v := 1) hx hb dX12_isAir_31 (by decide) ?_
      refine lv_goto (tgt := 36) hx hb dX12_isAir_32 (by decide) ?_
      exact e_ROz hx hb hr hk (Or.inr rfl) dX12_isAir_36 (Option.some.inj hp)
/-! StormSlotsModel.isGround(I)Z -/
def Mo_isGround (mo : Mem) (p1 : Int32) : Option (Int32) :=
  bn1 (Mo_isPlanned mo p1) (fun r_2 => if r_2 = 0 then some 0 else bn1 (Mo_isAir mo p1) (fun r_5 => if r_5 = 0 then some 1 else some 0))
set_option maxHeartbeats 4000000 in
set_option maxRecDepth 100000 in
theorem c_X12_isGround (l : Launch) (D : va_G) (cy : Nat → ClassId) (qmo : Nat → Nat) (mo : Mem) (p1 : Int32) (r : Int32) (hp : Mo_isGround mo p1 = some r) : RO l yX12_isGround cX12_isGround 2 (some .boolean) 3 D cy [.ref (qmo 0), .int p1] (w_Mo cy qmo mo) r := by
  refine RO_of RX12 rfl (by decide) (Nat.le_of_ble_eq_true rfl) ?_
  intro p e s m below meth c C0 hK hP ls hl
  obtain ⟨hx, hb, hr, hml, hown, hts, hk⟩ := id C0
  unfold Mo_isGround at hp
  have hl : lv_has ls 2 [(0, .ref (qmo 0)), (1, .int p1)] := hl
  refine lv_aload_n hx hb dX12_isGround_0 rfl (lv_at hl 0 rfl) ?_
  refine lv_iload_n hx hb dX12_isGround_1 rfl (lv_at hl 1 rfl) ?_
  obtain ⟨r_2, hc_1, hp⟩ := bn1_s hp
  refine k_ROV (As := [.int p1]) (rest := []) ⟨hx, hb, hml, hown, hts⟩ hK hP (cw_X12_144 hts ⟨Nat.le_of_ble_eq_true rfl, Nat.le_of_ble_eq_true rfl⟩) 0 (ci := 12) rfl rfl rfl (c_X12_isPlanned l D cy qmo mo p1 r_2 hc_1) rfl hl.1 (Nat.le_of_ble_eq_true rfl) ⟨Nat.le_refl _, Nat.le_refl _⟩ dX12_isGround_2 ?_
  refine lv_if_eq (tgt := 20) hx hb dX12_isGround_5 (by decide) (fun c_3 => ?_) (fun c_3 => ?_)
  · have hp := ite_p hp c_3
    refine lv_iconst (v := 0) hx hb dX12_isGround_20 (by decide) ?_
    exact e_ROz hx hb hr hk (Or.inl rfl) dX12_isGround_21 (Option.some.inj hp)
  · have hp := ite_n hp c_3
    refine lv_aload_n hx hb dX12_isGround_8 rfl (lv_at hl 0 rfl) ?_
    refine lv_iload_n hx hb dX12_isGround_9 rfl (lv_at hl 1 rfl) ?_
    obtain ⟨r_5, hc_4, hp⟩ := bn1_s hp
    refine k_ROV (As := [.int p1]) (rest := []) ⟨hx, hb, hml, hown, hts⟩ hK hP (cw_X12_150 hts ⟨Nat.le_of_ble_eq_true rfl, Nat.le_of_ble_eq_true rfl⟩) 0 (ci := 12) rfl rfl rfl (c_X12_isAir l D cy qmo mo p1 r_5 hc_4) rfl hl.1 (Nat.le_of_ble_eq_true rfl) ⟨Nat.le_refl _, Nat.le_refl _⟩ dX12_isGround_10 ?_
    refine lv_if_ne (tgt := 20) hx hb dX12_isGround_13 (by decide) (fun c_6 => ?_) (fun c_6 => ?_)
    · have hp := ite_n hp c_6
      refine lv_iconst (v := 0) hx hb dX12_isGround_20 (by decide) ?_
      exact e_ROz hx hb hr hk (Or.inl rfl) dX12_isGround_21 (Option.some.inj hp)
    · have hp := ite_p hp c_6
      refine lv_iconst (v := 1) hx hb dX12_isGround_16 (by decide) ?_
      refine lv_goto (tgt := 21) hx hb dX12_isGround_17 (by decide) ?_
      exact e_ROz hx hb hr hk (Or.inr rfl) dX12_isGround_21 (Option.some.inj hp)
/-! StormSlotsModel.waits(I)I -/
def Mo_waits (mo : Mem) (p1 : Int32) : Option (Int32) :=
  bn1 (Mo_isPlanned mo p1) (fun r_2 => if r_2 = 0 then some 0 else bn1 (Mo_of mo p1 5) (fun r_5 => bn1 (Mo_of mo p1 6) (fun r_7 => some (r_5 + r_7))))
set_option maxHeartbeats 4000000 in
set_option maxRecDepth 100000 in
theorem c_X12_waits (l : Launch) (D : va_G) (cy : Nat → ClassId) (qmo : Nat → Nat) (mo : Mem) (p1 : Int32) (r : Int32) (hp : Mo_waits mo p1 = some r) : RO l yX12_waits cX12_waits 2 (some .int) 2 D cy [.ref (qmo 0), .int p1] (w_Mo cy qmo mo) r := by
  refine RO_of RX12 rfl (by decide) (Nat.le_of_ble_eq_true rfl) ?_
  intro p e s m below meth c C0 hK hP ls hl
  obtain ⟨hx, hb, hr, hml, hown, hts, hk⟩ := id C0
  unfold Mo_waits at hp
  have hl : lv_has ls 2 [(0, .ref (qmo 0)), (1, .int p1)] := hl
  refine lv_aload_n hx hb dX12_waits_0 rfl (lv_at hl 0 rfl) ?_
  refine lv_iload_n hx hb dX12_waits_1 rfl (lv_at hl 1 rfl) ?_
  obtain ⟨r_2, hc_1, hp⟩ := bn1_s hp
  refine k_ROV (As := [.int p1]) (rest := []) ⟨hx, hb, hml, hown, hts⟩ hK hP (cw_X12_144 hts ⟨Nat.le_of_ble_eq_true rfl, Nat.le_of_ble_eq_true rfl⟩) 0 (ci := 12) rfl rfl rfl (c_X12_isPlanned l D cy qmo mo p1 r_2 hc_1) rfl hl.1 (Nat.le_of_ble_eq_true rfl) ⟨Nat.le_refl _, Nat.le_refl _⟩ dX12_waits_2 ?_
  refine lv_if_eq (tgt := 25) hx hb dX12_waits_5 (by decide) (fun c_3 => ?_) (fun c_3 => ?_)
  · have hp := ite_p hp c_3
    refine lv_iconst (v := 0) hx hb dX12_waits_25 (by decide) ?_
    exact e_ROi hx hb hr hk dX12_waits_26 (Option.some.inj hp)
  · have hp := ite_n hp c_3
    refine lv_aload_n hx hb dX12_waits_8 rfl (lv_at hl 0 rfl) ?_
    refine lv_iload_n hx hb dX12_waits_9 rfl (lv_at hl 1 rfl) ?_
    refine lv_iconst (v := 5) hx hb dX12_waits_10 (by decide) ?_
    obtain ⟨r_5, hc_4, hp⟩ := bn1_s hp
    refine k_ROV (As := [.int p1, .int 5]) (rest := []) ⟨hx, hb, hml, hown, hts⟩ hK hP (cw_X12_128 hts ⟨Nat.le_of_ble_eq_true rfl, Nat.le_of_ble_eq_true rfl⟩) 0 (ci := 12) rfl rfl rfl (c_X12_of l D cy qmo mo p1 5 r_5 hc_4) rfl hl.1 (Nat.le_of_ble_eq_true rfl) ⟨Nat.le_refl _, Nat.le_refl _⟩ dX12_waits_11 ?_
    refine lv_aload_n hx hb dX12_waits_14 rfl (lv_at hl 0 rfl) ?_
    refine lv_iload_n hx hb dX12_waits_15 rfl (lv_at hl 1 rfl) ?_
    refine lv_bipush (v := 6) hx hb dX12_waits_16 (by decide) ?_
    obtain ⟨r_7, hc_6, hp⟩ := bn1_s hp
    refine k_ROV (As := [.int p1, .int 6]) (rest := [.int r_5]) ⟨hx, hb, hml, hown, hts⟩ hK hP (cw_X12_128 hts ⟨Nat.le_of_ble_eq_true rfl, Nat.le_of_ble_eq_true rfl⟩) 0 (ci := 12) rfl rfl rfl (c_X12_of l D cy qmo mo p1 6 r_7 hc_6) rfl hl.1 (Nat.le_of_ble_eq_true rfl) ⟨Nat.le_refl _, Nat.le_refl _⟩ dX12_waits_18 ?_
    refine lv_iadd hx hb dX12_waits_21 ?_
    refine lv_goto (tgt := 26) hx hb dX12_waits_22 (by decide) ?_
    exact e_ROi hx hb hr hk dX12_waits_26 (Option.some.inj hp)
/-! StormSlotsModel.cost(I)I -/
def Mo_cost (mo : Mem) (p1 : Int32) : Option (Int32) :=
  bn1 (Mo_isPlanned mo p1) (fun r_2 => if r_2 = 0 then some 0 else bn1 (Mo_of mo p1 3) (fun r_5 => bn1 (Mo_of mo p1 5) (fun r_7 => bn1 (Mo_of mo p1 6) (fun r_9 => some (r_5 * (r_7 + (3 * r_9)))))))
set_option maxHeartbeats 4000000 in
set_option maxRecDepth 100000 in
theorem c_X12_cost (l : Launch) (D : va_G) (cy : Nat → ClassId) (qmo : Nat → Nat) (mo : Mem) (p1 : Int32) (r : Int32) (hp : Mo_cost mo p1 = some r) : RO l yX12_cost cX12_cost 2 (some .int) 2 D cy [.ref (qmo 0), .int p1] (w_Mo cy qmo mo) r := by
  refine RO_of RX12 rfl (by decide) (Nat.le_of_ble_eq_true rfl) ?_
  intro p e s m below meth c C0 hK hP ls hl
  obtain ⟨hx, hb, hr, hml, hown, hts, hk⟩ := id C0
  unfold Mo_cost at hp
  have hl : lv_has ls 2 [(0, .ref (qmo 0)), (1, .int p1)] := hl
  refine lv_aload_n hx hb dX12_cost_0 rfl (lv_at hl 0 rfl) ?_
  refine lv_iload_n hx hb dX12_cost_1 rfl (lv_at hl 1 rfl) ?_
  obtain ⟨r_2, hc_1, hp⟩ := bn1_s hp
  refine k_ROV (As := [.int p1]) (rest := []) ⟨hx, hb, hml, hown, hts⟩ hK hP (cw_X12_144 hts ⟨Nat.le_of_ble_eq_true rfl, Nat.le_of_ble_eq_true rfl⟩) 0 (ci := 12) rfl rfl rfl (c_X12_isPlanned l D cy qmo mo p1 r_2 hc_1) rfl hl.1 (Nat.le_of_ble_eq_true rfl) ⟨Nat.le_refl _, Nat.le_refl _⟩ dX12_cost_2 ?_
  refine lv_if_eq (tgt := 34) hx hb dX12_cost_5 (by decide) (fun c_3 => ?_) (fun c_3 => ?_)
  · have hp := ite_p hp c_3
    refine lv_iconst (v := 0) hx hb dX12_cost_34 (by decide) ?_
    exact e_ROi hx hb hr hk dX12_cost_35 (Option.some.inj hp)
  · have hp := ite_n hp c_3
    refine lv_aload_n hx hb dX12_cost_8 rfl (lv_at hl 0 rfl) ?_
    refine lv_iload_n hx hb dX12_cost_9 rfl (lv_at hl 1 rfl) ?_
    refine lv_iconst (v := 3) hx hb dX12_cost_10 (by decide) ?_
    obtain ⟨r_5, hc_4, hp⟩ := bn1_s hp
    refine k_ROV (As := [.int p1, .int 3]) (rest := []) ⟨hx, hb, hml, hown, hts⟩ hK hP (cw_X12_128 hts ⟨Nat.le_of_ble_eq_true rfl, Nat.le_of_ble_eq_true rfl⟩) 0 (ci := 12) rfl rfl rfl (c_X12_of l D cy qmo mo p1 3 r_5 hc_4) rfl hl.1 (Nat.le_of_ble_eq_true rfl) ⟨Nat.le_refl _, Nat.le_refl _⟩ dX12_cost_11 ?_
    refine lv_aload_n hx hb dX12_cost_14 rfl (lv_at hl 0 rfl) ?_
    refine lv_iload_n hx hb dX12_cost_15 rfl (lv_at hl 1 rfl) ?_
    refine lv_iconst (v := 5) hx hb dX12_cost_16 (by decide) ?_
    obtain ⟨r_7, hc_6, hp⟩ := bn1_s hp
    refine k_ROV (As := [.int p1, .int 5]) (rest := [.int r_5]) ⟨hx, hb, hml, hown, hts⟩ hK hP (cw_X12_128 hts ⟨Nat.le_of_ble_eq_true rfl, Nat.le_of_ble_eq_true rfl⟩) 0 (ci := 12) rfl rfl rfl (c_X12_of l D cy qmo mo p1 5 r_7 hc_6) rfl hl.1 (Nat.le_of_ble_eq_true rfl) ⟨Nat.le_refl _, Nat.le_refl _⟩ dX12_cost_17 ?_
    refine lv_iconst (v := 3) hx hb dX12_cost_20 (by decide) ?_
    refine lv_aload_n hx hb dX12_cost_21 rfl (lv_at hl 0 rfl) ?_
    refine lv_iload_n hx hb dX12_cost_22 rfl (lv_at hl 1 rfl) ?_
    refine lv_bipush (v := 6) hx hb dX12_cost_23 (by decide) ?_
    obtain ⟨r_9, hc_8, hp⟩ := bn1_s hp
    refine k_ROV (As := [.int p1, .int 6]) (rest := [.int 3, .int r_7, .int r_5]) ⟨hx, hb, hml, hown, hts⟩ hK hP (cw_X12_128 hts ⟨Nat.le_of_ble_eq_true rfl, Nat.le_of_ble_eq_true rfl⟩) 0 (ci := 12) rfl rfl rfl (c_X12_of l D cy qmo mo p1 6 r_9 hc_8) rfl hl.1 (Nat.le_of_ble_eq_true rfl) ⟨Nat.le_refl _, Nat.le_refl _⟩ dX12_cost_25 ?_
    refine lv_imul hx hb dX12_cost_28 ?_
    refine lv_iadd hx hb dX12_cost_29 ?_
    refine lv_imul hx hb dX12_cost_30 ?_
    refine lv_goto (tgt := 35) hx hb dX12_cost_31 (by decide) ?_
    exact e_ROi hx hb hr hk dX12_cost_35 (Option.some.inj hp)
/-! StormSlotsModel.gives(II)V -/
def Mo_gives (mo : Mem) (p1 : Int32) (p2 : Int32) : Option (Mem) :=
  bn1 (Mo_sets mo p1 4 p2) (fun mo_2 => bn1 (Mo_of mo_2 p1 1) (fun r_4 => bn1 (Mo_sets mo_2 p1 5 (p2 - r_4)) (fun mo_6 => bn1 (Mo_sets mo_6 p1 6 0) (fun mo_8 => some mo_8))))
set_option maxHeartbeats 4000000 in
set_option maxRecDepth 100000 in
theorem c_X12_gives (l : Launch) (D : va_G) (cy : Nat → ClassId) (qmo : Nat → Nat) (mo : Mem) (p1 p2 : Int32) (mo' : Mem) (hp : Mo_gives mo p1 p2 = some mo') : RV l yX12_gives cX12_gives 3 1 D cy [.ref (qmo 0), .int p1, .int p2] (w_Mo cy qmo mo) (w_Mo cy qmo mo') := by
  refine RV_of RX12 rfl (by decide) (Nat.le_of_ble_eq_true rfl) ?_
  intro p e s m below meth c A C0 hK hP hD hS hA ls hl
  obtain ⟨hx, hb, hr, hml, hown, hts, hk⟩ := id C0
  unfold Mo_gives at hp
  have hl : lv_has ls 3 [(0, .ref (qmo 0)), (1, .int p1), (2, .int p2)] := hl
  refine lv_aload_n hx hb dX12_gives_0 rfl (lv_at hl 0 rfl) ?_
  refine lv_iload_n hx hb dX12_gives_1 rfl (lv_at hl 1 rfl) ?_
  refine lv_iconst (v := 4) hx hb dX12_gives_2 (by decide) ?_
  refine lv_iload_n hx hb dX12_gives_3 rfl (lv_at hl 2 rfl) ?_
  obtain ⟨mo_2, hc_1, hp⟩ := bn1_s hp
  refine k_RVV (As := [.int p1, .int 4, .int p2]) (rest := []) ⟨hx, hb, hml, hown, hts⟩ hK hP hD hS hA FrS_rf (cw_X12_90 hts ⟨Nat.le_of_ble_eq_true rfl, Nat.le_of_ble_eq_true rfl⟩) 0 (ci := 12) rfl rfl rfl (c_X12_sets l D cy qmo mo p1 4 p2 mo_2 hc_1) rfl hl.1 (Nat.le_of_ble_eq_true rfl) ⟨Nat.le_refl _, Nat.le_refl _⟩ dX12_gives_4 (fun H locs hP hD hS => ?_)
  refine lv_aload_n hx hb dX12_gives_7 rfl (lv_at hl 0 rfl) ?_
  refine lv_iload_n hx hb dX12_gives_8 rfl (lv_at hl 1 rfl) ?_
  refine lv_iconst (v := 5) hx hb dX12_gives_9 (by decide) ?_
  refine lv_iload_n hx hb dX12_gives_10 rfl (lv_at hl 2 rfl) ?_
  refine lv_aload_n hx hb dX12_gives_11 rfl (lv_at hl 0 rfl) ?_
  refine lv_iload_n hx hb dX12_gives_12 rfl (lv_at hl 1 rfl) ?_
  refine lv_iconst (v := 1) hx hb dX12_gives_13 (by decide) ?_
  obtain ⟨r_4, hc_3, hp⟩ := bn1_s hp
  refine k_ROV (As := [.int p1, .int 1]) (rest := [.int p2, .int 5, .int p1, .ref (qmo 0)]) ⟨hx, hb, hml, hown, hts⟩ hK hP (cw_X12_128 hts ⟨Nat.le_of_ble_eq_true rfl, Nat.le_of_ble_eq_true rfl⟩) 0 (ci := 12) rfl rfl rfl (c_X12_of l D cy qmo mo_2 p1 1 r_4 hc_3) rfl hl.1 (Nat.le_of_ble_eq_true rfl) ⟨Nat.le_refl _, Nat.le_refl _⟩ dX12_gives_14 ?_
  refine lv_isub hx hb dX12_gives_17 ?_
  obtain ⟨mo_6, hc_5, hp⟩ := bn1_s hp
  refine k_RVV (As := [.int p1, .int 5, .int (p2 - r_4)]) (rest := []) ⟨hx, hb, hml, hown, hts⟩ hK hP hD hS hA FrS_rf (cw_X12_90 hts ⟨Nat.le_of_ble_eq_true rfl, Nat.le_of_ble_eq_true rfl⟩) 0 (ci := 12) rfl rfl rfl (c_X12_sets l D cy qmo mo_2 p1 5 (p2 - r_4) mo_6 hc_5) rfl hl.1 (Nat.le_of_ble_eq_true rfl) ⟨Nat.le_refl _, Nat.le_refl _⟩ dX12_gives_18 (fun H locs hP hD hS => ?_)
  refine lv_aload_n hx hb dX12_gives_21 rfl (lv_at hl 0 rfl) ?_
  refine lv_iload_n hx hb dX12_gives_22 rfl (lv_at hl 1 rfl) ?_
  refine lv_bipush (v := 6) hx hb dX12_gives_23 (by decide) ?_
  refine lv_iconst (v := 0) hx hb dX12_gives_25 (by decide) ?_
  obtain ⟨mo_8, hc_7, hp⟩ := bn1_s hp
  refine k_RVV (As := [.int p1, .int 6, .int 0]) (rest := []) ⟨hx, hb, hml, hown, hts⟩ hK hP hD hS hA FrS_rf (cw_X12_90 hts ⟨Nat.le_of_ble_eq_true rfl, Nat.le_of_ble_eq_true rfl⟩) 0 (ci := 12) rfl rfl rfl (c_X12_sets l D cy qmo mo_6 p1 6 0 mo_8 hc_7) rfl hl.1 (Nat.le_of_ble_eq_true rfl) ⟨Nat.le_refl _, Nat.le_refl _⟩ dX12_gives_26 (fun H locs hP hD hS => ?_)
  simp only [Option.some.injEq, Prod.mk.injEq] at hp
  subst hp
  exact e_RV hx hb hr hk hP hD hS dX12_gives_29
/-! StormSlotsModel.told(II)I -/
def Mo_told (mo : Mem) (p1 : Int32) (p2 : Int32) : Option (Int32) :=
  bn1 (Mo_isFlight mo p1) (fun r_2 => if r_2 = 0 then some (-1) else bn1 (Mo_in p2 0 10) (fun r_5 => if r_5 = 0 then some (-1) else bn1 (Mo_isPlanned mo p1) (fun r_8 => if p2 = 0 then bn1 (Mo_of mo p1 0) (fun r_11 => some r_11) else if p2 = 1 then bn1 (Mo_of mo p1 1) (fun r_14 => some r_14) else if p2 = 2 then bn1 (Mo_of mo p1 2) (fun r_17 => some r_17) else if p2 = 3 then bn1 (Mo_of mo p1 3) (fun r_20 => some r_20) else if p2 = 4 then bn1 (Mo_earliest mo p1) (fun r_23 => some r_23) else if p2 = 5 then if r_8 = 0 then some (-2) else bn1 (Mo_of mo p1 4) (fun r_27 => some r_27) else if p2 = 6 then if r_8 = 0 then some (-2) else bn1 (Mo_of mo p1 5) (fun r_31 => some r_31) else if p2 = 7 then if r_8 = 0 then some (-2) else bn1 (Mo_of mo p1 6) (fun r_35 => some r_35) else if p2 = 8 then bn1 (Mo_isAir mo p1) (fun r_38 => if r_38 = 0 then some 0 else some 1) else if p2 = 9 then bn1 (Mo_of mo p1 7) (fun r_42 => some r_42) else if r_8 = 0 then some (-2) else bn1 (Mo_cost mo p1) (fun r_45 => some r_45))))
set_option maxHeartbeats 4000000 in
set_option maxRecDepth 100000 in
theorem c_X12_told (l : Launch) (D : va_G) (cy : Nat → ClassId) (qmo : Nat → Nat) (mo : Mem) (p1 p2 : Int32) (r : Int32) (hp : Mo_told mo p1 p2 = some r) : RO l yX12_told cX12_told 4 (some .int) 3 D cy [.ref (qmo 0), .int p1, .int p2] (w_Mo cy qmo mo) r := by
  refine RO_of RX12 rfl (by decide) (Nat.le_of_ble_eq_true rfl) ?_
  intro p e s m below meth c C0 hK hP ls hl
  obtain ⟨hx, hb, hr, hml, hown, hts, hk⟩ := id C0
  unfold Mo_told at hp
  have hl : lv_has ls 4 [(0, .ref (qmo 0)), (1, .int p1), (2, .int p2)] := hl
  refine lv_aload_n hx hb dX12_told_0 rfl (lv_at hl 0 rfl) ?_
  refine lv_iload_n hx hb dX12_told_1 rfl (lv_at hl 1 rfl) ?_
  obtain ⟨r_2, hc_1, hp⟩ := bn1_s hp
  refine k_ROV (As := [.int p1]) (rest := []) ⟨hx, hb, hml, hown, hts⟩ hK hP (cw_X12_153 hts ⟨Nat.le_of_ble_eq_true rfl, Nat.le_of_ble_eq_true rfl⟩) 0 (ci := 12) rfl rfl rfl (c_X12_isFlight l D cy qmo mo p1 r_2 hc_1) rfl hl.1 (Nat.le_of_ble_eq_true rfl) ⟨Nat.le_refl _, Nat.le_refl _⟩ dX12_told_2 ?_
  refine lv_if_eq (tgt := 18) hx hb dX12_told_5 (by decide) (fun c_3 => ?_) (fun c_3 => ?_)
  · have hp := ite_p hp c_3
    refine lv_iconst (v := (-1)) hx hb dX12_told_18 (by decide) ?_
    exact e_ROi hx hb hr hk dX12_told_19 (Option.some.inj hp)
  · have hp := ite_n hp c_3
    refine lv_iload_n hx hb dX12_told_8 rfl (lv_at hl 2 rfl) ?_
    refine lv_iconst (v := 0) hx hb dX12_told_9 (by decide) ?_
    refine lv_bipush (v := 10) hx hb dX12_told_10 (by decide) ?_
    obtain ⟨r_5, hc_4, hp⟩ := bn1_s hp
    refine k_ROS (As := [.int p2, .int 0, .int 10]) (rest := []) ⟨hx, hb, hml, hown, hts⟩ hK (show va_P D vwCl [] _ from fun k q h => by simp at h) (cw_X12_45 hts ⟨Nat.le_of_ble_eq_true rfl, Nat.le_of_ble_eq_true rfl⟩) (c_X12_in l D cy p2 0 10 r_5 hc_4) rfl hl.1 (Nat.le_of_ble_eq_true rfl) ⟨Nat.le_refl _, Nat.le_refl _⟩ dX12_told_12 ?_
    refine lv_if_ne (tgt := 20) hx hb dX12_told_15 (by decide) (fun c_6 => ?_) (fun c_6 => ?_)
    · have hp := ite_n hp c_6
      refine lv_aload_n hx hb dX12_told_20 rfl (lv_at hl 0 rfl) ?_
      refine lv_iload_n hx hb dX12_told_21 rfl (lv_at hl 1 rfl) ?_
      obtain ⟨r_8, hc_7, hp⟩ := bn1_s hp
      refine k_ROV (As := [.int p1]) (rest := []) ⟨hx, hb, hml, hown, hts⟩ hK hP (cw_X12_144 hts ⟨Nat.le_of_ble_eq_true rfl, Nat.le_of_ble_eq_true rfl⟩) 0 (ci := 12) rfl rfl rfl (c_X12_isPlanned l D cy qmo mo p1 r_8 hc_7) rfl hl.1 (Nat.le_of_ble_eq_true rfl) ⟨Nat.le_refl _, Nat.le_refl _⟩ dX12_told_22 ?_
      refine lv_istore_n (lv' := [(3, .int r_8), (0, .ref (qmo 0)), (1, .int p1), (2, .int p2)]) hx hb dX12_told_25 rfl hl (by decide) rfl (fun ls hl => ?_)
      refine lv_iload_n hx hb dX12_told_26 rfl (lv_at hl 3 rfl) ?_
      by_cases c_9 : p2 = 0
      · have hp := ite_p hp c_9
        refine r_tab (tgt := 80) (off := 53) 0 hx hb dX12_told_27 c_9 (by decide) (by decide) ?_
        refine lv_aload_n hx hb dX12_told_80 rfl (lv_at hl 1 rfl) ?_
        refine lv_iload_n hx hb dX12_told_81 rfl (lv_at hl 2 rfl) ?_
        refine lv_iconst (v := 0) hx hb dX12_told_82 (by decide) ?_
        obtain ⟨r_11, hc_10, hp⟩ := bn1_s hp
        refine k_ROV (As := [.int p1, .int 0]) (rest := []) ⟨hx, hb, hml, hown, hts⟩ hK hP (cw_X12_128 hts ⟨Nat.le_of_ble_eq_true rfl, Nat.le_of_ble_eq_true rfl⟩) 0 (ci := 12) rfl rfl rfl (c_X12_of l D cy qmo mo p1 0 r_11 hc_10) rfl hl.1 (Nat.le_of_ble_eq_true rfl) ⟨Nat.le_refl _, Nat.le_refl _⟩ dX12_told_83 ?_
        exact e_ROi hx hb hr hk dX12_told_86 (Option.some.inj hp)
      have hp := ite_n hp c_9
      by_cases c_12 : p2 = 1
      · have hp := ite_p hp c_12
        refine r_tab (tgt := 87) (off := 60) 1 hx hb dX12_told_27 c_12 (by decide) (by decide) ?_
        refine lv_aload_n hx hb dX12_told_87 rfl (lv_at hl 1 rfl) ?_
        refine lv_iload_n hx hb dX12_told_88 rfl (lv_at hl 2 rfl) ?_
        refine lv_iconst (v := 1) hx hb dX12_told_89 (by decide) ?_
        obtain ⟨r_14, hc_13, hp⟩ := bn1_s hp
        refine k_ROV (As := [.int p1, .int 1]) (rest := []) ⟨hx, hb, hml, hown, hts⟩ hK hP (cw_X12_128 hts ⟨Nat.le_of_ble_eq_true rfl, Nat.le_of_ble_eq_true rfl⟩) 0 (ci := 12) rfl rfl rfl (c_X12_of l D cy qmo mo p1 1 r_14 hc_13) rfl hl.1 (Nat.le_of_ble_eq_true rfl) ⟨Nat.le_refl _, Nat.le_refl _⟩ dX12_told_90 ?_
        exact e_ROi hx hb hr hk dX12_told_93 (Option.some.inj hp)
      have hp := ite_n hp c_12
      by_cases c_15 : p2 = 2
      · have hp := ite_p hp c_15
        refine r_tab (tgt := 94) (off := 67) 2 hx hb dX12_told_27 c_15 (by decide) (by decide) ?_
        refine lv_aload_n hx hb dX12_told_94 rfl (lv_at hl 1 rfl) ?_
        refine lv_iload_n hx hb dX12_told_95 rfl (lv_at hl 2 rfl) ?_
        refine lv_iconst (v := 2) hx hb dX12_told_96 (by decide) ?_
        obtain ⟨r_17, hc_16, hp⟩ := bn1_s hp
        refine k_ROV (As := [.int p1, .int 2]) (rest := []) ⟨hx, hb, hml, hown, hts⟩ hK hP (cw_X12_128 hts ⟨Nat.le_of_ble_eq_true rfl, Nat.le_of_ble_eq_true rfl⟩) 0 (ci := 12) rfl rfl rfl (c_X12_of l D cy qmo mo p1 2 r_17 hc_16) rfl hl.1 (Nat.le_of_ble_eq_true rfl) ⟨Nat.le_refl _, Nat.le_refl _⟩ dX12_told_97 ?_
        exact e_ROi hx hb hr hk dX12_told_100 (Option.some.inj hp)
      have hp := ite_n hp c_15
      by_cases c_18 : p2 = 3
      · have hp := ite_p hp c_18
        refine r_tab (tgt := 101) (off := 74) 3 hx hb dX12_told_27 c_18 (by decide) (by decide) ?_
        refine lv_aload_n hx hb dX12_told_101 rfl (lv_at hl 1 rfl) ?_
        refine lv_iload_n hx hb dX12_told_102 rfl (lv_at hl 2 rfl) ?_
        refine lv_iconst (v := 3) hx hb dX12_told_103 (by decide) ?_
        obtain ⟨r_20, hc_19, hp⟩ := bn1_s hp
        refine k_ROV (As := [.int p1, .int 3]) (rest := []) ⟨hx, hb, hml, hown, hts⟩ hK hP (cw_X12_128 hts ⟨Nat.le_of_ble_eq_true rfl, Nat.le_of_ble_eq_true rfl⟩) 0 (ci := 12) rfl rfl rfl (c_X12_of l D cy qmo mo p1 3 r_20 hc_19) rfl hl.1 (Nat.le_of_ble_eq_true rfl) ⟨Nat.le_refl _, Nat.le_refl _⟩ dX12_told_104 ?_
        exact e_ROi hx hb hr hk dX12_told_107 (Option.some.inj hp)
      have hp := ite_n hp c_18
      by_cases c_21 : p2 = 4
      · have hp := ite_p hp c_21
        refine r_tab (tgt := 108) (off := 81) 4 hx hb dX12_told_27 c_21 (by decide) (by decide) ?_
        refine lv_aload_n hx hb dX12_told_108 rfl (lv_at hl 1 rfl) ?_
        refine lv_iload_n hx hb dX12_told_109 rfl (lv_at hl 2 rfl) ?_
        obtain ⟨r_23, hc_22, hp⟩ := bn1_s hp
        refine k_ROV (As := [.int p1]) (rest := []) ⟨hx, hb, hml, hown, hts⟩ hK hP (cw_X12_156 hts ⟨Nat.le_of_ble_eq_true rfl, Nat.le_of_ble_eq_true rfl⟩) 0 (ci := 12) rfl rfl rfl (c_X12_earliest l D cy qmo mo p1 r_23 hc_22) rfl hl.1 (Nat.le_of_ble_eq_true rfl) ⟨Nat.le_refl _, Nat.le_refl _⟩ dX12_told_110 ?_
        exact e_ROi hx hb hr hk dX12_told_113 (Option.some.inj hp)
      have hp := ite_n hp c_21
      by_cases c_24 : p2 = 5
      · have hp := ite_p hp c_24
        refine r_tab (tgt := 114) (off := 87) 5 hx hb dX12_told_27 c_24 (by decide) (by decide) ?_
        refine lv_iload_n hx hb dX12_told_114 rfl (lv_at hl 0 rfl) ?_
        refine lv_if_eq (tgt := 127) hx hb dX12_told_115 (by decide) (fun c_25 => ?_) (fun c_25 => ?_)
        · have hp := ite_p hp c_25
          refine lv_bipush (v := (-2)) hx hb dX12_told_127 (by decide) ?_
          exact e_ROi hx hb hr hk dX12_told_129 (Option.some.inj hp)
        · have hp := ite_n hp c_25
          refine lv_aload_n hx hb dX12_told_118 rfl (lv_at hl 1 rfl) ?_
          refine lv_iload_n hx hb dX12_told_119 rfl (lv_at hl 2 rfl) ?_
          refine lv_iconst (v := 4) hx hb dX12_told_120 (by decide) ?_
          obtain ⟨r_27, hc_26, hp⟩ := bn1_s hp
          refine k_ROV (As := [.int p1, .int 4]) (rest := []) ⟨hx, hb, hml, hown, hts⟩ hK hP (cw_X12_128 hts ⟨Nat.le_of_ble_eq_true rfl, Nat.le_of_ble_eq_true rfl⟩) 0 (ci := 12) rfl rfl rfl (c_X12_of l D cy qmo mo p1 4 r_27 hc_26) rfl hl.1 (Nat.le_of_ble_eq_true rfl) ⟨Nat.le_refl _, Nat.le_refl _⟩ dX12_told_121 ?_
          refine lv_goto (tgt := 129) hx hb dX12_told_124 (by decide) ?_
          exact e_ROi hx hb hr hk dX12_told_129 (Option.some.inj hp)
      have hp := ite_n hp c_24
      by_cases c_28 : p2 = 6
      · have hp := ite_p hp c_28
        refine r_tab (tgt := 130) (off := 103) 6 hx hb dX12_told_27 c_28 (by decide) (by decide) ?_
        refine lv_iload_n hx hb dX12_told_130 rfl (lv_at hl 0 rfl) ?_
        refine lv_if_eq (tgt := 143) hx hb dX12_told_131 (by decide) (fun c_29 => ?_) (fun c_29 => ?_)
        · have hp := ite_p hp c_29
          refine lv_bipush (v := (-2)) hx hb dX12_told_143 (by decide) ?_
          exact e_ROi hx hb hr hk dX12_told_145 (Option.some.inj hp)
        · have hp := ite_n hp c_29
          refine lv_aload_n hx hb dX12_told_134 rfl (lv_at hl 1 rfl) ?_
          refine lv_iload_n hx hb dX12_told_135 rfl (lv_at hl 2 rfl) ?_
          refine lv_iconst (v := 5) hx hb dX12_told_136 (by decide) ?_
          obtain ⟨r_31, hc_30, hp⟩ := bn1_s hp
          refine k_ROV (As := [.int p1, .int 5]) (rest := []) ⟨hx, hb, hml, hown, hts⟩ hK hP (cw_X12_128 hts ⟨Nat.le_of_ble_eq_true rfl, Nat.le_of_ble_eq_true rfl⟩) 0 (ci := 12) rfl rfl rfl (c_X12_of l D cy qmo mo p1 5 r_31 hc_30) rfl hl.1 (Nat.le_of_ble_eq_true rfl) ⟨Nat.le_refl _, Nat.le_refl _⟩ dX12_told_137 ?_
          refine lv_goto (tgt := 145) hx hb dX12_told_140 (by decide) ?_
          exact e_ROi hx hb hr hk dX12_told_145 (Option.some.inj hp)
      have hp := ite_n hp c_28
      by_cases c_32 : p2 = 7
      · have hp := ite_p hp c_32
        refine r_tab (tgt := 146) (off := 119) 7 hx hb dX12_told_27 c_32 (by decide) (by decide) ?_
        refine lv_iload_n hx hb dX12_told_146 rfl (lv_at hl 0 rfl) ?_
        refine lv_if_eq (tgt := 160) hx hb dX12_told_147 (by decide) (fun c_33 => ?_) (fun c_33 => ?_)
        · have hp := ite_p hp c_33
          refine lv_bipush (v := (-2)) hx hb dX12_told_160 (by decide) ?_
          exact e_ROi hx hb hr hk dX12_told_162 (Option.some.inj hp)
        · have hp := ite_n hp c_33
          refine lv_aload_n hx hb dX12_told_150 rfl (lv_at hl 1 rfl) ?_
          refine lv_iload_n hx hb dX12_told_151 rfl (lv_at hl 2 rfl) ?_
          refine lv_bipush (v := 6) hx hb dX12_told_152 (by decide) ?_
          obtain ⟨r_35, hc_34, hp⟩ := bn1_s hp
          refine k_ROV (As := [.int p1, .int 6]) (rest := []) ⟨hx, hb, hml, hown, hts⟩ hK hP (cw_X12_128 hts ⟨Nat.le_of_ble_eq_true rfl, Nat.le_of_ble_eq_true rfl⟩) 0 (ci := 12) rfl rfl rfl (c_X12_of l D cy qmo mo p1 6 r_35 hc_34) rfl hl.1 (Nat.le_of_ble_eq_true rfl) ⟨Nat.le_refl _, Nat.le_refl _⟩ dX12_told_154 ?_
          refine lv_goto (tgt := 162) hx hb dX12_told_157 (by decide) ?_
          exact e_ROi hx hb hr hk dX12_told_162 (Option.some.inj hp)
      have hp := ite_n hp c_32
      by_cases c_36 : p2 = 8
      · have hp := ite_p hp c_36
        refine r_tab (tgt := 163) (off := 136) 8 hx hb dX12_told_27 c_36 (by decide) (by decide) ?_
        refine lv_aload_n hx hb dX12_told_163 rfl (lv_at hl 1 rfl) ?_
        refine lv_iload_n hx hb dX12_told_164 rfl (lv_at hl 2 rfl) ?_
        obtain ⟨r_38, hc_37, hp⟩ := bn1_s hp
        refine k_ROV (As := [.int p1]) (rest := []) ⟨hx, hb, hml, hown, hts⟩ hK hP (cw_X12_150 hts ⟨Nat.le_of_ble_eq_true rfl, Nat.le_of_ble_eq_true rfl⟩) 0 (ci := 12) rfl rfl rfl (c_X12_isAir l D cy qmo mo p1 r_38 hc_37) rfl hl.1 (Nat.le_of_ble_eq_true rfl) ⟨Nat.le_refl _, Nat.le_refl _⟩ dX12_told_165 ?_
        refine lv_if_eq (tgt := 175) hx hb dX12_told_168 (by decide) (fun c_39 => ?_) (fun c_39 => ?_)
        · have hp := ite_p hp c_39
          refine lv_iconst (v := 0) hx hb dX12_told_175 (by decide) ?_
          exact e_ROi hx hb hr hk dX12_told_176 (Option.some.inj hp)
        · have hp := ite_n hp c_39
          refine lv_iconst (v := 1) hx hb dX12_told_171 (by decide) ?_
          refine lv_goto (tgt := 176) hx hb dX12_told_172 (by decide) ?_
          exact e_ROi hx hb hr hk dX12_told_176 (Option.some.inj hp)
      have hp := ite_n hp c_36
      by_cases c_40 : p2 = 9
      · have hp := ite_p hp c_40
        refine r_tab (tgt := 177) (off := 150) 9 hx hb dX12_told_27 c_40 (by decide) (by decide) ?_
        refine lv_aload_n hx hb dX12_told_177 rfl (lv_at hl 1 rfl) ?_
        refine lv_iload_n hx hb dX12_told_178 rfl (lv_at hl 2 rfl) ?_
        refine lv_bipush (v := 7) hx hb dX12_told_179 (by decide) ?_
        obtain ⟨r_42, hc_41, hp⟩ := bn1_s hp
        refine k_ROV (As := [.int p1, .int 7]) (rest := []) ⟨hx, hb, hml, hown, hts⟩ hK hP (cw_X12_128 hts ⟨Nat.le_of_ble_eq_true rfl, Nat.le_of_ble_eq_true rfl⟩) 0 (ci := 12) rfl rfl rfl (c_X12_of l D cy qmo mo p1 7 r_42 hc_41) rfl hl.1 (Nat.le_of_ble_eq_true rfl) ⟨Nat.le_refl _, Nat.le_refl _⟩ dX12_told_181 ?_
        exact e_ROi hx hb hr hk dX12_told_184 (Option.some.inj hp)
      have hp := ite_n hp c_40
      refine lv_tableOut (tgt := 185) hx hb dX12_told_27 (by have zc_9 : (p2).toInt ≠ 0 := ne_toInt c_9; have zc_12 : (p2).toInt ≠ 1 := ne_toInt c_12; have zc_15 : (p2).toInt ≠ 2 := ne_toInt c_15; have zc_18 : (p2).toInt ≠ 3 := ne_toInt c_18; have zc_21 : (p2).toInt ≠ 4 := ne_toInt c_21; have zc_24 : (p2).toInt ≠ 5 := ne_toInt c_24; have zc_28 : (p2).toInt ≠ 6 := ne_toInt c_28; have zc_32 : (p2).toInt ≠ 7 := ne_toInt c_32; have zc_36 : (p2).toInt ≠ 8 := ne_toInt c_36; have zc_40 : (p2).toInt ≠ 9 := ne_toInt c_40; omega) (by decide) ?_
      refine lv_iload_n hx hb dX12_told_185 rfl (lv_at hl 0 rfl) ?_
      refine lv_if_eq (tgt := 197) hx hb dX12_told_186 (by decide) (fun c_43 => ?_) (fun c_43 => ?_)
      · have hp := ite_p hp c_43
        refine lv_bipush (v := (-2)) hx hb dX12_told_197 (by decide) ?_
        exact e_ROi hx hb hr hk dX12_told_199 (Option.some.inj hp)
      · have hp := ite_n hp c_43
        refine lv_aload_n hx hb dX12_told_189 rfl (lv_at hl 1 rfl) ?_
        refine lv_iload_n hx hb dX12_told_190 rfl (lv_at hl 2 rfl) ?_
        obtain ⟨r_45, hc_44, hp⟩ := bn1_s hp
        refine k_ROV (As := [.int p1]) (rest := []) ⟨hx, hb, hml, hown, hts⟩ hK hP (cw_X12_159 hts ⟨Nat.le_of_ble_eq_true rfl, Nat.le_of_ble_eq_true rfl⟩) 0 (ci := 12) rfl rfl rfl (c_X12_cost l D cy qmo mo p1 r_45 hc_44) rfl hl.1 (Nat.le_of_ble_eq_true rfl) ⟨Nat.le_refl _, Nat.le_refl _⟩ dX12_told_191 ?_
        refine lv_goto (tgt := 199) hx hb dX12_told_194 (by decide) ?_
        exact e_ROi hx hb hr hk dX12_told_199 (Option.some.inj hp)
    · have hp := ite_p hp c_6
      refine lv_iconst (v := (-1)) hx hb dX12_told_18 (by decide) ?_
      exact e_ROi hx hb hr hk dX12_told_19 (Option.some.inj hp)
/-! StormSlotsModel.flightAt(I)I -/
def Mo_flightAt_b2B (mo : Mem) (p1 : Int32) (k2 : Int32 → Option (Int32)) (x2 : Int32) : Option (Int32) :=
  ckI 173 1452 (if (mo 0 (173 : Int32).toNatClampNeg) ≤ x2 then some (-1) else bn1 (Mo_isPlanned mo x2) (fun r_4 => if r_4 = 0 then stk (x2 + 1) (fun x2_6 => k2 x2_6) else bn1 (Mo_of mo x2 4) (fun r_8 => if r_8 = p1 then some x2 else stk (x2 + 1) (fun x2_10 => k2 x2_10))))
def Mo_flightAt_b2 (mo : Mem) (p1 : Int32) : Nat → Int32 → Option (Int32)
  | 0 => fun _ => none
  | n + 1 => Mo_flightAt_b2B mo p1 (Mo_flightAt_b2 mo p1 n)
def Mo_flightAt (mo : Mem) (p1 : Int32) : Option (Int32) :=
  Mo_flightAt_b2 mo p1 fl 0
set_option maxHeartbeats 4000000 in
set_option maxRecDepth 100000 in
theorem Mo_flightAt_b2B_w (C0 : cX RX12 cX12_flightAt (some .int) 3 p s m args meth c) (hK : kN D cy s) {qmo : Nat → Nat} {mo : Mem} {p1 : Int32} {r : Int32} (hP : va_P D vwCl (w_Mo cy qmo mo) s.heap) {k2 : Int32 → Option (Int32)} (hk2 : ∀ (x2 : Int32) (ls : Array Slot), lv_has ls 3 [(0, .ref (qmo 0)), (1, .int p1), (2, .int x2)] → k2 x2 = some r → W p l e (rmD 2) s m args below meth c s.heap [] 0 0 (qRO below args s r) (F0 m 2 ls [])) {x2 : Int32} {ls : Array Slot} (hl : lv_has ls 3 [(0, .ref (qmo 0)), (1, .int p1), (2, .int x2)]) (hp : Mo_flightAt_b2B mo p1 k2 x2 = some r) : W p l e (rmD 2) s m args below meth c s.heap [] 0 0 (qRO below args s r) (F0 m 2 ls []) := by
  obtain ⟨hx, hb, hr, hml, hown, hts, hk⟩ := id C0
  unfold Mo_flightAt_b2B at hp
  refine lv_iload_n hx hb dX12_flightAt_2 rfl (lv_at hl 2 rfl) ?_
  refine lv_aload_n hx hb dX12_flightAt_3 rfl (lv_at hl 0 rfl) ?_
  refine gf_X12_7 hx hb hts hown hK hP 0 rfl rfl dX12_flightAt_4 ?_
  refine lv_sipush (v := 173) hx hb dX12_flightAt_7 (by decide) ?_
  obtain ⟨hi_1, hp⟩ := ckI_s hp
  refine r_ild hx hb hK hP 1 rfl hi_1 dX12_flightAt_10 ?_
  refine lv_icmp_ge (tgt := 40) hx hb dX12_flightAt_11 (by decide) (fun c_2 => ?_) (fun c_2 => ?_)
  · have hp := ite_p hp c_2
    refine lv_iconst (v := (-1)) hx hb dX12_flightAt_40 (by decide) ?_
    exact e_ROi hx hb hr hk dX12_flightAt_41 (Option.some.inj hp)
  · have hp := ite_n hp c_2
    refine lv_aload_n hx hb dX12_flightAt_14 rfl (lv_at hl 0 rfl) ?_
    refine lv_iload_n hx hb dX12_flightAt_15 rfl (lv_at hl 2 rfl) ?_
    obtain ⟨r_4, hc_3, hp⟩ := bn1_s hp
    refine k_ROV (As := [.int x2]) (rest := []) ⟨hx, hb, hml, hown, hts⟩ hK hP (cw_X12_144 hts ⟨Nat.le_of_ble_eq_true rfl, Nat.le_of_ble_eq_true rfl⟩) 0 (ci := 12) rfl rfl rfl (c_X12_isPlanned l D cy qmo mo x2 r_4 hc_3) rfl hl.1 (Nat.le_of_ble_eq_true rfl) ⟨Nat.le_refl _, Nat.le_refl _⟩ dX12_flightAt_16 ?_
    refine lv_if_eq (tgt := 34) hx hb dX12_flightAt_19 (by decide) (fun c_5 => ?_) (fun c_5 => ?_)
    · have hp := ite_p hp c_5
      obtain ⟨x2_6, ex2_6⟩ : ∃ y : Int32, y = x2 + 1 := ⟨_, rfl⟩
      have hp := stk_e hp ex2_6
      refine lv_iinc (v := x2_6) (lv' := [(2, .int x2_6), (0, .ref (qmo 0)), (1, .int p1)]) hx hb dX12_flightAt_34 hl (k := 2) rfl (by rw [ex2_6]; rfl) (by decide) rfl (fun ls hl => ?_)
      refine lv_goto (tgt := 2) hx hb dX12_flightAt_37 (by decide) ?_
      exact hk2 x2_6 _ (lv_sub hl [1, 2, 0] rfl) hp
    · have hp := ite_n hp c_5
      refine lv_aload_n hx hb dX12_flightAt_22 rfl (lv_at hl 0 rfl) ?_
      refine lv_iload_n hx hb dX12_flightAt_23 rfl (lv_at hl 2 rfl) ?_
      refine lv_iconst (v := 4) hx hb dX12_flightAt_24 (by decide) ?_
      obtain ⟨r_8, hc_7, hp⟩ := bn1_s hp
      refine k_ROV (As := [.int x2, .int 4]) (rest := []) ⟨hx, hb, hml, hown, hts⟩ hK hP (cw_X12_128 hts ⟨Nat.le_of_ble_eq_true rfl, Nat.le_of_ble_eq_true rfl⟩) 0 (ci := 12) rfl rfl rfl (c_X12_of l D cy qmo mo x2 4 r_8 hc_7) rfl hl.1 (Nat.le_of_ble_eq_true rfl) ⟨Nat.le_refl _, Nat.le_refl _⟩ dX12_flightAt_25 ?_
      refine lv_iload_n hx hb dX12_flightAt_28 rfl (lv_at hl 1 rfl) ?_
      refine lv_icmp_ne (tgt := 34) hx hb dX12_flightAt_29 (by decide) (fun c_9 => ?_) (fun c_9 => ?_)
      · have hp := ite_n hp c_9
        obtain ⟨x2_10, ex2_10⟩ : ∃ y : Int32, y = x2 + 1 := ⟨_, rfl⟩
        have hp := stk_e hp ex2_10
        refine lv_iinc (v := x2_10) (lv' := [(2, .int x2_10), (0, .ref (qmo 0)), (1, .int p1)]) hx hb dX12_flightAt_34 hl (k := 2) rfl (by rw [ex2_10]; rfl) (by decide) rfl (fun ls hl => ?_)
        refine lv_goto (tgt := 2) hx hb dX12_flightAt_37 (by decide) ?_
        exact hk2 x2_10 _ (lv_sub hl [1, 2, 0] rfl) hp
      · have hp := ite_p hp c_9
        refine lv_iload_n hx hb dX12_flightAt_32 rfl (lv_at hl 2 rfl) ?_
        exact e_ROi hx hb hr hk dX12_flightAt_33 (Option.some.inj hp)
theorem Mo_flightAt_b2_w (C0 : cX RX12 cX12_flightAt (some .int) 3 p s m args meth c) (hK : kN D cy s) {qmo : Nat → Nat} {mo : Mem} {p1 : Int32} {r : Int32} (hP : va_P D vwCl (w_Mo cy qmo mo) s.heap) : ∀ (n : Nat) (x2 : Int32) (ls : Array Slot), lv_has ls 3 [(0, .ref (qmo 0)), (1, .int p1), (2, .int x2)] → Mo_flightAt_b2 mo p1 n x2 = some r → W p l e (rmD 2) s m args below meth c s.heap [] 0 0 (qRO below args s r) (F0 m 2 ls []) := by
  intro n
  induction n with
  | zero =>
    intro x2 ls hl hp
    cases hp
  | succ n ih =>
    intro x2 ls hl hp
    exact Mo_flightAt_b2B_w C0 hK hP  (fun x2 ls hl hp => ih x2 ls hl hp) hl hp
set_option maxHeartbeats 4000000 in
set_option maxRecDepth 100000 in
theorem c_X12_flightAt (l : Launch) (D : va_G) (cy : Nat → ClassId) (qmo : Nat → Nat) (mo : Mem) (p1 : Int32) (r : Int32) (hp : Mo_flightAt mo p1 = some r) : RO l yX12_flightAt cX12_flightAt 3 (some .int) 2 D cy [.ref (qmo 0), .int p1] (w_Mo cy qmo mo) r := by
  refine RO_of RX12 rfl (by decide) (Nat.le_of_ble_eq_true rfl) ?_
  intro p e s m below meth c C0 hK hP ls hl
  obtain ⟨hx, hb, hr, hml, hown, hts, hk⟩ := id C0
  unfold Mo_flightAt at hp
  have hl : lv_has ls 3 [(0, .ref (qmo 0)), (1, .int p1)] := hl
  refine lv_iconst (v := 0) hx hb dX12_flightAt_0 (by decide) ?_
  refine lv_istore_n (lv' := [(2, .int 0), (0, .ref (qmo 0)), (1, .int p1)]) hx hb dX12_flightAt_1 rfl hl (by decide) rfl (fun ls hl => ?_)
  exact Mo_flightAt_b2_w C0 hK hP  fl 0 _ (lv_sub hl [1, 2, 0] rfl) hp
/-! StormSlotsModel.at(I)I -/
def Mo_at (mo : Mem) (p1 : Int32) : Option (Int32) :=
  bn1 (Mo_isMinute p1) (fun r_2 => if r_2 = 0 then some (-1) else bn1 (Mo_flightAt mo p1) (fun r_5 => if r_5 = (-1) then ckI (252 + p1) 1452 (if (mo 0 (252 + p1).toNatClampNeg) ≤ 0 then bn1 (Mo_isSlot mo p1) (fun r_10 => if r_10 = 0 then some (-4) else some (-2)) else some (-3)) else some r_5))
set_option maxHeartbeats 4000000 in
set_option maxRecDepth 100000 in
theorem c_X12_at (l : Launch) (D : va_G) (cy : Nat → ClassId) (qmo : Nat → Nat) (mo : Mem) (p1 : Int32) (r : Int32) (hp : Mo_at mo p1 = some r) : RO l yX12_at cX12_at 3 (some .int) 3 D cy [.ref (qmo 0), .int p1] (w_Mo cy qmo mo) r := by
  refine RO_of RX12 rfl (by decide) (Nat.le_of_ble_eq_true rfl) ?_
  intro p e s m below meth c C0 hK hP ls hl
  obtain ⟨hx, hb, hr, hml, hown, hts, hk⟩ := id C0
  unfold Mo_at at hp
  have hl : lv_has ls 3 [(0, .ref (qmo 0)), (1, .int p1)] := hl
  refine lv_iload_n hx hb dX12_at_0 rfl (lv_at hl 1 rfl) ?_
  obtain ⟨r_2, hc_1, hp⟩ := bn1_s hp
  refine k_ROS (As := [.int p1]) (rest := []) ⟨hx, hb, hml, hown, hts⟩ hK (show va_P D vwCl [] _ from fun k q h => by simp at h) (cw_X12_162 hts ⟨Nat.le_of_ble_eq_true rfl, Nat.le_of_ble_eq_true rfl⟩) (c_X12_isMinute l D cy p1 r_2 hc_1) rfl hl.1 (Nat.le_of_ble_eq_true rfl) ⟨Nat.le_refl _, Nat.le_refl _⟩ dX12_at_1 ?_
  refine lv_if_ne (tgt := 9) hx hb dX12_at_4 (by decide) (fun c_3 => ?_) (fun c_3 => ?_)
  · have hp := ite_n hp c_3
    refine lv_aload_n hx hb dX12_at_9 rfl (lv_at hl 0 rfl) ?_
    refine lv_iload_n hx hb dX12_at_10 rfl (lv_at hl 1 rfl) ?_
    obtain ⟨r_5, hc_4, hp⟩ := bn1_s hp
    refine k_ROV (As := [.int p1]) (rest := []) ⟨hx, hb, hml, hown, hts⟩ hK hP (cw_X12_165 hts ⟨Nat.le_of_ble_eq_true rfl, Nat.le_of_ble_eq_true rfl⟩) 0 (ci := 12) rfl rfl rfl (c_X12_flightAt l D cy qmo mo p1 r_5 hc_4) rfl hl.1 (Nat.le_of_ble_eq_true rfl) ⟨Nat.le_refl _, Nat.le_refl _⟩ dX12_at_11 ?_
    refine lv_istore_n (lv' := [(2, .int r_5), (0, .ref (qmo 0)), (1, .int p1)]) hx hb dX12_at_14 rfl hl (by decide) rfl (fun ls hl => ?_)
    refine lv_iload_n hx hb dX12_at_15 rfl (lv_at hl 0 rfl) ?_
    refine lv_iconst (v := (-1)) hx hb dX12_at_16 (by decide) ?_
    refine lv_icmp_eq (tgt := 24) hx hb dX12_at_17 (by decide) (fun c_6 => ?_) (fun c_6 => ?_)
    · have hp := ite_p hp c_6
      refine lv_aload_n hx hb dX12_at_24 rfl (lv_at hl 1 rfl) ?_
      refine gf_X12_7 hx hb hts hown hK hP 0 rfl rfl dX12_at_25 ?_
      refine lv_sipush (v := 252) hx hb dX12_at_28 (by decide) ?_
      refine lv_iload_n hx hb dX12_at_31 rfl (lv_at hl 2 rfl) ?_
      refine lv_iadd hx hb dX12_at_32 ?_
      obtain ⟨hi_7, hp⟩ := ckI_s hp
      refine r_ild hx hb hK hP 1 rfl hi_7 dX12_at_33 ?_
      refine lv_if_le (tgt := 42) hx hb dX12_at_34 (by decide) (fun c_8 => ?_) (fun c_8 => ?_)
      · have hp := ite_p hp c_8
        refine lv_aload_n hx hb dX12_at_42 rfl (lv_at hl 1 rfl) ?_
        refine lv_iload_n hx hb dX12_at_43 rfl (lv_at hl 2 rfl) ?_
        obtain ⟨r_10, hc_9, hp⟩ := bn1_s hp
        refine k_ROV (As := [.int p1]) (rest := []) ⟨hx, hb, hml, hown, hts⟩ hK hP (cw_X12_138 hts ⟨Nat.le_of_ble_eq_true rfl, Nat.le_of_ble_eq_true rfl⟩) 0 (ci := 12) rfl rfl rfl (c_X12_isSlot l D cy qmo mo p1 r_10 hc_9) rfl hl.1 (Nat.le_of_ble_eq_true rfl) ⟨Nat.le_refl _, Nat.le_refl _⟩ dX12_at_44 ?_
        refine lv_if_eq (tgt := 55) hx hb dX12_at_47 (by decide) (fun c_11 => ?_) (fun c_11 => ?_)
        · have hp := ite_p hp c_11
          refine lv_bipush (v := (-4)) hx hb dX12_at_55 (by decide) ?_
          exact e_ROi hx hb hr hk dX12_at_57 (Option.some.inj hp)
        · have hp := ite_n hp c_11
          refine lv_bipush (v := (-2)) hx hb dX12_at_50 (by decide) ?_
          refine lv_goto (tgt := 57) hx hb dX12_at_52 (by decide) ?_
          exact e_ROi hx hb hr hk dX12_at_57 (Option.some.inj hp)
      · have hp := ite_n hp c_8
        refine lv_bipush (v := (-3)) hx hb dX12_at_37 (by decide) ?_
        refine lv_goto (tgt := 57) hx hb dX12_at_39 (by decide) ?_
        exact e_ROi hx hb hr hk dX12_at_57 (Option.some.inj hp)
    · have hp := ite_n hp c_6
      refine lv_iload_n hx hb dX12_at_20 rfl (lv_at hl 0 rfl) ?_
      refine lv_goto (tgt := 57) hx hb dX12_at_21 (by decide) ?_
      exact e_ROi hx hb hr hk dX12_at_57 (Option.some.inj hp)
  · have hp := ite_p hp c_3
    refine lv_iconst (v := (-1)) hx hb dX12_at_7 (by decide) ?_
    exact e_ROi hx hb hr hk dX12_at_8 (Option.some.inj hp)
/-! StormSlotsModel.beginsPlan()V -/
def Mo_beginsPlan_b24B (k24 : Mem → Int32 → Option (Mem)) (mo : Mem) (x1 : Int32) : Option (Mem) :=
  if 20 ≤ x1 then some mo else ckI x1 20 (stk (upm mo 14 x1.toNatClampNeg (vp_nar .boolean 0)) (fun mo_7 => stk (x1 + 1) (fun x1_8 => k24 mo_7 x1_8)))
def Mo_beginsPlan_b24 : Nat → Mem → Int32 → Option (Mem)
  | 0 => fun _ _ => none
  | n + 1 => Mo_beginsPlan_b24B  (Mo_beginsPlan_b24  n)
def Mo_beginsPlan_b2B (k2 : Mem → Int32 → Option (Mem)) (mo : Mem) (x1 : Int32) : Option (Mem) :=
  if 1200 ≤ x1 then Mo_beginsPlan_b24 fl mo 0 else ckI x1 1200 (stk (upm mo 13 x1.toNatClampNeg (vp_nar .boolean 0)) (fun mo_3 => stk (x1 + 1) (fun x1_4 => k2 mo_3 x1_4)))
def Mo_beginsPlan_b2 : Nat → Mem → Int32 → Option (Mem)
  | 0 => fun _ _ => none
  | n + 1 => Mo_beginsPlan_b2B  (Mo_beginsPlan_b2  n)
def Mo_beginsPlan (mo : Mem) : Option (Mem) :=
  Mo_beginsPlan_b2 fl mo 0
set_option maxHeartbeats 4000000 in
set_option maxRecDepth 100000 in
theorem Mo_beginsPlan_b24B_w (C0 : cX RX12 cX12_beginsPlan none 2 p s m args meth c) (hK : kN D cy s) {qmo : Nat → Nat} {mo' : Mem} (hA : ∀ q, s.heap.size ≤ q → A q) {k24 : Mem → Int32 → Option (Mem)} (hk24 : ∀ (mo : Mem) (x1 : Int32) (H : Heap) (locs : List Loc) (ls : Array Slot), va_P D vwCl (w_Mo cy qmo mo) H → va_D A (w_Mo cy qmo mo) → va_S A s.heap H locs → lv_has ls 2 [(0, .ref (qmo 0)), (1, .int x1)] → k24 mo x1 = some mo' → W p l e (rmD 0) s m args below meth c H locs 0 0 (qRV D below args s A (w_Mo cy qmo mo')) (F0 m 24 ls [])) {mo : Mem} {x1 : Int32} {H : Heap} {locs : List Loc} (hP : va_P D vwCl (w_Mo cy qmo mo) H) (hD : va_D A (w_Mo cy qmo mo)) (hS : va_S A s.heap H locs) {ls : Array Slot} (hl : lv_has ls 2 [(0, .ref (qmo 0)), (1, .int x1)]) (hp : Mo_beginsPlan_b24B k24 mo x1 = some mo') : W p l e (rmD 0) s m args below meth c H locs 0 0 (qRV D below args s A (w_Mo cy qmo mo')) (F0 m 24 ls []) := by
  obtain ⟨hx, hb, hr, hml, hown, hts, hk⟩ := id C0
  unfold Mo_beginsPlan_b24B at hp
  refine lv_iload_n hx hb dX12_beginsPlan_24 rfl (lv_at hl 1 rfl) ?_
  refine lv_bipush (v := 20) hx hb dX12_beginsPlan_25 (by decide) ?_
  refine lv_icmp_ge (tgt := 43) hx hb dX12_beginsPlan_27 (by decide) (fun c_5 => ?_) (fun c_5 => ?_)
  · have hp := ite_p hp c_5
    simp only [Option.some.injEq, Prod.mk.injEq] at hp
    subst hp
    exact e_RV hx hb hr hk hP hD hS dX12_beginsPlan_43
  · have hp := ite_n hp c_5
    refine lv_aload_n hx hb dX12_beginsPlan_30 rfl (lv_at hl 0 rfl) ?_
    refine gf_X12_27 hx hb hts hown hK hP 0 rfl rfl dX12_beginsPlan_31 ?_
    refine lv_iload_n hx hb dX12_beginsPlan_34 rfl (lv_at hl 1 rfl) ?_
    refine lv_iconst (v := 0) hx hb dX12_beginsPlan_35 (by decide) ?_
    obtain ⟨hi_6, hp⟩ := ckI_s hp
    obtain ⟨mo_7, emo_7⟩ : ∃ y : Mem, y = upm mo 14 x1.toNatClampNeg (vp_nar .boolean 0) := ⟨_, rfl⟩
    have hp := stk_e hp emo_7
    refine r_zst hx hb hK hP hD hS (wn := (w_Mo cy qmo mo_7)) 6 rfl hi_6 (by subst emo_7; rfl) dX12_beginsPlan_36 (fun H locs hP hD hS => ?_)
    obtain ⟨x1_8, ex1_8⟩ : ∃ y : Int32, y = x1 + 1 := ⟨_, rfl⟩
    have hp := stk_e hp ex1_8
    refine lv_iinc (v := x1_8) (lv' := [(1, .int x1_8), (0, .ref (qmo 0))]) hx hb dX12_beginsPlan_37 hl (k := 1) rfl (by rw [ex1_8]; rfl) (by decide) rfl (fun ls hl => ?_)
    refine lv_goto (tgt := 24) hx hb dX12_beginsPlan_40 (by decide) ?_
    exact hk24 mo_7 x1_8 _ _ _ hP hD hS (lv_sub hl [1, 0] rfl) hp
theorem Mo_beginsPlan_b24_w (C0 : cX RX12 cX12_beginsPlan none 2 p s m args meth c) (hK : kN D cy s) {qmo : Nat → Nat} {mo' : Mem} (hA : ∀ q, s.heap.size ≤ q → A q) : ∀ (n : Nat) (mo : Mem) (x1 : Int32) (H : Heap) (locs : List Loc) (ls : Array Slot), va_P D vwCl (w_Mo cy qmo mo) H → va_D A (w_Mo cy qmo mo) → va_S A s.heap H locs → lv_has ls 2 [(0, .ref (qmo 0)), (1, .int x1)] → Mo_beginsPlan_b24  n mo x1 = some mo' → W p l e (rmD 0) s m args below meth c H locs 0 0 (qRV D below args s A (w_Mo cy qmo mo')) (F0 m 24 ls []) := by
  intro n
  induction n with
  | zero =>
    intro mo x1 H locs ls hP hD hS hl hp
    cases hp
  | succ n ih =>
    intro mo x1 H locs ls hP hD hS hl hp
    exact Mo_beginsPlan_b24B_w C0 hK hA  (fun mo x1 H locs ls hP hD hS hl hp => ih mo x1 H locs ls hP hD hS hl hp) hP hD hS hl hp
set_option maxHeartbeats 4000000 in
set_option maxRecDepth 100000 in
theorem Mo_beginsPlan_b2B_w (C0 : cX RX12 cX12_beginsPlan none 2 p s m args meth c) (hK : kN D cy s) {qmo : Nat → Nat} {mo' : Mem} (hA : ∀ q, s.heap.size ≤ q → A q) {k2 : Mem → Int32 → Option (Mem)} (hk2 : ∀ (mo : Mem) (x1 : Int32) (H : Heap) (locs : List Loc) (ls : Array Slot), va_P D vwCl (w_Mo cy qmo mo) H → va_D A (w_Mo cy qmo mo) → va_S A s.heap H locs → lv_has ls 2 [(0, .ref (qmo 0)), (1, .int x1)] → k2 mo x1 = some mo' → W p l e (rmD 0) s m args below meth c H locs 0 0 (qRV D below args s A (w_Mo cy qmo mo')) (F0 m 2 ls [])) {mo : Mem} {x1 : Int32} {H : Heap} {locs : List Loc} (hP : va_P D vwCl (w_Mo cy qmo mo) H) (hD : va_D A (w_Mo cy qmo mo)) (hS : va_S A s.heap H locs) {ls : Array Slot} (hl : lv_has ls 2 [(0, .ref (qmo 0)), (1, .int x1)]) (hp : Mo_beginsPlan_b2B k2 mo x1 = some mo') : W p l e (rmD 0) s m args below meth c H locs 0 0 (qRV D below args s A (w_Mo cy qmo mo')) (F0 m 2 ls []) := by
  obtain ⟨hx, hb, hr, hml, hown, hts, hk⟩ := id C0
  unfold Mo_beginsPlan_b2B at hp
  refine lv_iload_n hx hb dX12_beginsPlan_2 rfl (lv_at hl 1 rfl) ?_
  refine lv_sipush (v := 1200) hx hb dX12_beginsPlan_3 (by decide) ?_
  refine lv_icmp_ge (tgt := 22) hx hb dX12_beginsPlan_6 (by decide) (fun c_1 => ?_) (fun c_1 => ?_)
  · have hp := ite_p hp c_1
    refine lv_iconst (v := 0) hx hb dX12_beginsPlan_22 (by decide) ?_
    refine lv_istore_n (lv' := [(1, .int 0), (0, .ref (qmo 0))]) hx hb dX12_beginsPlan_23 rfl hl (by decide) rfl (fun ls hl => ?_)
    exact Mo_beginsPlan_b24_w C0 hK hA  fl mo 0 _ _ _ hP hD hS (lv_sub hl [1, 0] rfl) hp
  · have hp := ite_n hp c_1
    refine lv_aload_n hx hb dX12_beginsPlan_9 rfl (lv_at hl 0 rfl) ?_
    refine gf_X12_23 hx hb hts hown hK hP 0 rfl rfl dX12_beginsPlan_10 ?_
    refine lv_iload_n hx hb dX12_beginsPlan_13 rfl (lv_at hl 1 rfl) ?_
    refine lv_iconst (v := 0) hx hb dX12_beginsPlan_14 (by decide) ?_
    obtain ⟨hi_2, hp⟩ := ckI_s hp
    obtain ⟨mo_3, emo_3⟩ : ∃ y : Mem, y = upm mo 13 x1.toNatClampNeg (vp_nar .boolean 0) := ⟨_, rfl⟩
    have hp := stk_e hp emo_3
    refine r_zst hx hb hK hP hD hS (wn := (w_Mo cy qmo mo_3)) 5 rfl hi_2 (by subst emo_3; rfl) dX12_beginsPlan_15 (fun H locs hP hD hS => ?_)
    obtain ⟨x1_4, ex1_4⟩ : ∃ y : Int32, y = x1 + 1 := ⟨_, rfl⟩
    have hp := stk_e hp ex1_4
    refine lv_iinc (v := x1_4) (lv' := [(1, .int x1_4), (0, .ref (qmo 0))]) hx hb dX12_beginsPlan_16 hl (k := 1) rfl (by rw [ex1_4]; rfl) (by decide) rfl (fun ls hl => ?_)
    refine lv_goto (tgt := 2) hx hb dX12_beginsPlan_19 (by decide) ?_
    exact hk2 mo_3 x1_4 _ _ _ hP hD hS (lv_sub hl [1, 0] rfl) hp
theorem Mo_beginsPlan_b2_w (C0 : cX RX12 cX12_beginsPlan none 2 p s m args meth c) (hK : kN D cy s) {qmo : Nat → Nat} {mo' : Mem} (hA : ∀ q, s.heap.size ≤ q → A q) : ∀ (n : Nat) (mo : Mem) (x1 : Int32) (H : Heap) (locs : List Loc) (ls : Array Slot), va_P D vwCl (w_Mo cy qmo mo) H → va_D A (w_Mo cy qmo mo) → va_S A s.heap H locs → lv_has ls 2 [(0, .ref (qmo 0)), (1, .int x1)] → Mo_beginsPlan_b2  n mo x1 = some mo' → W p l e (rmD 0) s m args below meth c H locs 0 0 (qRV D below args s A (w_Mo cy qmo mo')) (F0 m 2 ls []) := by
  intro n
  induction n with
  | zero =>
    intro mo x1 H locs ls hP hD hS hl hp
    cases hp
  | succ n ih =>
    intro mo x1 H locs ls hP hD hS hl hp
    exact Mo_beginsPlan_b2B_w C0 hK hA  (fun mo x1 H locs ls hP hD hS hl hp => ih mo x1 H locs ls hP hD hS hl hp) hP hD hS hl hp
set_option maxHeartbeats 4000000 in
set_option maxRecDepth 100000 in
theorem c_X12_beginsPlan (l : Launch) (D : va_G) (cy : Nat → ClassId) (qmo : Nat → Nat) (mo : Mem) (mo' : Mem) (hp : Mo_beginsPlan mo = some mo') : RV l yX12_beginsPlan cX12_beginsPlan 2 0 D cy [.ref (qmo 0)] (w_Mo cy qmo mo) (w_Mo cy qmo mo') := by
  refine RV_of RX12 rfl (by decide) (Nat.le_of_ble_eq_true rfl) ?_
  intro p e s m below meth c A C0 hK hP hD hS hA ls hl
  obtain ⟨hx, hb, hr, hml, hown, hts, hk⟩ := id C0
  unfold Mo_beginsPlan at hp
  have hl : lv_has ls 2 [(0, .ref (qmo 0))] := hl
  refine lv_iconst (v := 0) hx hb dX12_beginsPlan_0 (by decide) ?_
  refine lv_istore_n (lv' := [(1, .int 0), (0, .ref (qmo 0))]) hx hb dX12_beginsPlan_1 rfl hl (by decide) rfl (fun ls hl => ?_)
  exact Mo_beginsPlan_b2_w C0 hK hA  fl mo 0 _ _ _ hP hD hS (lv_sub hl [1, 0] rfl) hp
/-! StormSlotsModel.takesFrom(I)I -/
def Mo_takesFrom_b33 (p1 : Int32) (mo : Mem) (x2 : Int32) : Option (Int32 × Mem) :=
  ckI x2 1200 (stk (upm mo 13 x2.toNatClampNeg (vp_nar .boolean 1)) (fun mo_10 => some (x2, mo_10)))
def Mo_takesFrom_b2B (p1 : Int32) (k2 : Mem → Int32 → Option (Int32 × Mem)) (mo : Mem) (x2 : Int32) : Option (Int32 × Mem) :=
  if 1199 ≤ x2 then Mo_takesFrom_b33 p1 mo x2 else bn1 (Mo_isSlot mo x2) (fun r_3 => if r_3 = 0 then stk (x2 + 1) (fun x2_5 => k2 mo x2_5) else ckI x2 1200 (if (mo 13 x2.toNatClampNeg) = 0 then Mo_takesFrom_b33 p1 mo x2 else stk (x2 + 1) (fun x2_8 => k2 mo x2_8)))
def Mo_takesFrom_b2 (p1 : Int32) : Nat → Mem → Int32 → Option (Int32 × Mem)
  | 0 => fun _ _ => none
  | n + 1 => Mo_takesFrom_b2B p1 (Mo_takesFrom_b2 p1 n)
def Mo_takesFrom (mo : Mem) (p1 : Int32) : Option (Int32 × Mem) :=
  Mo_takesFrom_b2 p1 fl mo p1
set_option maxHeartbeats 4000000 in
set_option maxRecDepth 100000 in
theorem Mo_takesFrom_b33_w (C0 : cX RX12 cX12_takesFrom (some .int) 3 p s m args meth c) (hK : kN D cy s) {qmo : Nat → Nat} {p1 : Int32} {r : Int32} {mo' : Mem} (hA : ∀ q, s.heap.size ≤ q → A q) {mo : Mem} {x2 : Int32} {H : Heap} {locs : List Loc} (hP : va_P D vwCl (w_Mo cy qmo mo) H) (hD : va_D A (w_Mo cy qmo mo)) (hS : va_S A s.heap H locs) {ls : Array Slot} (hl : lv_has ls 3 [(0, .ref (qmo 0)), (1, .int p1), (2, .int x2)]) (hp : Mo_takesFrom_b33 p1 mo x2 = some (r, mo')) : W p l e (rmD 1) s m args below meth c H locs 0 0 (qRI D below args s A (w_Mo cy qmo mo') r) (F0 m 33 ls []) := by
  obtain ⟨hx, hb, hr, hml, hown, hts, hk⟩ := id C0
  unfold Mo_takesFrom_b33 at hp
  refine lv_aload_n hx hb dX12_takesFrom_33 rfl (lv_at hl 0 rfl) ?_
  refine gf_X12_23 hx hb hts hown hK hP 0 rfl rfl dX12_takesFrom_34 ?_
  refine lv_iload_n hx hb dX12_takesFrom_37 rfl (lv_at hl 2 rfl) ?_
  refine lv_iconst (v := 1) hx hb dX12_takesFrom_38 (by decide) ?_
  obtain ⟨hi_9, hp⟩ := ckI_s hp
  obtain ⟨mo_10, emo_10⟩ : ∃ y : Mem, y = upm mo 13 x2.toNatClampNeg (vp_nar .boolean 1) := ⟨_, rfl⟩
  have hp := stk_e hp emo_10
  refine r_zst hx hb hK hP hD hS (wn := (w_Mo cy qmo mo_10)) 5 rfl hi_9 (by subst emo_10; rfl) dX12_takesFrom_39 (fun H locs hP hD hS => ?_)
  refine lv_iload_n hx hb dX12_takesFrom_40 rfl (lv_at hl 2 rfl) ?_
  simp only [Option.some.injEq, Prod.mk.injEq] at hp
  obtain ⟨h0, rfl⟩ := hp
  exact e_RIi hx hb hr hk hP hD hS dX12_takesFrom_41 h0
set_option maxHeartbeats 4000000 in
set_option maxRecDepth 100000 in
theorem Mo_takesFrom_b2B_w (C0 : cX RX12 cX12_takesFrom (some .int) 3 p s m args meth c) (hK : kN D cy s) {qmo : Nat → Nat} {p1 : Int32} {r : Int32} {mo' : Mem} (hA : ∀ q, s.heap.size ≤ q → A q) {k2 : Mem → Int32 → Option (Int32 × Mem)} (hk2 : ∀ (mo : Mem) (x2 : Int32) (H : Heap) (locs : List Loc) (ls : Array Slot), va_P D vwCl (w_Mo cy qmo mo) H → va_D A (w_Mo cy qmo mo) → va_S A s.heap H locs → lv_has ls 3 [(0, .ref (qmo 0)), (1, .int p1), (2, .int x2)] → k2 mo x2 = some (r, mo') → W p l e (rmD 1) s m args below meth c H locs 0 0 (qRI D below args s A (w_Mo cy qmo mo') r) (F0 m 2 ls [])) {mo : Mem} {x2 : Int32} {H : Heap} {locs : List Loc} (hP : va_P D vwCl (w_Mo cy qmo mo) H) (hD : va_D A (w_Mo cy qmo mo)) (hS : va_S A s.heap H locs) {ls : Array Slot} (hl : lv_has ls 3 [(0, .ref (qmo 0)), (1, .int p1), (2, .int x2)]) (hp : Mo_takesFrom_b2B p1 k2 mo x2 = some (r, mo')) : W p l e (rmD 1) s m args below meth c H locs 0 0 (qRI D below args s A (w_Mo cy qmo mo') r) (F0 m 2 ls []) := by
  obtain ⟨hx, hb, hr, hml, hown, hts, hk⟩ := id C0
  unfold Mo_takesFrom_b2B at hp
  refine lv_iload_n hx hb dX12_takesFrom_2 rfl (lv_at hl 2 rfl) ?_
  refine lv_sipush (v := 1199) hx hb dX12_takesFrom_3 (by decide) ?_
  refine lv_icmp_ge (tgt := 33) hx hb dX12_takesFrom_6 (by decide) (fun c_1 => ?_) (fun c_1 => ?_)
  · have hp := ite_p hp c_1
    exact Mo_takesFrom_b33_w C0 hK hA  hP hD hS hl hp
  · have hp := ite_n hp c_1
    refine lv_aload_n hx hb dX12_takesFrom_9 rfl (lv_at hl 0 rfl) ?_
    refine lv_iload_n hx hb dX12_takesFrom_10 rfl (lv_at hl 2 rfl) ?_
    obtain ⟨r_3, hc_2, hp⟩ := bn1_s hp
    refine k_ROV (As := [.int x2]) (rest := []) ⟨hx, hb, hml, hown, hts⟩ hK hP (cw_X12_138 hts ⟨Nat.le_of_ble_eq_true rfl, Nat.le_of_ble_eq_true rfl⟩) 0 (ci := 12) rfl rfl rfl (c_X12_isSlot l D cy qmo mo x2 r_3 hc_2) rfl hl.1 (Nat.le_of_ble_eq_true rfl) ⟨Nat.le_refl _, Nat.le_refl _⟩ dX12_takesFrom_11 ?_
    refine lv_if_eq (tgt := 26) hx hb dX12_takesFrom_14 (by decide) (fun c_4 => ?_) (fun c_4 => ?_)
    · have hp := ite_p hp c_4
      refine lv_iload_n hx hb dX12_takesFrom_26 rfl (lv_at hl 2 rfl) ?_
      refine lv_iconst (v := 1) hx hb dX12_takesFrom_27 (by decide) ?_
      refine lv_iadd hx hb dX12_takesFrom_28 ?_
      refine lv_topi (fun x2_5 ex2_5 => ?_)
      have hp := stk_e hp ex2_5
      refine lv_istore_n (lv' := [(2, .int x2_5), (0, .ref (qmo 0)), (1, .int p1)]) hx hb dX12_takesFrom_29 rfl hl (by decide) rfl (fun ls hl => ?_)
      refine lv_goto (tgt := 2) hx hb dX12_takesFrom_30 (by decide) ?_
      exact hk2 mo x2_5 _ _ _ hP hD hS (lv_sub hl [1, 2, 0] rfl) hp
    · have hp := ite_n hp c_4
      refine lv_aload_n hx hb dX12_takesFrom_17 rfl (lv_at hl 0 rfl) ?_
      refine gf_X12_23 hx hb hts hown hK hP 0 rfl rfl dX12_takesFrom_18 ?_
      refine lv_iload_n hx hb dX12_takesFrom_21 rfl (lv_at hl 2 rfl) ?_
      obtain ⟨hi_6, hp⟩ := ckI_s hp
      refine r_zld hx hb hK hP 5 rfl hi_6 dX12_takesFrom_22 ?_
      refine lv_if_eq (tgt := 33) hx hb dX12_takesFrom_23 (by decide) (fun c_7 => ?_) (fun c_7 => ?_)
      · have hp := ite_p hp c_7
        exact Mo_takesFrom_b33_w C0 hK hA  hP hD hS hl hp
      · have hp := ite_n hp c_7
        refine lv_iload_n hx hb dX12_takesFrom_26 rfl (lv_at hl 2 rfl) ?_
        refine lv_iconst (v := 1) hx hb dX12_takesFrom_27 (by decide) ?_
        refine lv_iadd hx hb dX12_takesFrom_28 ?_
        refine lv_topi (fun x2_8 ex2_8 => ?_)
        have hp := stk_e hp ex2_8
        refine lv_istore_n (lv' := [(2, .int x2_8), (0, .ref (qmo 0)), (1, .int p1)]) hx hb dX12_takesFrom_29 rfl hl (by decide) rfl (fun ls hl => ?_)
        refine lv_goto (tgt := 2) hx hb dX12_takesFrom_30 (by decide) ?_
        exact hk2 mo x2_8 _ _ _ hP hD hS (lv_sub hl [1, 2, 0] rfl) hp
theorem Mo_takesFrom_b2_w (C0 : cX RX12 cX12_takesFrom (some .int) 3 p s m args meth c) (hK : kN D cy s) {qmo : Nat → Nat} {p1 : Int32} {r : Int32} {mo' : Mem} (hA : ∀ q, s.heap.size ≤ q → A q) : ∀ (n : Nat) (mo : Mem) (x2 : Int32) (H : Heap) (locs : List Loc) (ls : Array Slot), va_P D vwCl (w_Mo cy qmo mo) H → va_D A (w_Mo cy qmo mo) → va_S A s.heap H locs → lv_has ls 3 [(0, .ref (qmo 0)), (1, .int p1), (2, .int x2)] → Mo_takesFrom_b2 p1 n mo x2 = some (r, mo') → W p l e (rmD 1) s m args below meth c H locs 0 0 (qRI D below args s A (w_Mo cy qmo mo') r) (F0 m 2 ls []) := by
  intro n
  induction n with
  | zero =>
    intro mo x2 H locs ls hP hD hS hl hp
    cases hp
  | succ n ih =>
    intro mo x2 H locs ls hP hD hS hl hp
    exact Mo_takesFrom_b2B_w C0 hK hA  (fun mo x2 H locs ls hP hD hS hl hp => ih mo x2 H locs ls hP hD hS hl hp) hP hD hS hl hp
set_option maxHeartbeats 4000000 in
set_option maxRecDepth 100000 in
theorem c_X12_takesFrom (l : Launch) (D : va_G) (cy : Nat → ClassId) (qmo : Nat → Nat) (mo : Mem) (p1 : Int32) (r : Int32) (mo' : Mem) (hp : Mo_takesFrom mo p1 = some (r, mo')) : RI l yX12_takesFrom cX12_takesFrom 3 (some .int) 1 D cy [.ref (qmo 0), .int p1] (w_Mo cy qmo mo) (w_Mo cy qmo mo') r := by
  refine RI_of RX12 rfl (by decide) (Nat.le_of_ble_eq_true rfl) ?_
  intro p e s m below meth c A C0 hK hP hD hS hA ls hl
  obtain ⟨hx, hb, hr, hml, hown, hts, hk⟩ := id C0
  unfold Mo_takesFrom at hp
  have hl : lv_has ls 3 [(0, .ref (qmo 0)), (1, .int p1)] := hl
  refine lv_iload_n hx hb dX12_takesFrom_0 rfl (lv_at hl 1 rfl) ?_
  refine lv_istore_n (lv' := [(2, .int p1), (0, .ref (qmo 0)), (1, .int p1)]) hx hb dX12_takesFrom_1 rfl hl (by decide) rfl (fun ls hl => ?_)
  exact Mo_takesFrom_b2_w C0 hK hA  fl mo p1 _ _ _ hP hD hS (lv_sub hl [1, 2, 0] rfl) hp
/-! StormSlotsModel.isAhead(III)Z -/
def Mo_isAhead_b86 (mo : Mem) (p1 : Int32) (p2 : Int32) (p3 : Int32) (x4 : Int32) (y0 : Int32) (y1 : Int32) : Option (Int32) :=
  stk (y0 + y1) (fun x5_23 => if x5_23 ≤ x4 then some 0 else some 1)
def Mo_isAhead_b62 (mo : Mem) (p1 : Int32) (p2 : Int32) (p3 : Int32) (y0 : Int32) (y1 : Int32) : Option (Int32) :=
  stk (y0 + y1) (fun x4_17 => bn1 (Mo_of mo p2 1) (fun r_19 => if p3 = 3 then bn1 (Mo_of mo p2 5) (fun r_22 => Mo_isAhead_b86 mo p1 p2 p3 x4_17 r_19 r_22) else Mo_isAhead_b86 mo p1 p2 p3 x4_17 r_19 0))
def Mo_isAhead_b41 (mo : Mem) (p1 : Int32) (p2 : Int32) (p3 : Int32) : Option (Int32) :=
  bn1 (Mo_of mo p1 1) (fun r_13 => if p3 = 3 then bn1 (Mo_of mo p1 5) (fun r_16 => Mo_isAhead_b62 mo p1 p2 p3 r_13 r_16) else Mo_isAhead_b62 mo p1 p2 p3 r_13 0)
def Mo_isAhead (mo : Mem) (p1 : Int32) (p2 : Int32) (p3 : Int32) : Option (Int32) :=
  if p3 = 1 then bn1 (Mo_of mo p1 3) (fun r_3 => bn1 (Mo_of mo p2 3) (fun r_5 => if r_3 = r_5 then Mo_isAhead_b41 mo p1 p2 p3 else bn1 (Mo_of mo p1 3) (fun r_8 => bn1 (Mo_of mo p2 3) (fun r_10 => if r_8 ≤ r_10 then some 0 else some 1)))) else Mo_isAhead_b41 mo p1 p2 p3
set_option maxHeartbeats 4000000 in
set_option maxRecDepth 100000 in
theorem Mo_isAhead_b86_w (C0 : cX RX12 cX12_isAhead (some .boolean) 6 p s m args meth c) (hK : kN D cy s) {qmo : Nat → Nat} {mo : Mem} {p1 p2 p3 : Int32} {r : Int32} (hP : va_P D vwCl (w_Mo cy qmo mo) s.heap) {x4 : Int32} {y0 : Int32} {y1 : Int32} {ls : Array Slot} (hl : lv_has ls 6 [(0, .ref (qmo 0)), (1, .int p1), (2, .int p2), (3, .int p3), (4, .int x4)]) (hp : Mo_isAhead_b86 mo p1 p2 p3 x4 y0 y1 = some r) : W p l e (rmD 1) s m args below meth c s.heap [] 0 0 (qRO below args s r) (F0 m 86 ls [.int y1, .int y0]) := by
  obtain ⟨hx, hb, hr, hml, hown, hts, hk⟩ := id C0
  unfold Mo_isAhead_b86 at hp
  refine lv_iadd hx hb dX12_isAhead_86 ?_
  refine lv_topi (fun x5_23 ex5_23 => ?_)
  have hp := stk_e hp ex5_23
  refine lv_istore (lv' := [(5, .int x5_23), (0, .ref (qmo 0)), (1, .int p1), (2, .int p2), (3, .int p3), (4, .int x4)]) hx hb dX12_isAhead_87 hl (by decide) rfl (fun ls hl => ?_)
  refine lv_iload hx hb dX12_isAhead_89 (lv_at hl 5 rfl) ?_
  refine lv_iload hx hb dX12_isAhead_91 (lv_at hl 0 rfl) ?_
  refine lv_icmp_ge (tgt := 100) hx hb dX12_isAhead_93 (by decide) (fun c_24 => ?_) (fun c_24 => ?_)
  · have hp := ite_p hp c_24
    refine lv_iconst (v := 0) hx hb dX12_isAhead_100 (by decide) ?_
    exact e_ROz hx hb hr hk (Or.inl rfl) dX12_isAhead_101 (Option.some.inj hp)
  · have hp := ite_n hp c_24
    refine lv_iconst (v := 1) hx hb dX12_isAhead_96 (by decide) ?_
    refine lv_goto (tgt := 101) hx hb dX12_isAhead_97 (by decide) ?_
    exact e_ROz hx hb hr hk (Or.inr rfl) dX12_isAhead_101 (Option.some.inj hp)
set_option maxHeartbeats 4000000 in
set_option maxRecDepth 100000 in
theorem Mo_isAhead_b62_w (C0 : cX RX12 cX12_isAhead (some .boolean) 6 p s m args meth c) (hK : kN D cy s) {qmo : Nat → Nat} {mo : Mem} {p1 p2 p3 : Int32} {r : Int32} (hP : va_P D vwCl (w_Mo cy qmo mo) s.heap) {y0 : Int32} {y1 : Int32} {ls : Array Slot} (hl : lv_has ls 6 [(0, .ref (qmo 0)), (1, .int p1), (2, .int p2), (3, .int p3)]) (hp : Mo_isAhead_b62 mo p1 p2 p3 y0 y1 = some r) : W p l e (rmD 1) s m args below meth c s.heap [] 0 0 (qRO below args s r) (F0 m 62 ls [.int y1, .int y0]) := by
  obtain ⟨hx, hb, hr, hml, hown, hts, hk⟩ := id C0
  unfold Mo_isAhead_b62 at hp
  refine lv_iadd hx hb dX12_isAhead_62 ?_
  refine lv_topi (fun x4_17 ex4_17 => ?_)
  have hp := stk_e hp ex4_17
  refine lv_istore (lv' := [(4, .int x4_17), (0, .ref (qmo 0)), (1, .int p1), (2, .int p2), (3, .int p3)]) hx hb dX12_isAhead_63 hl (by decide) rfl (fun ls hl => ?_)
  refine lv_aload_n hx hb dX12_isAhead_65 rfl (lv_at hl 1 rfl) ?_
  refine lv_iload_n hx hb dX12_isAhead_66 rfl (lv_at hl 3 rfl) ?_
  refine lv_iconst (v := 1) hx hb dX12_isAhead_67 (by decide) ?_
  obtain ⟨r_19, hc_18, hp⟩ := bn1_s hp
  refine k_ROV (As := [.int p2, .int 1]) (rest := []) ⟨hx, hb, hml, hown, hts⟩ hK hP (cw_X12_128 hts ⟨Nat.le_of_ble_eq_true rfl, Nat.le_of_ble_eq_true rfl⟩) 0 (ci := 12) rfl rfl rfl (c_X12_of l D cy qmo mo p2 1 r_19 hc_18) rfl hl.1 (Nat.le_of_ble_eq_true rfl) ⟨Nat.le_refl _, Nat.le_refl _⟩ dX12_isAhead_68 ?_
  refine lv_iload_n hx hb dX12_isAhead_71 rfl (lv_at hl 4 rfl) ?_
  refine lv_iconst (v := 3) hx hb dX12_isAhead_72 (by decide) ?_
  refine lv_icmp_ne (tgt := 85) hx hb dX12_isAhead_73 (by decide) (fun c_20 => ?_) (fun c_20 => ?_)
  · have hp := ite_n hp c_20
    refine lv_iconst (v := 0) hx hb dX12_isAhead_85 (by decide) ?_
    exact Mo_isAhead_b86_w C0 hK hP  (lv_sub hl [1, 2, 3, 4, 0] rfl) hp
  · have hp := ite_p hp c_20
    refine lv_aload_n hx hb dX12_isAhead_76 rfl (lv_at hl 1 rfl) ?_
    refine lv_iload_n hx hb dX12_isAhead_77 rfl (lv_at hl 3 rfl) ?_
    refine lv_iconst (v := 5) hx hb dX12_isAhead_78 (by decide) ?_
    obtain ⟨r_22, hc_21, hp⟩ := bn1_s hp
    refine k_ROV (As := [.int p2, .int 5]) (rest := [.int r_19]) ⟨hx, hb, hml, hown, hts⟩ hK hP (cw_X12_128 hts ⟨Nat.le_of_ble_eq_true rfl, Nat.le_of_ble_eq_true rfl⟩) 0 (ci := 12) rfl rfl rfl (c_X12_of l D cy qmo mo p2 5 r_22 hc_21) rfl hl.1 (Nat.le_of_ble_eq_true rfl) ⟨Nat.le_refl _, Nat.le_refl _⟩ dX12_isAhead_79 ?_
    refine lv_goto (tgt := 86) hx hb dX12_isAhead_82 (by decide) ?_
    exact Mo_isAhead_b86_w C0 hK hP  (lv_sub hl [1, 2, 3, 4, 0] rfl) hp
set_option maxHeartbeats 4000000 in
set_option maxRecDepth 100000 in
theorem Mo_isAhead_b41_w (C0 : cX RX12 cX12_isAhead (some .boolean) 6 p s m args meth c) (hK : kN D cy s) {qmo : Nat → Nat} {mo : Mem} {p1 p2 p3 : Int32} {r : Int32} (hP : va_P D vwCl (w_Mo cy qmo mo) s.heap) {ls : Array Slot} (hl : lv_has ls 6 [(0, .ref (qmo 0)), (1, .int p1), (2, .int p2), (3, .int p3)]) (hp : Mo_isAhead_b41 mo p1 p2 p3 = some r) : W p l e (rmD 1) s m args below meth c s.heap [] 0 0 (qRO below args s r) (F0 m 41 ls []) := by
  obtain ⟨hx, hb, hr, hml, hown, hts, hk⟩ := id C0
  unfold Mo_isAhead_b41 at hp
  refine lv_aload_n hx hb dX12_isAhead_41 rfl (lv_at hl 0 rfl) ?_
  refine lv_iload_n hx hb dX12_isAhead_42 rfl (lv_at hl 1 rfl) ?_
  refine lv_iconst (v := 1) hx hb dX12_isAhead_43 (by decide) ?_
  obtain ⟨r_13, hc_12, hp⟩ := bn1_s hp
  refine k_ROV (As := [.int p1, .int 1]) (rest := []) ⟨hx, hb, hml, hown, hts⟩ hK hP (cw_X12_128 hts ⟨Nat.le_of_ble_eq_true rfl, Nat.le_of_ble_eq_true rfl⟩) 0 (ci := 12) rfl rfl rfl (c_X12_of l D cy qmo mo p1 1 r_13 hc_12) rfl hl.1 (Nat.le_of_ble_eq_true rfl) ⟨Nat.le_refl _, Nat.le_refl _⟩ dX12_isAhead_44 ?_
  refine lv_iload_n hx hb dX12_isAhead_47 rfl (lv_at hl 3 rfl) ?_
  refine lv_iconst (v := 3) hx hb dX12_isAhead_48 (by decide) ?_
  refine lv_icmp_ne (tgt := 61) hx hb dX12_isAhead_49 (by decide) (fun c_14 => ?_) (fun c_14 => ?_)
  · have hp := ite_n hp c_14
    refine lv_iconst (v := 0) hx hb dX12_isAhead_61 (by decide) ?_
    exact Mo_isAhead_b62_w C0 hK hP  hl hp
  · have hp := ite_p hp c_14
    refine lv_aload_n hx hb dX12_isAhead_52 rfl (lv_at hl 0 rfl) ?_
    refine lv_iload_n hx hb dX12_isAhead_53 rfl (lv_at hl 1 rfl) ?_
    refine lv_iconst (v := 5) hx hb dX12_isAhead_54 (by decide) ?_
    obtain ⟨r_16, hc_15, hp⟩ := bn1_s hp
    refine k_ROV (As := [.int p1, .int 5]) (rest := [.int r_13]) ⟨hx, hb, hml, hown, hts⟩ hK hP (cw_X12_128 hts ⟨Nat.le_of_ble_eq_true rfl, Nat.le_of_ble_eq_true rfl⟩) 0 (ci := 12) rfl rfl rfl (c_X12_of l D cy qmo mo p1 5 r_16 hc_15) rfl hl.1 (Nat.le_of_ble_eq_true rfl) ⟨Nat.le_refl _, Nat.le_refl _⟩ dX12_isAhead_55 ?_
    refine lv_goto (tgt := 62) hx hb dX12_isAhead_58 (by decide) ?_
    exact Mo_isAhead_b62_w C0 hK hP  hl hp
set_option maxHeartbeats 4000000 in
set_option maxRecDepth 100000 in
theorem c_X12_isAhead (l : Launch) (D : va_G) (cy : Nat → ClassId) (qmo : Nat → Nat) (mo : Mem) (p1 p2 p3 : Int32) (r : Int32) (hp : Mo_isAhead mo p1 p2 p3 = some r) : RO l yX12_isAhead cX12_isAhead 6 (some .boolean) 1 D cy [.ref (qmo 0), .int p1, .int p2, .int p3] (w_Mo cy qmo mo) r := by
  refine RO_of RX12 rfl (by decide) (Nat.le_of_ble_eq_true rfl) ?_
  intro p e s m below meth c C0 hK hP ls hl
  obtain ⟨hx, hb, hr, hml, hown, hts, hk⟩ := id C0
  unfold Mo_isAhead at hp
  have hl : lv_has ls 6 [(0, .ref (qmo 0)), (1, .int p1), (2, .int p2), (3, .int p3)] := hl
  refine lv_iload_n hx hb dX12_isAhead_0 rfl (lv_at hl 3 rfl) ?_
  refine lv_iconst (v := 1) hx hb dX12_isAhead_1 (by decide) ?_
  refine lv_icmp_ne (tgt := 41) hx hb dX12_isAhead_2 (by decide) (fun c_1 => ?_) (fun c_1 => ?_)
  · have hp := ite_n hp c_1
    exact Mo_isAhead_b41_w C0 hK hP  hl hp
  · have hp := ite_p hp c_1
    refine lv_aload_n hx hb dX12_isAhead_5 rfl (lv_at hl 0 rfl) ?_
    refine lv_iload_n hx hb dX12_isAhead_6 rfl (lv_at hl 1 rfl) ?_
    refine lv_iconst (v := 3) hx hb dX12_isAhead_7 (by decide) ?_
    obtain ⟨r_3, hc_2, hp⟩ := bn1_s hp
    refine k_ROV (As := [.int p1, .int 3]) (rest := []) ⟨hx, hb, hml, hown, hts⟩ hK hP (cw_X12_128 hts ⟨Nat.le_of_ble_eq_true rfl, Nat.le_of_ble_eq_true rfl⟩) 0 (ci := 12) rfl rfl rfl (c_X12_of l D cy qmo mo p1 3 r_3 hc_2) rfl hl.1 (Nat.le_of_ble_eq_true rfl) ⟨Nat.le_refl _, Nat.le_refl _⟩ dX12_isAhead_8 ?_
    refine lv_aload_n hx hb dX12_isAhead_11 rfl (lv_at hl 0 rfl) ?_
    refine lv_iload_n hx hb dX12_isAhead_12 rfl (lv_at hl 2 rfl) ?_
    refine lv_iconst (v := 3) hx hb dX12_isAhead_13 (by decide) ?_
    obtain ⟨r_5, hc_4, hp⟩ := bn1_s hp
    refine k_ROV (As := [.int p2, .int 3]) (rest := [.int r_3]) ⟨hx, hb, hml, hown, hts⟩ hK hP (cw_X12_128 hts ⟨Nat.le_of_ble_eq_true rfl, Nat.le_of_ble_eq_true rfl⟩) 0 (ci := 12) rfl rfl rfl (c_X12_of l D cy qmo mo p2 3 r_5 hc_4) rfl hl.1 (Nat.le_of_ble_eq_true rfl) ⟨Nat.le_refl _, Nat.le_refl _⟩ dX12_isAhead_14 ?_
    refine lv_icmp_eq (tgt := 41) hx hb dX12_isAhead_17 (by decide) (fun c_6 => ?_) (fun c_6 => ?_)
    · have hp := ite_p hp c_6
      exact Mo_isAhead_b41_w C0 hK hP  hl hp
    · have hp := ite_n hp c_6
      refine lv_aload_n hx hb dX12_isAhead_20 rfl (lv_at hl 0 rfl) ?_
      refine lv_iload_n hx hb dX12_isAhead_21 rfl (lv_at hl 1 rfl) ?_
      refine lv_iconst (v := 3) hx hb dX12_isAhead_22 (by decide) ?_
      obtain ⟨r_8, hc_7, hp⟩ := bn1_s hp
      refine k_ROV (As := [.int p1, .int 3]) (rest := []) ⟨hx, hb, hml, hown, hts⟩ hK hP (cw_X12_128 hts ⟨Nat.le_of_ble_eq_true rfl, Nat.le_of_ble_eq_true rfl⟩) 0 (ci := 12) rfl rfl rfl (c_X12_of l D cy qmo mo p1 3 r_8 hc_7) rfl hl.1 (Nat.le_of_ble_eq_true rfl) ⟨Nat.le_refl _, Nat.le_refl _⟩ dX12_isAhead_23 ?_
      refine lv_aload_n hx hb dX12_isAhead_26 rfl (lv_at hl 0 rfl) ?_
      refine lv_iload_n hx hb dX12_isAhead_27 rfl (lv_at hl 2 rfl) ?_
      refine lv_iconst (v := 3) hx hb dX12_isAhead_28 (by decide) ?_
      obtain ⟨r_10, hc_9, hp⟩ := bn1_s hp
      refine k_ROV (As := [.int p2, .int 3]) (rest := [.int r_8]) ⟨hx, hb, hml, hown, hts⟩ hK hP (cw_X12_128 hts ⟨Nat.le_of_ble_eq_true rfl, Nat.le_of_ble_eq_true rfl⟩) 0 (ci := 12) rfl rfl rfl (c_X12_of l D cy qmo mo p2 3 r_10 hc_9) rfl hl.1 (Nat.le_of_ble_eq_true rfl) ⟨Nat.le_refl _, Nat.le_refl _⟩ dX12_isAhead_29 ?_
      refine lv_icmp_le (tgt := 39) hx hb dX12_isAhead_32 (by decide) (fun c_11 => ?_) (fun c_11 => ?_)
      · have hp := ite_p hp c_11
        refine lv_iconst (v := 0) hx hb dX12_isAhead_39 (by decide) ?_
        exact e_ROz hx hb hr hk (Or.inl rfl) dX12_isAhead_40 (Option.some.inj hp)
      · have hp := ite_n hp c_11
        refine lv_iconst (v := 1) hx hb dX12_isAhead_35 (by decide) ?_
        refine lv_goto (tgt := 40) hx hb dX12_isAhead_36 (by decide) ?_
        exact e_ROz hx hb hr hk (Or.inr rfl) dX12_isAhead_40 (Option.some.inj hp)
/-! StormSlotsModel.firstOf(III)I -/
def Mo_firstOf_b122 (mo : Mem) (p1 : Int32) (p2 : Int32) (p3 : Int32) (k6 : Int32 → Int32 → Option (Int32)) (x4 : Int32) (x5 : Int32) (y0 : Int32) : Option (Int32) :=
  if y0 = 0 then stk (x5 + 1) (fun x5_25 => k6 x4 x5_25) else if x4 = (-1) then stk (x5 + 1) (fun x5_27 => k6 x5 x5_27) else bn1 (Mo_isAhead mo x5 x4 p2) (fun r_29 => if r_29 = 0 then stk (x5 + 1) (fun x5_31 => k6 x4 x5_31) else stk (x5 + 1) (fun x5_32 => k6 x5 x5_32))
def Mo_firstOf_b48 (mo : Mem) (p1 : Int32) (p2 : Int32) (p3 : Int32) (k6 : Int32 → Int32 → Option (Int32)) (x4 : Int32) (x5 : Int32) : Option (Int32) :=
  if p1 = 0 then bn1 (Mo_offOf mo x5) (fun r_21 => ckI 172 1452 (if (mo 0 (172 : Int32).toNatClampNeg) < r_21 then Mo_firstOf_b122 mo p1 p2 p3 k6 x4 x5 0 else Mo_firstOf_b122 mo p1 p2 p3 k6 x4 x5 1)) else if p1 = 1 then bn1 (Mo_offOf mo x5) (fun r_17 => ckI 172 1452 (if r_17 ≤ (mo 0 (172 : Int32).toNatClampNeg) then Mo_firstOf_b122 mo p1 p2 p3 k6 x4 x5 0 else Mo_firstOf_b122 mo p1 p2 p3 k6 x4 x5 1)) else if p1 = 2 then bn1 (Mo_isAir mo x5) (fun r_15 => Mo_firstOf_b122 mo p1 p2 p3 k6 x4 x5 r_15) else Mo_firstOf_b122 mo p1 p2 p3 k6 x4 x5 1
def Mo_firstOf_b6B (mo : Mem) (p1 : Int32) (p2 : Int32) (p3 : Int32) (k6 : Int32 → Int32 → Option (Int32)) (x4 : Int32) (x5 : Int32) : Option (Int32) :=
  ckI 173 1452 (if (mo 0 (173 : Int32).toNatClampNeg) ≤ x5 then some x4 else ckI x5 20 (if (mo 14 x5.toNatClampNeg) = 0 then if p3 = (-1) then Mo_firstOf_b48 mo p1 p2 p3 k6 x4 x5 else bn1 (Mo_of mo x5 0) (fun r_8 => if r_8 = p3 then Mo_firstOf_b48 mo p1 p2 p3 k6 x4 x5 else stk (x5 + 1) (fun x5_10 => k6 x4 x5_10)) else stk (x5 + 1) (fun x5_5 => k6 x4 x5_5)))
def Mo_firstOf_b6 (mo : Mem) (p1 : Int32) (p2 : Int32) (p3 : Int32) : Nat → Int32 → Int32 → Option (Int32)
  | 0 => fun _ _ => none
  | n + 1 => Mo_firstOf_b6B mo p1 p2 p3 (Mo_firstOf_b6 mo p1 p2 p3 n)
def Mo_firstOf (mo : Mem) (p1 : Int32) (p2 : Int32) (p3 : Int32) : Option (Int32) :=
  Mo_firstOf_b6 mo p1 p2 p3 fl (-1) 0
set_option maxHeartbeats 4000000 in
set_option maxRecDepth 100000 in
theorem Mo_firstOf_b122_w (C0 : cX RX12 cX12_firstOf (some .int) 7 p s m args meth c) (hK : kN D cy s) {qmo : Nat → Nat} {mo : Mem} {p1 p2 p3 : Int32} {r : Int32} (hP : va_P D vwCl (w_Mo cy qmo mo) s.heap) {k6 : Int32 → Int32 → Option (Int32)} (hk6 : ∀ (x4 x5 : Int32) (ls : Array Slot), lv_has ls 7 [(0, .ref (qmo 0)), (1, .int p1), (2, .int p2), (3, .int p3), (4, .int x4), (5, .int x5)] → k6 x4 x5 = some r → W p l e (rmD 3) s m args below meth c s.heap [] 0 0 (qRO below args s r) (F0 m 6 ls [])) {x4 : Int32} {x5 : Int32} {y0 : Int32} {ls : Array Slot} (hl : lv_has ls 7 [(0, .ref (qmo 0)), (1, .int p1), (2, .int p2), (3, .int p3), (4, .int x4), (5, .int x5)]) (hp : Mo_firstOf_b122 mo p1 p2 p3 k6 x4 x5 y0 = some r) : W p l e (rmD 3) s m args below meth c s.heap [] 0 0 (qRO below args s r) (F0 m 122 ls [.int y0]) := by
  obtain ⟨hx, hb, hr, hml, hown, hts, hk⟩ := id C0
  unfold Mo_firstOf_b122 at hp
  refine lv_istore (lv' := [(6, .int y0), (0, .ref (qmo 0)), (1, .int p1), (2, .int p2), (3, .int p3), (4, .int x4), (5, .int x5)]) hx hb dX12_firstOf_122 hl (by decide) rfl (fun ls hl => ?_)
  refine lv_iload hx hb dX12_firstOf_124 (lv_at hl 0 rfl) ?_
  refine lv_if_eq (tgt := 151) hx hb dX12_firstOf_126 (by decide) (fun c_24 => ?_) (fun c_24 => ?_)
  · have hp := ite_p hp c_24
    obtain ⟨x5_25, ex5_25⟩ : ∃ y : Int32, y = x5 + 1 := ⟨_, rfl⟩
    have hp := stk_e hp ex5_25
    refine lv_iinc (v := x5_25) (lv' := [(5, .int x5_25), (6, .int y0), (0, .ref (qmo 0)), (1, .int p1), (2, .int p2), (3, .int p3), (4, .int x4)]) hx hb dX12_firstOf_151 hl (k := 6) rfl (by rw [ex5_25]; rfl) (by decide) rfl (fun ls hl => ?_)
    refine lv_goto (tgt := 6) hx hb dX12_firstOf_154 (by decide) ?_
    exact hk6 x4 x5_25 _ (lv_sub hl [2, 3, 4, 5, 6, 0] rfl) hp
  · have hp := ite_n hp c_24
    refine lv_iload hx hb dX12_firstOf_129 (lv_at hl 5 rfl) ?_
    refine lv_iconst (v := (-1)) hx hb dX12_firstOf_131 (by decide) ?_
    refine lv_icmp_eq (tgt := 147) hx hb dX12_firstOf_132 (by decide) (fun c_26 => ?_) (fun c_26 => ?_)
    · have hp := ite_p hp c_26
      refine lv_iload hx hb dX12_firstOf_147 (lv_at hl 6 rfl) ?_
      refine lv_istore (lv' := [(4, .int x5), (6, .int y0), (0, .ref (qmo 0)), (1, .int p1), (2, .int p2), (3, .int p3), (5, .int x5)]) hx hb dX12_firstOf_149 hl (by decide) rfl (fun ls hl => ?_)
      obtain ⟨x5_27, ex5_27⟩ : ∃ y : Int32, y = x5 + 1 := ⟨_, rfl⟩
      have hp := stk_e hp ex5_27
      refine lv_iinc (v := x5_27) (lv' := [(5, .int x5_27), (4, .int x5), (6, .int y0), (0, .ref (qmo 0)), (1, .int p1), (2, .int p2), (3, .int p3)]) hx hb dX12_firstOf_151 hl (k := 6) rfl (by rw [ex5_27]; rfl) (by decide) rfl (fun ls hl => ?_)
      refine lv_goto (tgt := 6) hx hb dX12_firstOf_154 (by decide) ?_
      exact hk6 x5 x5_27 _ (lv_sub hl [3, 4, 5, 6, 1, 0] rfl) hp
    · have hp := ite_n hp c_26
      refine lv_aload_n hx hb dX12_firstOf_135 rfl (lv_at hl 1 rfl) ?_
      refine lv_iload hx hb dX12_firstOf_136 (lv_at hl 6 rfl) ?_
      refine lv_iload hx hb dX12_firstOf_138 (lv_at hl 5 rfl) ?_
      refine lv_iload_n hx hb dX12_firstOf_140 rfl (lv_at hl 3 rfl) ?_
      obtain ⟨r_29, hc_28, hp⟩ := bn1_s hp
      refine k_ROV (As := [.int x5, .int x4, .int p2]) (rest := []) ⟨hx, hb, hml, hown, hts⟩ hK hP (cw_X12_168 hts ⟨Nat.le_of_ble_eq_true rfl, Nat.le_of_ble_eq_true rfl⟩) 0 (ci := 12) rfl rfl rfl (c_X12_isAhead l D cy qmo mo x5 x4 p2 r_29 hc_28) rfl hl.1 (Nat.le_of_ble_eq_true rfl) ⟨Nat.le_refl _, Nat.le_refl _⟩ dX12_firstOf_141 ?_
      refine lv_if_eq (tgt := 151) hx hb dX12_firstOf_144 (by decide) (fun c_30 => ?_) (fun c_30 => ?_)
      · have hp := ite_p hp c_30
        obtain ⟨x5_31, ex5_31⟩ : ∃ y : Int32, y = x5 + 1 := ⟨_, rfl⟩
        have hp := stk_e hp ex5_31
        refine lv_iinc (v := x5_31) (lv' := [(5, .int x5_31), (6, .int y0), (0, .ref (qmo 0)), (1, .int p1), (2, .int p2), (3, .int p3), (4, .int x4)]) hx hb dX12_firstOf_151 hl (k := 6) rfl (by rw [ex5_31]; rfl) (by decide) rfl (fun ls hl => ?_)
        refine lv_goto (tgt := 6) hx hb dX12_firstOf_154 (by decide) ?_
        exact hk6 x4 x5_31 _ (lv_sub hl [2, 3, 4, 5, 6, 0] rfl) hp
      · have hp := ite_n hp c_30
        refine lv_iload hx hb dX12_firstOf_147 (lv_at hl 6 rfl) ?_
        refine lv_istore (lv' := [(4, .int x5), (6, .int y0), (0, .ref (qmo 0)), (1, .int p1), (2, .int p2), (3, .int p3), (5, .int x5)]) hx hb dX12_firstOf_149 hl (by decide) rfl (fun ls hl => ?_)
        obtain ⟨x5_32, ex5_32⟩ : ∃ y : Int32, y = x5 + 1 := ⟨_, rfl⟩
        have hp := stk_e hp ex5_32
        refine lv_iinc (v := x5_32) (lv' := [(5, .int x5_32), (4, .int x5), (6, .int y0), (0, .ref (qmo 0)), (1, .int p1), (2, .int p2), (3, .int p3)]) hx hb dX12_firstOf_151 hl (k := 6) rfl (by rw [ex5_32]; rfl) (by decide) rfl (fun ls hl => ?_)
        refine lv_goto (tgt := 6) hx hb dX12_firstOf_154 (by decide) ?_
        exact hk6 x5 x5_32 _ (lv_sub hl [3, 4, 5, 6, 1, 0] rfl) hp
set_option maxHeartbeats 4000000 in
set_option maxRecDepth 100000 in
theorem Mo_firstOf_b48_w (C0 : cX RX12 cX12_firstOf (some .int) 7 p s m args meth c) (hK : kN D cy s) {qmo : Nat → Nat} {mo : Mem} {p1 p2 p3 : Int32} {r : Int32} (hP : va_P D vwCl (w_Mo cy qmo mo) s.heap) {k6 : Int32 → Int32 → Option (Int32)} (hk6 : ∀ (x4 x5 : Int32) (ls : Array Slot), lv_has ls 7 [(0, .ref (qmo 0)), (1, .int p1), (2, .int p2), (3, .int p3), (4, .int x4), (5, .int x5)] → k6 x4 x5 = some r → W p l e (rmD 3) s m args below meth c s.heap [] 0 0 (qRO below args s r) (F0 m 6 ls [])) {x4 : Int32} {x5 : Int32} {ls : Array Slot} (hl : lv_has ls 7 [(0, .ref (qmo 0)), (1, .int p1), (2, .int p2), (3, .int p3), (4, .int x4), (5, .int x5)]) (hp : Mo_firstOf_b48 mo p1 p2 p3 k6 x4 x5 = some r) : W p l e (rmD 3) s m args below meth c s.heap [] 0 0 (qRO below args s r) (F0 m 48 ls []) := by
  obtain ⟨hx, hb, hr, hml, hown, hts, hk⟩ := id C0
  unfold Mo_firstOf_b48 at hp
  refine lv_iload_n hx hb dX12_firstOf_48 rfl (lv_at hl 1 rfl) ?_
  refine lv_if_ne (tgt := 77) hx hb dX12_firstOf_49 (by decide) (fun c_11 => ?_) (fun c_11 => ?_)
  · have hp := ite_n hp c_11
    refine lv_iload_n hx hb dX12_firstOf_77 rfl (lv_at hl 1 rfl) ?_
    refine lv_iconst (v := 1) hx hb dX12_firstOf_78 (by decide) ?_
    refine lv_icmp_ne (tgt := 107) hx hb dX12_firstOf_79 (by decide) (fun c_12 => ?_) (fun c_12 => ?_)
    · have hp := ite_n hp c_12
      refine lv_iload_n hx hb dX12_firstOf_107 rfl (lv_at hl 1 rfl) ?_
      refine lv_iconst (v := 2) hx hb dX12_firstOf_108 (by decide) ?_
      refine lv_icmp_ne (tgt := 121) hx hb dX12_firstOf_109 (by decide) (fun c_13 => ?_) (fun c_13 => ?_)
      · have hp := ite_n hp c_13
        refine lv_iconst (v := 1) hx hb dX12_firstOf_121 (by decide) ?_
        exact Mo_firstOf_b122_w C0 hK hP hk6 hl hp
      · have hp := ite_p hp c_13
        refine lv_aload_n hx hb dX12_firstOf_112 rfl (lv_at hl 0 rfl) ?_
        refine lv_iload hx hb dX12_firstOf_113 (lv_at hl 5 rfl) ?_
        obtain ⟨r_15, hc_14, hp⟩ := bn1_s hp
        refine k_ROV (As := [.int x5]) (rest := []) ⟨hx, hb, hml, hown, hts⟩ hK hP (cw_X12_150 hts ⟨Nat.le_of_ble_eq_true rfl, Nat.le_of_ble_eq_true rfl⟩) 0 (ci := 12) rfl rfl rfl (c_X12_isAir l D cy qmo mo x5 r_15 hc_14) rfl hl.1 (Nat.le_of_ble_eq_true rfl) ⟨Nat.le_refl _, Nat.le_refl _⟩ dX12_firstOf_115 ?_
        refine lv_goto (tgt := 122) hx hb dX12_firstOf_118 (by decide) ?_
        exact Mo_firstOf_b122_w C0 hK hP hk6 hl hp
    · have hp := ite_p hp c_12
      refine lv_aload_n hx hb dX12_firstOf_82 rfl (lv_at hl 0 rfl) ?_
      refine lv_iload hx hb dX12_firstOf_83 (lv_at hl 5 rfl) ?_
      obtain ⟨r_17, hc_16, hp⟩ := bn1_s hp
      refine k_ROV (As := [.int x5]) (rest := []) ⟨hx, hb, hml, hown, hts⟩ hK hP (cw_X12_147 hts ⟨Nat.le_of_ble_eq_true rfl, Nat.le_of_ble_eq_true rfl⟩) 0 (ci := 12) rfl rfl rfl (c_X12_offOf l D cy qmo mo x5 r_17 hc_16) rfl hl.1 (Nat.le_of_ble_eq_true rfl) ⟨Nat.le_refl _, Nat.le_refl _⟩ dX12_firstOf_85 ?_
      refine lv_aload_n hx hb dX12_firstOf_88 rfl (lv_at hl 0 rfl) ?_
      refine gf_X12_7 hx hb hts hown hK hP 0 rfl rfl dX12_firstOf_89 ?_
      refine lv_sipush (v := 172) hx hb dX12_firstOf_92 (by decide) ?_
      obtain ⟨hi_18, hp⟩ := ckI_s hp
      refine r_ild hx hb hK hP 1 rfl hi_18 dX12_firstOf_95 ?_
      refine lv_icmp_le (tgt := 103) hx hb dX12_firstOf_96 (by decide) (fun c_19 => ?_) (fun c_19 => ?_)
      · have hp := ite_p hp c_19
        refine lv_iconst (v := 0) hx hb dX12_firstOf_103 (by decide) ?_
        refine lv_goto (tgt := 122) hx hb dX12_firstOf_104 (by decide) ?_
        exact Mo_firstOf_b122_w C0 hK hP hk6 hl hp
      · have hp := ite_n hp c_19
        refine lv_iconst (v := 1) hx hb dX12_firstOf_99 (by decide) ?_
        refine lv_goto (tgt := 122) hx hb dX12_firstOf_100 (by decide) ?_
        exact Mo_firstOf_b122_w C0 hK hP hk6 hl hp
  · have hp := ite_p hp c_11
    refine lv_aload_n hx hb dX12_firstOf_52 rfl (lv_at hl 0 rfl) ?_
    refine lv_iload hx hb dX12_firstOf_53 (lv_at hl 5 rfl) ?_
    obtain ⟨r_21, hc_20, hp⟩ := bn1_s hp
    refine k_ROV (As := [.int x5]) (rest := []) ⟨hx, hb, hml, hown, hts⟩ hK hP (cw_X12_147 hts ⟨Nat.le_of_ble_eq_true rfl, Nat.le_of_ble_eq_true rfl⟩) 0 (ci := 12) rfl rfl rfl (c_X12_offOf l D cy qmo mo x5 r_21 hc_20) rfl hl.1 (Nat.le_of_ble_eq_true rfl) ⟨Nat.le_refl _, Nat.le_refl _⟩ dX12_firstOf_55 ?_
    refine lv_aload_n hx hb dX12_firstOf_58 rfl (lv_at hl 0 rfl) ?_
    refine gf_X12_7 hx hb hts hown hK hP 0 rfl rfl dX12_firstOf_59 ?_
    refine lv_sipush (v := 172) hx hb dX12_firstOf_62 (by decide) ?_
    obtain ⟨hi_22, hp⟩ := ckI_s hp
    refine r_ild hx hb hK hP 1 rfl hi_22 dX12_firstOf_65 ?_
    refine lv_icmp_gt (tgt := 73) hx hb dX12_firstOf_66 (by decide) (fun c_23 => ?_) (fun c_23 => ?_)
    · have hp := ite_p hp c_23
      refine lv_iconst (v := 0) hx hb dX12_firstOf_73 (by decide) ?_
      refine lv_goto (tgt := 122) hx hb dX12_firstOf_74 (by decide) ?_
      exact Mo_firstOf_b122_w C0 hK hP hk6 hl hp
    · have hp := ite_n hp c_23
      refine lv_iconst (v := 1) hx hb dX12_firstOf_69 (by decide) ?_
      refine lv_goto (tgt := 122) hx hb dX12_firstOf_70 (by decide) ?_
      exact Mo_firstOf_b122_w C0 hK hP hk6 hl hp
set_option maxHeartbeats 4000000 in
set_option maxRecDepth 100000 in
theorem Mo_firstOf_b6B_w (C0 : cX RX12 cX12_firstOf (some .int) 7 p s m args meth c) (hK : kN D cy s) {qmo : Nat → Nat} {mo : Mem} {p1 p2 p3 : Int32} {r : Int32} (hP : va_P D vwCl (w_Mo cy qmo mo) s.heap) {k6 : Int32 → Int32 → Option (Int32)} (hk6 : ∀ (x4 x5 : Int32) (ls : Array Slot), lv_has ls 7 [(0, .ref (qmo 0)), (1, .int p1), (2, .int p2), (3, .int p3), (4, .int x4), (5, .int x5)] → k6 x4 x5 = some r → W p l e (rmD 3) s m args below meth c s.heap [] 0 0 (qRO below args s r) (F0 m 6 ls [])) {x4 : Int32} {x5 : Int32} {ls : Array Slot} (hl : lv_has ls 7 [(0, .ref (qmo 0)), (1, .int p1), (2, .int p2), (3, .int p3), (4, .int x4), (5, .int x5)]) (hp : Mo_firstOf_b6B mo p1 p2 p3 k6 x4 x5 = some r) : W p l e (rmD 3) s m args below meth c s.heap [] 0 0 (qRO below args s r) (F0 m 6 ls []) := by
  obtain ⟨hx, hb, hr, hml, hown, hts, hk⟩ := id C0
  unfold Mo_firstOf_b6B at hp
  refine lv_iload hx hb dX12_firstOf_6 (lv_at hl 5 rfl) ?_
  refine lv_aload_n hx hb dX12_firstOf_8 rfl (lv_at hl 0 rfl) ?_
  refine gf_X12_7 hx hb hts hown hK hP 0 rfl rfl dX12_firstOf_9 ?_
  refine lv_sipush (v := 173) hx hb dX12_firstOf_12 (by decide) ?_
  obtain ⟨hi_1, hp⟩ := ckI_s hp
  refine r_ild hx hb hK hP 1 rfl hi_1 dX12_firstOf_15 ?_
  refine lv_icmp_ge (tgt := 157) hx hb dX12_firstOf_16 (by decide) (fun c_2 => ?_) (fun c_2 => ?_)
  · have hp := ite_p hp c_2
    refine lv_iload hx hb dX12_firstOf_157 (lv_at hl 4 rfl) ?_
    exact e_ROi hx hb hr hk dX12_firstOf_159 (Option.some.inj hp)
  · have hp := ite_n hp c_2
    refine lv_aload_n hx hb dX12_firstOf_19 rfl (lv_at hl 0 rfl) ?_
    refine gf_X12_27 hx hb hts hown hK hP 0 rfl rfl dX12_firstOf_20 ?_
    refine lv_iload hx hb dX12_firstOf_23 (lv_at hl 5 rfl) ?_
    obtain ⟨hi_3, hp⟩ := ckI_s hp
    refine r_zld hx hb hK hP 6 rfl hi_3 dX12_firstOf_25 ?_
    refine lv_if_ne (tgt := 151) hx hb dX12_firstOf_26 (by decide) (fun c_4 => ?_) (fun c_4 => ?_)
    · have hp := ite_n hp c_4
      obtain ⟨x5_5, ex5_5⟩ : ∃ y : Int32, y = x5 + 1 := ⟨_, rfl⟩
      have hp := stk_e hp ex5_5
      refine lv_iinc (v := x5_5) (lv' := [(5, .int x5_5), (0, .ref (qmo 0)), (1, .int p1), (2, .int p2), (3, .int p3), (4, .int x4)]) hx hb dX12_firstOf_151 hl (k := 5) rfl (by rw [ex5_5]; rfl) (by decide) rfl (fun ls hl => ?_)
      refine lv_goto (tgt := 6) hx hb dX12_firstOf_154 (by decide) ?_
      exact hk6 x4 x5_5 _ (lv_sub hl [1, 2, 3, 4, 5, 0] rfl) hp
    · have hp := ite_p hp c_4
      refine lv_iload_n hx hb dX12_firstOf_29 rfl (lv_at hl 3 rfl) ?_
      refine lv_iconst (v := (-1)) hx hb dX12_firstOf_30 (by decide) ?_
      refine lv_icmp_eq (tgt := 48) hx hb dX12_firstOf_31 (by decide) (fun c_6 => ?_) (fun c_6 => ?_)
      · have hp := ite_p hp c_6
        exact Mo_firstOf_b48_w C0 hK hP hk6 hl hp
      · have hp := ite_n hp c_6
        refine lv_aload_n hx hb dX12_firstOf_34 rfl (lv_at hl 0 rfl) ?_
        refine lv_iload hx hb dX12_firstOf_35 (lv_at hl 5 rfl) ?_
        refine lv_iconst (v := 0) hx hb dX12_firstOf_37 (by decide) ?_
        obtain ⟨r_8, hc_7, hp⟩ := bn1_s hp
        refine k_ROV (As := [.int x5, .int 0]) (rest := []) ⟨hx, hb, hml, hown, hts⟩ hK hP (cw_X12_128 hts ⟨Nat.le_of_ble_eq_true rfl, Nat.le_of_ble_eq_true rfl⟩) 0 (ci := 12) rfl rfl rfl (c_X12_of l D cy qmo mo x5 0 r_8 hc_7) rfl hl.1 (Nat.le_of_ble_eq_true rfl) ⟨Nat.le_refl _, Nat.le_refl _⟩ dX12_firstOf_38 ?_
        refine lv_iload_n hx hb dX12_firstOf_41 rfl (lv_at hl 3 rfl) ?_
        refine lv_icmp_eq (tgt := 48) hx hb dX12_firstOf_42 (by decide) (fun c_9 => ?_) (fun c_9 => ?_)
        · have hp := ite_p hp c_9
          exact Mo_firstOf_b48_w C0 hK hP hk6 hl hp
        · have hp := ite_n hp c_9
          refine lv_goto (tgt := 151) hx hb dX12_firstOf_45 (by decide) ?_
          obtain ⟨x5_10, ex5_10⟩ : ∃ y : Int32, y = x5 + 1 := ⟨_, rfl⟩
          have hp := stk_e hp ex5_10
          refine lv_iinc (v := x5_10) (lv' := [(5, .int x5_10), (0, .ref (qmo 0)), (1, .int p1), (2, .int p2), (3, .int p3), (4, .int x4)]) hx hb dX12_firstOf_151 hl (k := 5) rfl (by rw [ex5_10]; rfl) (by decide) rfl (fun ls hl => ?_)
          refine lv_goto (tgt := 6) hx hb dX12_firstOf_154 (by decide) ?_
          exact hk6 x4 x5_10 _ (lv_sub hl [1, 2, 3, 4, 5, 0] rfl) hp
theorem Mo_firstOf_b6_w (C0 : cX RX12 cX12_firstOf (some .int) 7 p s m args meth c) (hK : kN D cy s) {qmo : Nat → Nat} {mo : Mem} {p1 p2 p3 : Int32} {r : Int32} (hP : va_P D vwCl (w_Mo cy qmo mo) s.heap) : ∀ (n : Nat) (x4 x5 : Int32) (ls : Array Slot), lv_has ls 7 [(0, .ref (qmo 0)), (1, .int p1), (2, .int p2), (3, .int p3), (4, .int x4), (5, .int x5)] → Mo_firstOf_b6 mo p1 p2 p3 n x4 x5 = some r → W p l e (rmD 3) s m args below meth c s.heap [] 0 0 (qRO below args s r) (F0 m 6 ls []) := by
  intro n
  induction n with
  | zero =>
    intro x4 x5 ls hl hp
    cases hp
  | succ n ih =>
    intro x4 x5 ls hl hp
    exact Mo_firstOf_b6B_w C0 hK hP  (fun x4 x5 ls hl hp => ih x4 x5 ls hl hp) hl hp
set_option maxHeartbeats 4000000 in
set_option maxRecDepth 100000 in
theorem c_X12_firstOf (l : Launch) (D : va_G) (cy : Nat → ClassId) (qmo : Nat → Nat) (mo : Mem) (p1 p2 p3 : Int32) (r : Int32) (hp : Mo_firstOf mo p1 p2 p3 = some r) : RO l yX12_firstOf cX12_firstOf 7 (some .int) 3 D cy [.ref (qmo 0), .int p1, .int p2, .int p3] (w_Mo cy qmo mo) r := by
  refine RO_of RX12 rfl (by decide) (Nat.le_of_ble_eq_true rfl) ?_
  intro p e s m below meth c C0 hK hP ls hl
  obtain ⟨hx, hb, hr, hml, hown, hts, hk⟩ := id C0
  unfold Mo_firstOf at hp
  have hl : lv_has ls 7 [(0, .ref (qmo 0)), (1, .int p1), (2, .int p2), (3, .int p3)] := hl
  refine lv_iconst (v := (-1)) hx hb dX12_firstOf_0 (by decide) ?_
  refine lv_istore (lv' := [(4, .int (-1)), (0, .ref (qmo 0)), (1, .int p1), (2, .int p2), (3, .int p3)]) hx hb dX12_firstOf_1 hl (by decide) rfl (fun ls hl => ?_)
  refine lv_iconst (v := 0) hx hb dX12_firstOf_3 (by decide) ?_
  refine lv_istore (lv' := [(5, .int 0), (4, .int (-1)), (0, .ref (qmo 0)), (1, .int p1), (2, .int p2), (3, .int p3)]) hx hb dX12_firstOf_4 hl (by decide) rfl (fun ls hl => ?_)
  exact Mo_firstOf_b6_w C0 hK hP  fl (-1) 0 _ (lv_sub hl [2, 3, 4, 5, 1, 0] rfl) hp
/-! StormSlotsModel.grounds(I)V -/
def Mo_grounds (mo : Mem) (p1 : Int32) : Option (Mem) :=
  bn1 (Mo_earliest mo p1) (fun r_2 => bn2 (Mo_takesFrom mo r_2) (fun r_4 mo_5 => bn1 (Mo_gives mo_5 p1 r_4) (fun mo_7 => ckI p1 20 (stk (upm mo_7 14 p1.toNatClampNeg (vp_nar .boolean 1)) (fun mo_9 => some mo_9)))))
set_option maxHeartbeats 4000000 in
set_option maxRecDepth 100000 in
theorem c_X12_grounds (l : Launch) (D : va_G) (cy : Nat → ClassId) (qmo : Nat → Nat) (mo : Mem) (p1 : Int32) (mo' : Mem) (hp : Mo_grounds mo p1 = some mo') : RV l yX12_grounds cX12_grounds 2 2 D cy [.ref (qmo 0), .int p1] (w_Mo cy qmo mo) (w_Mo cy qmo mo') := by
  refine RV_of RX12 rfl (by decide) (Nat.le_of_ble_eq_true rfl) ?_
  intro p e s m below meth c A C0 hK hP hD hS hA ls hl
  obtain ⟨hx, hb, hr, hml, hown, hts, hk⟩ := id C0
  unfold Mo_grounds at hp
  have hl : lv_has ls 2 [(0, .ref (qmo 0)), (1, .int p1)] := hl
  refine lv_aload_n hx hb dX12_grounds_0 rfl (lv_at hl 0 rfl) ?_
  refine lv_iload_n hx hb dX12_grounds_1 rfl (lv_at hl 1 rfl) ?_
  refine lv_aload_n hx hb dX12_grounds_2 rfl (lv_at hl 0 rfl) ?_
  refine lv_aload_n hx hb dX12_grounds_3 rfl (lv_at hl 0 rfl) ?_
  refine lv_iload_n hx hb dX12_grounds_4 rfl (lv_at hl 1 rfl) ?_
  obtain ⟨r_2, hc_1, hp⟩ := bn1_s hp
  refine k_ROV (As := [.int p1]) (rest := [.ref (qmo 0), .int p1, .ref (qmo 0)]) ⟨hx, hb, hml, hown, hts⟩ hK hP (cw_X12_156 hts ⟨Nat.le_of_ble_eq_true rfl, Nat.le_of_ble_eq_true rfl⟩) 0 (ci := 12) rfl rfl rfl (c_X12_earliest l D cy qmo mo p1 r_2 hc_1) rfl hl.1 (Nat.le_of_ble_eq_true rfl) ⟨Nat.le_refl _, Nat.le_refl _⟩ dX12_grounds_5 ?_
  obtain ⟨r_4, mo_5, hc_3, hp⟩ := bn2_s hp
  refine k_RIV (As := [.int r_2]) (rest := [.int p1, .ref (qmo 0)]) ⟨hx, hb, hml, hown, hts⟩ hK hP hD hS hA FrS_rf (cw_X12_171 hts ⟨Nat.le_of_ble_eq_true rfl, Nat.le_of_ble_eq_true rfl⟩) 0 (ci := 12) rfl rfl rfl (c_X12_takesFrom l D cy qmo mo r_2 r_4 mo_5 hc_3) rfl hl.1 (Nat.le_of_ble_eq_true rfl) ⟨Nat.le_refl _, Nat.le_refl _⟩ dX12_grounds_8 (fun H locs hP hD hS => ?_)
  obtain ⟨mo_7, hc_6, hp⟩ := bn1_s hp
  refine k_RVV (As := [.int p1, .int r_4]) (rest := []) ⟨hx, hb, hml, hown, hts⟩ hK hP hD hS hA FrS_rf (cw_X12_174 hts ⟨Nat.le_of_ble_eq_true rfl, Nat.le_of_ble_eq_true rfl⟩) 0 (ci := 12) rfl rfl rfl (c_X12_gives l D cy qmo mo_5 p1 r_4 mo_7 hc_6) rfl hl.1 (Nat.le_of_ble_eq_true rfl) ⟨Nat.le_refl _, Nat.le_refl _⟩ dX12_grounds_11 (fun H locs hP hD hS => ?_)
  refine lv_aload_n hx hb dX12_grounds_14 rfl (lv_at hl 0 rfl) ?_
  refine gf_X12_27 hx hb hts hown hK hP 0 rfl rfl dX12_grounds_15 ?_
  refine lv_iload_n hx hb dX12_grounds_18 rfl (lv_at hl 1 rfl) ?_
  refine lv_iconst (v := 1) hx hb dX12_grounds_19 (by decide) ?_
  obtain ⟨hi_8, hp⟩ := ckI_s hp
  obtain ⟨mo_9, emo_9⟩ : ∃ y : Mem, y = upm mo_7 14 p1.toNatClampNeg (vp_nar .boolean 1) := ⟨_, rfl⟩
  have hp := stk_e hp emo_9
  refine r_zst hx hb hK hP hD hS (wn := (w_Mo cy qmo mo_9)) 6 rfl hi_8 (by subst emo_9; rfl) dX12_grounds_20 (fun H locs hP hD hS => ?_)
  simp only [Option.some.injEq, Prod.mk.injEq] at hp
  subst hp
  exact e_RV hx hb hr hk hP hD hS dX12_grounds_21
/-! StormSlotsModel.turns()V -/
def Mo_turns_b77 (k48 : Mem → Int32 → Int32 → Option (Mem)) (mo : Mem) (x1 : Int32) (x2 : Int32) : Option (Mem) :=
  stk ((x2 + 1) - (x2 + 1) / 5 * 5) (fun x2_18 => k48 mo x1 x2_18)
def Mo_turns_b48B (k48 : Mem → Int32 → Int32 → Option (Mem)) (mo : Mem) (x1 : Int32) (x2 : Int32) : Option (Mem) :=
  if x1 ≤ 0 then some mo else bn1 (Mo_firstOf mo 1 0 x2) (fun r_13 => if r_13 = (-1) then Mo_turns_b77 k48 mo x1 x2 else bn1 (Mo_grounds mo r_13) (fun mo_16 => stk (x1 - 1) (fun x1_17 => Mo_turns_b77 k48 mo_16 x1_17 x2)))
def Mo_turns_b48 : Nat → Mem → Int32 → Int32 → Option (Mem)
  | 0 => fun _ _ _ => none
  | n + 1 => Mo_turns_b48B  (Mo_turns_b48  n)
def Mo_turns_b11B (k11 : Mem → Int32 → Int32 → Option (Mem)) (mo : Mem) (x1 : Int32) (x2 : Int32) : Option (Mem) :=
  ckI 173 1452 (if (mo 0 (173 : Int32).toNatClampNeg) ≤ x2 then Mo_turns_b48 fl mo x1 0 else ckI x2 20 (if (mo 14 x2.toNatClampNeg) = 0 then stk (x1 - 0) (fun x1_7 => stk (x2 + 1) (fun x2_8 => k11 mo x1_7 x2_8)) else stk (x1 - 1) (fun x1_9 => stk (x2 + 1) (fun x2_10 => k11 mo x1_9 x2_10))))
def Mo_turns_b11 : Nat → Mem → Int32 → Int32 → Option (Mem)
  | 0 => fun _ _ _ => none
  | n + 1 => Mo_turns_b11B  (Mo_turns_b11  n)
def Mo_turns (mo : Mem) : Option (Mem) :=
  ckI 173 1452 (stk (mo 0 (173 : Int32).toNatClampNeg) (fun x1_2 => Mo_turns_b11 fl mo x1_2 0))
set_option maxHeartbeats 4000000 in
set_option maxRecDepth 100000 in
theorem Mo_turns_b77_w (C0 : cX RX12 cX12_turns none 4 p s m args meth c) (hK : kN D cy s) {qmo : Nat → Nat} {mo' : Mem} (hA : ∀ q, s.heap.size ≤ q → A q) {k48 : Mem → Int32 → Int32 → Option (Mem)} (hk48 : ∀ (mo : Mem) (x1 x2 : Int32) (H : Heap) (locs : List Loc) (ls : Array Slot), va_P D vwCl (w_Mo cy qmo mo) H → va_D A (w_Mo cy qmo mo) → va_S A s.heap H locs → lv_has ls 4 [(0, .ref (qmo 0)), (1, .int x1), (2, .int x2)] → k48 mo x1 x2 = some mo' → W p l e (rmD 4) s m args below meth c H locs 0 0 (qRV D below args s A (w_Mo cy qmo mo')) (F0 m 48 ls [])) {mo : Mem} {x1 : Int32} {x2 : Int32} {H : Heap} {locs : List Loc} (hP : va_P D vwCl (w_Mo cy qmo mo) H) (hD : va_D A (w_Mo cy qmo mo)) (hS : va_S A s.heap H locs) {ls : Array Slot} (hl : lv_has ls 4 [(0, .ref (qmo 0)), (1, .int x1), (2, .int x2)]) (hp : Mo_turns_b77 k48 mo x1 x2 = some mo') : W p l e (rmD 4) s m args below meth c H locs 0 0 (qRV D below args s A (w_Mo cy qmo mo')) (F0 m 77 ls []) := by
  obtain ⟨hx, hb, hr, hml, hown, hts, hk⟩ := id C0
  unfold Mo_turns_b77 at hp
  refine lv_iload_n hx hb dX12_turns_77 rfl (lv_at hl 2 rfl) ?_
  refine lv_iconst (v := 1) hx hb dX12_turns_78 (by decide) ?_
  refine lv_iadd hx hb dX12_turns_79 ?_
  refine lv_iconst (v := 5) hx hb dX12_turns_80 (by decide) ?_
  refine lv_irem hx hb dX12_turns_81 (by decide) ?_
  refine lv_topi (fun x2_18 ex2_18 => ?_)
  have hp := stk_e hp ex2_18
  refine lv_istore_n (lv' := [(2, .int x2_18), (0, .ref (qmo 0)), (1, .int x1)]) hx hb dX12_turns_82 rfl hl (by decide) rfl (fun ls hl => ?_)
  refine lv_goto (tgt := 48) hx hb dX12_turns_83 (by decide) ?_
  exact hk48 mo x1 x2_18 _ _ _ hP hD hS (lv_sub hl [1, 2, 0] rfl) hp
set_option maxHeartbeats 4000000 in
set_option maxRecDepth 100000 in
theorem Mo_turns_b48B_w (C0 : cX RX12 cX12_turns none 4 p s m args meth c) (hK : kN D cy s) {qmo : Nat → Nat} {mo' : Mem} (hA : ∀ q, s.heap.size ≤ q → A q) {k48 : Mem → Int32 → Int32 → Option (Mem)} (hk48 : ∀ (mo : Mem) (x1 x2 : Int32) (H : Heap) (locs : List Loc) (ls : Array Slot), va_P D vwCl (w_Mo cy qmo mo) H → va_D A (w_Mo cy qmo mo) → va_S A s.heap H locs → lv_has ls 4 [(0, .ref (qmo 0)), (1, .int x1), (2, .int x2)] → k48 mo x1 x2 = some mo' → W p l e (rmD 4) s m args below meth c H locs 0 0 (qRV D below args s A (w_Mo cy qmo mo')) (F0 m 48 ls [])) {mo : Mem} {x1 : Int32} {x2 : Int32} {H : Heap} {locs : List Loc} (hP : va_P D vwCl (w_Mo cy qmo mo) H) (hD : va_D A (w_Mo cy qmo mo)) (hS : va_S A s.heap H locs) {ls : Array Slot} (hl : lv_has ls 4 [(0, .ref (qmo 0)), (1, .int x1), (2, .int x2)]) (hp : Mo_turns_b48B k48 mo x1 x2 = some mo') : W p l e (rmD 4) s m args below meth c H locs 0 0 (qRV D below args s A (w_Mo cy qmo mo')) (F0 m 48 ls []) := by
  obtain ⟨hx, hb, hr, hml, hown, hts, hk⟩ := id C0
  unfold Mo_turns_b48B at hp
  refine lv_iload_n hx hb dX12_turns_48 rfl (lv_at hl 1 rfl) ?_
  refine lv_if_le (tgt := 86) hx hb dX12_turns_49 (by decide) (fun c_11 => ?_) (fun c_11 => ?_)
  · have hp := ite_p hp c_11
    simp only [Option.some.injEq, Prod.mk.injEq] at hp
    subst hp
    exact e_RV hx hb hr hk hP hD hS dX12_turns_86
  · have hp := ite_n hp c_11
    refine lv_aload_n hx hb dX12_turns_52 rfl (lv_at hl 0 rfl) ?_
    refine lv_iconst (v := 1) hx hb dX12_turns_53 (by decide) ?_
    refine lv_iconst (v := 0) hx hb dX12_turns_54 (by decide) ?_
    refine lv_iload_n hx hb dX12_turns_55 rfl (lv_at hl 2 rfl) ?_
    obtain ⟨r_13, hc_12, hp⟩ := bn1_s hp
    refine k_ROV (As := [.int 1, .int 0, .int x2]) (rest := []) ⟨hx, hb, hml, hown, hts⟩ hK hP (cw_X12_178 hts ⟨Nat.le_of_ble_eq_true rfl, Nat.le_of_ble_eq_true rfl⟩) 0 (ci := 12) rfl rfl rfl (c_X12_firstOf l D cy qmo mo 1 0 x2 r_13 hc_12) rfl hl.1 (Nat.le_of_ble_eq_true rfl) ⟨Nat.le_refl _, Nat.le_refl _⟩ dX12_turns_56 ?_
    refine lv_istore_n (lv' := [(3, .int r_13), (0, .ref (qmo 0)), (1, .int x1), (2, .int x2)]) hx hb dX12_turns_59 rfl hl (by decide) rfl (fun ls hl => ?_)
    refine lv_iload_n hx hb dX12_turns_60 rfl (lv_at hl 0 rfl) ?_
    refine lv_iconst (v := (-1)) hx hb dX12_turns_61 (by decide) ?_
    refine lv_icmp_ne (tgt := 68) hx hb dX12_turns_62 (by decide) (fun c_14 => ?_) (fun c_14 => ?_)
    · have hp := ite_n hp c_14
      refine lv_aload_n hx hb dX12_turns_68 rfl (lv_at hl 1 rfl) ?_
      refine lv_iload_n hx hb dX12_turns_69 rfl (lv_at hl 0 rfl) ?_
      obtain ⟨mo_16, hc_15, hp⟩ := bn1_s hp
      refine k_RVV (As := [.int r_13]) (rest := []) ⟨hx, hb, hml, hown, hts⟩ hK hP hD hS hA FrS_rf (cw_X12_182 hts ⟨Nat.le_of_ble_eq_true rfl, Nat.le_of_ble_eq_true rfl⟩) 0 (ci := 12) rfl rfl rfl (c_X12_grounds l D cy qmo mo r_13 mo_16 hc_15) rfl hl.1 (Nat.le_of_ble_eq_true rfl) ⟨Nat.le_refl _, Nat.le_refl _⟩ dX12_turns_70 (fun H locs hP hD hS => ?_)
      refine lv_iload_n hx hb dX12_turns_73 rfl (lv_at hl 2 rfl) ?_
      refine lv_iconst (v := 1) hx hb dX12_turns_74 (by decide) ?_
      refine lv_isub hx hb dX12_turns_75 ?_
      refine lv_topi (fun x1_17 ex1_17 => ?_)
      have hp := stk_e hp ex1_17
      refine lv_istore_n (lv' := [(1, .int x1_17), (3, .int r_13), (0, .ref (qmo 0)), (2, .int x2)]) hx hb dX12_turns_76 rfl hl (by decide) rfl (fun ls hl => ?_)
      exact Mo_turns_b77_w C0 hK hA hk48 hP hD hS (lv_sub hl [2, 0, 3] rfl) hp
    · have hp := ite_p hp c_14
      refine lv_goto (tgt := 77) hx hb dX12_turns_65 (by decide) ?_
      exact Mo_turns_b77_w C0 hK hA hk48 hP hD hS (lv_sub hl [1, 2, 3] rfl) hp
theorem Mo_turns_b48_w (C0 : cX RX12 cX12_turns none 4 p s m args meth c) (hK : kN D cy s) {qmo : Nat → Nat} {mo' : Mem} (hA : ∀ q, s.heap.size ≤ q → A q) : ∀ (n : Nat) (mo : Mem) (x1 x2 : Int32) (H : Heap) (locs : List Loc) (ls : Array Slot), va_P D vwCl (w_Mo cy qmo mo) H → va_D A (w_Mo cy qmo mo) → va_S A s.heap H locs → lv_has ls 4 [(0, .ref (qmo 0)), (1, .int x1), (2, .int x2)] → Mo_turns_b48  n mo x1 x2 = some mo' → W p l e (rmD 4) s m args below meth c H locs 0 0 (qRV D below args s A (w_Mo cy qmo mo')) (F0 m 48 ls []) := by
  intro n
  induction n with
  | zero =>
    intro mo x1 x2 H locs ls hP hD hS hl hp
    cases hp
  | succ n ih =>
    intro mo x1 x2 H locs ls hP hD hS hl hp
    exact Mo_turns_b48B_w C0 hK hA  (fun mo x1 x2 H locs ls hP hD hS hl hp => ih mo x1 x2 H locs ls hP hD hS hl hp) hP hD hS hl hp
set_option maxHeartbeats 4000000 in
set_option maxRecDepth 100000 in
theorem Mo_turns_b11B_w (C0 : cX RX12 cX12_turns none 4 p s m args meth c) (hK : kN D cy s) {qmo : Nat → Nat} {mo' : Mem} (hA : ∀ q, s.heap.size ≤ q → A q) {k11 : Mem → Int32 → Int32 → Option (Mem)} (hk11 : ∀ (mo : Mem) (x1 x2 : Int32) (H : Heap) (locs : List Loc) (ls : Array Slot), va_P D vwCl (w_Mo cy qmo mo) H → va_D A (w_Mo cy qmo mo) → va_S A s.heap H locs → lv_has ls 4 [(0, .ref (qmo 0)), (1, .int x1), (2, .int x2)] → k11 mo x1 x2 = some mo' → W p l e (rmD 4) s m args below meth c H locs 0 0 (qRV D below args s A (w_Mo cy qmo mo')) (F0 m 11 ls [])) {mo : Mem} {x1 : Int32} {x2 : Int32} {H : Heap} {locs : List Loc} (hP : va_P D vwCl (w_Mo cy qmo mo) H) (hD : va_D A (w_Mo cy qmo mo)) (hS : va_S A s.heap H locs) {ls : Array Slot} (hl : lv_has ls 4 [(0, .ref (qmo 0)), (1, .int x1), (2, .int x2)]) (hp : Mo_turns_b11B k11 mo x1 x2 = some mo') : W p l e (rmD 4) s m args below meth c H locs 0 0 (qRV D below args s A (w_Mo cy qmo mo')) (F0 m 11 ls []) := by
  obtain ⟨hx, hb, hr, hml, hown, hts, hk⟩ := id C0
  unfold Mo_turns_b11B at hp
  refine lv_iload_n hx hb dX12_turns_11 rfl (lv_at hl 2 rfl) ?_
  refine lv_aload_n hx hb dX12_turns_12 rfl (lv_at hl 0 rfl) ?_
  refine gf_X12_7 hx hb hts hown hK hP 0 rfl rfl dX12_turns_13 ?_
  refine lv_sipush (v := 173) hx hb dX12_turns_16 (by decide) ?_
  obtain ⟨hi_3, hp⟩ := ckI_s hp
  refine r_ild hx hb hK hP 1 rfl hi_3 dX12_turns_19 ?_
  refine lv_icmp_ge (tgt := 46) hx hb dX12_turns_20 (by decide) (fun c_4 => ?_) (fun c_4 => ?_)
  · have hp := ite_p hp c_4
    refine lv_iconst (v := 0) hx hb dX12_turns_46 (by decide) ?_
    refine lv_istore_n (lv' := [(2, .int 0), (0, .ref (qmo 0)), (1, .int x1)]) hx hb dX12_turns_47 rfl hl (by decide) rfl (fun ls hl => ?_)
    exact Mo_turns_b48_w C0 hK hA  fl mo x1 0 _ _ _ hP hD hS (lv_sub hl [1, 2, 0] rfl) hp
  · have hp := ite_n hp c_4
    refine lv_iload_n hx hb dX12_turns_23 rfl (lv_at hl 1 rfl) ?_
    refine lv_aload_n hx hb dX12_turns_24 rfl (lv_at hl 0 rfl) ?_
    refine gf_X12_27 hx hb hts hown hK hP 0 rfl rfl dX12_turns_25 ?_
    refine lv_iload_n hx hb dX12_turns_28 rfl (lv_at hl 2 rfl) ?_
    obtain ⟨hi_5, hp⟩ := ckI_s hp
    refine r_zld hx hb hK hP 6 rfl hi_5 dX12_turns_29 ?_
    refine lv_if_eq (tgt := 37) hx hb dX12_turns_30 (by decide) (fun c_6 => ?_) (fun c_6 => ?_)
    · have hp := ite_p hp c_6
      refine lv_iconst (v := 0) hx hb dX12_turns_37 (by decide) ?_
      refine lv_isub hx hb dX12_turns_38 ?_
      refine lv_topi (fun x1_7 ex1_7 => ?_)
      have hp := stk_e hp ex1_7
      refine lv_istore_n (lv' := [(1, .int x1_7), (0, .ref (qmo 0)), (2, .int x2)]) hx hb dX12_turns_39 rfl hl (by decide) rfl (fun ls hl => ?_)
      obtain ⟨x2_8, ex2_8⟩ : ∃ y : Int32, y = x2 + 1 := ⟨_, rfl⟩
      have hp := stk_e hp ex2_8
      refine lv_iinc (v := x2_8) (lv' := [(2, .int x2_8), (1, .int x1_7), (0, .ref (qmo 0))]) hx hb dX12_turns_40 hl (k := 2) rfl (by rw [ex2_8]; rfl) (by decide) rfl (fun ls hl => ?_)
      refine lv_goto (tgt := 11) hx hb dX12_turns_43 (by decide) ?_
      exact hk11 mo x1_7 x2_8 _ _ _ hP hD hS (lv_sub hl [2, 1, 0] rfl) hp
    · have hp := ite_n hp c_6
      refine lv_iconst (v := 1) hx hb dX12_turns_33 (by decide) ?_
      refine lv_goto (tgt := 38) hx hb dX12_turns_34 (by decide) ?_
      refine lv_isub hx hb dX12_turns_38 ?_
      refine lv_topi (fun x1_9 ex1_9 => ?_)
      have hp := stk_e hp ex1_9
      refine lv_istore_n (lv' := [(1, .int x1_9), (0, .ref (qmo 0)), (2, .int x2)]) hx hb dX12_turns_39 rfl hl (by decide) rfl (fun ls hl => ?_)
      obtain ⟨x2_10, ex2_10⟩ : ∃ y : Int32, y = x2 + 1 := ⟨_, rfl⟩
      have hp := stk_e hp ex2_10
      refine lv_iinc (v := x2_10) (lv' := [(2, .int x2_10), (1, .int x1_9), (0, .ref (qmo 0))]) hx hb dX12_turns_40 hl (k := 2) rfl (by rw [ex2_10]; rfl) (by decide) rfl (fun ls hl => ?_)
      refine lv_goto (tgt := 11) hx hb dX12_turns_43 (by decide) ?_
      exact hk11 mo x1_9 x2_10 _ _ _ hP hD hS (lv_sub hl [2, 1, 0] rfl) hp
theorem Mo_turns_b11_w (C0 : cX RX12 cX12_turns none 4 p s m args meth c) (hK : kN D cy s) {qmo : Nat → Nat} {mo' : Mem} (hA : ∀ q, s.heap.size ≤ q → A q) : ∀ (n : Nat) (mo : Mem) (x1 x2 : Int32) (H : Heap) (locs : List Loc) (ls : Array Slot), va_P D vwCl (w_Mo cy qmo mo) H → va_D A (w_Mo cy qmo mo) → va_S A s.heap H locs → lv_has ls 4 [(0, .ref (qmo 0)), (1, .int x1), (2, .int x2)] → Mo_turns_b11  n mo x1 x2 = some mo' → W p l e (rmD 4) s m args below meth c H locs 0 0 (qRV D below args s A (w_Mo cy qmo mo')) (F0 m 11 ls []) := by
  intro n
  induction n with
  | zero =>
    intro mo x1 x2 H locs ls hP hD hS hl hp
    cases hp
  | succ n ih =>
    intro mo x1 x2 H locs ls hP hD hS hl hp
    exact Mo_turns_b11B_w C0 hK hA  (fun mo x1 x2 H locs ls hP hD hS hl hp => ih mo x1 x2 H locs ls hP hD hS hl hp) hP hD hS hl hp
set_option maxHeartbeats 4000000 in
set_option maxRecDepth 100000 in
theorem c_X12_turns (l : Launch) (D : va_G) (cy : Nat → ClassId) (qmo : Nat → Nat) (mo : Mem) (mo' : Mem) (hp : Mo_turns mo = some mo') : RV l yX12_turns cX12_turns 4 4 D cy [.ref (qmo 0)] (w_Mo cy qmo mo) (w_Mo cy qmo mo') := by
  refine RV_of RX12 rfl (by decide) (Nat.le_of_ble_eq_true rfl) ?_
  intro p e s m below meth c A C0 hK hP hD hS hA ls hl
  obtain ⟨hx, hb, hr, hml, hown, hts, hk⟩ := id C0
  unfold Mo_turns at hp
  have hl : lv_has ls 4 [(0, .ref (qmo 0))] := hl
  refine lv_aload_n hx hb dX12_turns_0 rfl (lv_at hl 0 rfl) ?_
  refine gf_X12_7 hx hb hts hown hK hP 0 rfl rfl dX12_turns_1 ?_
  refine lv_sipush (v := 173) hx hb dX12_turns_4 (by decide) ?_
  obtain ⟨hi_1, hp⟩ := ckI_s hp
  refine r_ild hx hb hK hP 1 rfl hi_1 dX12_turns_7 ?_
  refine lv_topi (fun x1_2 ex1_2 => ?_)
  have hp := stk_e hp ex1_2
  refine lv_istore_n (lv' := [(1, .int x1_2), (0, .ref (qmo 0))]) hx hb dX12_turns_8 rfl hl (by decide) rfl (fun ls hl => ?_)
  refine lv_iconst (v := 0) hx hb dX12_turns_9 (by decide) ?_
  refine lv_istore_n (lv' := [(2, .int 0), (1, .int x1_2), (0, .ref (qmo 0))]) hx hb dX12_turns_10 rfl hl (by decide) rfl (fun ls hl => ?_)
  exact Mo_turns_b11_w C0 hK hA  fl mo x1_2 0 _ _ _ hP hD hS (lv_sub hl [2, 1, 0] rfl) hp
/-! StormSlotsModel.plansBy(I)V -/
def Mo_plansBy_b120B (p1 : Int32) (k120 : Mem → Int32 → Option (Mem)) (mo : Mem) (x2 : Int32) : Option (Mem) :=
  if x2 = (-1) then bn1 (Mo_clearsPlan mo) (fun mo_35 => ckI 174 1452 (stk (upm mo_35 0 (174 : Int32).toNatClampNeg 1) (fun mo_37 => some mo_37))) else bn1 (Mo_grounds mo x2) (fun mo_39 => bn1 (Mo_firstOf mo_39 1 p1 (-1)) (fun r_41 => k120 mo_39 r_41))
def Mo_plansBy_b120 (p1 : Int32) : Nat → Mem → Int32 → Option (Mem)
  | 0 => fun _ _ => none
  | n + 1 => Mo_plansBy_b120B p1 (Mo_plansBy_b120 p1 n)
def Mo_plansBy_b112 (p1 : Int32) (mo : Mem) : Option (Mem) :=
  bn1 (Mo_firstOf mo 1 p1 (-1)) (fun r_32 => Mo_plansBy_b120 p1 fl mo r_32)
def Mo_plansBy_b40B (p1 : Int32) (k40 : Mem → Int32 → Option (Mem)) (mo : Mem) (x2 : Int32) : Option (Mem) :=
  if x2 = (-1) then if p1 = 2 then bn1 (Mo_turns mo) (fun mo_13 => Mo_plansBy_b112 p1 mo_13) else Mo_plansBy_b112 p1 mo else bn1 (Mo_of mo x2 1) (fun r_15 => bn2 (Mo_takesFrom mo r_15) (fun r_17 mo_18 => bn1 (Mo_sets mo_18 x2 4 r_17) (fun mo_20 => bn1 (Mo_sets mo_20 x2 5 0) (fun mo_22 => bn1 (Mo_of mo_22 x2 1) (fun r_24 => bn1 (Mo_sets mo_22 x2 6 (r_17 - r_24)) (fun mo_26 => ckI x2 20 (stk (upm mo_26 14 x2.toNatClampNeg (vp_nar .boolean 1)) (fun mo_28 => bn1 (Mo_firstOf mo_28 0 0 (-1)) (fun r_30 => k40 mo_28 r_30)))))))))
def Mo_plansBy_b40 (p1 : Int32) : Nat → Mem → Int32 → Option (Mem)
  | 0 => fun _ _ => none
  | n + 1 => Mo_plansBy_b40B p1 (Mo_plansBy_b40 p1 n)
def Mo_plansBy_b6B (p1 : Int32) (k6 : Mem → Int32 → Option (Mem)) (mo : Mem) (x2 : Int32) : Option (Mem) :=
  ckI 173 1452 (if (mo 0 (173 : Int32).toNatClampNeg) ≤ x2 then bn1 (Mo_firstOf mo 0 0 (-1)) (fun r_6 => Mo_plansBy_b40 p1 fl mo r_6) else bn1 (Mo_sets mo x2 7 0) (fun mo_8 => stk (x2 + 1) (fun x2_9 => k6 mo_8 x2_9)))
def Mo_plansBy_b6 (p1 : Int32) : Nat → Mem → Int32 → Option (Mem)
  | 0 => fun _ _ => none
  | n + 1 => Mo_plansBy_b6B p1 (Mo_plansBy_b6 p1 n)
def Mo_plansBy (mo : Mem) (p1 : Int32) : Option (Mem) :=
  bn1 (Mo_beginsPlan mo) (fun mo_2 => Mo_plansBy_b6 p1 fl mo_2 0)
set_option maxHeartbeats 4000000 in
set_option maxRecDepth 100000 in
theorem Mo_plansBy_b120B_w (C0 : cX RX12 cX12_plansBy none 4 p s m args meth c) (hK : kN D cy s) {qmo : Nat → Nat} {p1 : Int32} {mo' : Mem} (hA : ∀ q, s.heap.size ≤ q → A q) {k120 : Mem → Int32 → Option (Mem)} (hk120 : ∀ (mo : Mem) (x2 : Int32) (H : Heap) (locs : List Loc) (ls : Array Slot), va_P D vwCl (w_Mo cy qmo mo) H → va_D A (w_Mo cy qmo mo) → va_S A s.heap H locs → lv_has ls 4 [(0, .ref (qmo 0)), (1, .int p1), (2, .int x2)] → k120 mo x2 = some mo' → W p l e (rmD 5) s m args below meth c H locs 0 0 (qRV D below args s A (w_Mo cy qmo mo')) (F0 m 120 ls [])) {mo : Mem} {x2 : Int32} {H : Heap} {locs : List Loc} (hP : va_P D vwCl (w_Mo cy qmo mo) H) (hD : va_D A (w_Mo cy qmo mo)) (hS : va_S A s.heap H locs) {ls : Array Slot} (hl : lv_has ls 4 [(0, .ref (qmo 0)), (1, .int p1), (2, .int x2)]) (hp : Mo_plansBy_b120B p1 k120 mo x2 = some mo') : W p l e (rmD 5) s m args below meth c H locs 0 0 (qRV D below args s A (w_Mo cy qmo mo')) (F0 m 120 ls []) := by
  obtain ⟨hx, hb, hr, hml, hown, hts, hk⟩ := id C0
  unfold Mo_plansBy_b120B at hp
  refine lv_iload_n hx hb dX12_plansBy_120 rfl (lv_at hl 2 rfl) ?_
  refine lv_iconst (v := (-1)) hx hb dX12_plansBy_121 (by decide) ?_
  refine lv_icmp_eq (tgt := 141) hx hb dX12_plansBy_122 (by decide) (fun c_33 => ?_) (fun c_33 => ?_)
  · have hp := ite_p hp c_33
    refine lv_aload_n hx hb dX12_plansBy_141 rfl (lv_at hl 0 rfl) ?_
    obtain ⟨mo_35, hc_34, hp⟩ := bn1_s hp
    refine k_RVV (As := []) (rest := []) ⟨hx, hb, hml, hown, hts⟩ hK hP hD hS hA FrS_rf (cw_X12_87 hts ⟨Nat.le_of_ble_eq_true rfl, Nat.le_of_ble_eq_true rfl⟩) 0 (ci := 12) rfl rfl rfl (c_X12_clearsPlan l D cy qmo mo mo_35 hc_34) rfl hl.1 (Nat.le_of_ble_eq_true rfl) ⟨Nat.le_refl _, Nat.le_refl _⟩ dX12_plansBy_142 (fun H locs hP hD hS => ?_)
    refine lv_aload_n hx hb dX12_plansBy_145 rfl (lv_at hl 0 rfl) ?_
    refine gf_X12_7 hx hb hts hown hK hP 0 rfl rfl dX12_plansBy_146 ?_
    refine lv_sipush (v := 174) hx hb dX12_plansBy_149 (by decide) ?_
    refine lv_iconst (v := 1) hx hb dX12_plansBy_152 (by decide) ?_
    obtain ⟨hi_36, hp⟩ := ckI_s hp
    obtain ⟨mo_37, emo_37⟩ : ∃ y : Mem, y = upm mo_35 0 (174 : Int32).toNatClampNeg 1 := ⟨_, rfl⟩
    have hp := stk_e hp emo_37
    refine r_ist hx hb hK hP hD hS (wn := (w_Mo cy qmo mo_37)) 1 rfl hi_36 (by subst emo_37; rfl) dX12_plansBy_153 (fun H locs hP hD hS => ?_)
    simp only [Option.some.injEq, Prod.mk.injEq] at hp
    subst hp
    exact e_RV hx hb hr hk hP hD hS dX12_plansBy_154
  · have hp := ite_n hp c_33
    refine lv_aload_n hx hb dX12_plansBy_125 rfl (lv_at hl 0 rfl) ?_
    refine lv_iload_n hx hb dX12_plansBy_126 rfl (lv_at hl 2 rfl) ?_
    obtain ⟨mo_39, hc_38, hp⟩ := bn1_s hp
    refine k_RVV (As := [.int x2]) (rest := []) ⟨hx, hb, hml, hown, hts⟩ hK hP hD hS hA FrS_rf (cw_X12_182 hts ⟨Nat.le_of_ble_eq_true rfl, Nat.le_of_ble_eq_true rfl⟩) 0 (ci := 12) rfl rfl rfl (c_X12_grounds l D cy qmo mo x2 mo_39 hc_38) rfl hl.1 (Nat.le_of_ble_eq_true rfl) ⟨Nat.le_refl _, Nat.le_refl _⟩ dX12_plansBy_127 (fun H locs hP hD hS => ?_)
    refine lv_aload_n hx hb dX12_plansBy_130 rfl (lv_at hl 0 rfl) ?_
    refine lv_iconst (v := 1) hx hb dX12_plansBy_131 (by decide) ?_
    refine lv_iload_n hx hb dX12_plansBy_132 rfl (lv_at hl 1 rfl) ?_
    refine lv_iconst (v := (-1)) hx hb dX12_plansBy_133 (by decide) ?_
    obtain ⟨r_41, hc_40, hp⟩ := bn1_s hp
    refine k_ROV (As := [.int 1, .int p1, .int (-1)]) (rest := []) ⟨hx, hb, hml, hown, hts⟩ hK hP (cw_X12_178 hts ⟨Nat.le_of_ble_eq_true rfl, Nat.le_of_ble_eq_true rfl⟩) 0 (ci := 12) rfl rfl rfl (c_X12_firstOf l D cy qmo mo_39 1 p1 (-1) r_41 hc_40) rfl hl.1 (Nat.le_of_ble_eq_true rfl) ⟨Nat.le_refl _, Nat.le_refl _⟩ dX12_plansBy_134 ?_
    refine lv_istore_n (lv' := [(2, .int r_41), (0, .ref (qmo 0)), (1, .int p1)]) hx hb dX12_plansBy_137 rfl hl (by decide) rfl (fun ls hl => ?_)
    refine lv_goto (tgt := 120) hx hb dX12_plansBy_138 (by decide) ?_
    exact hk120 mo_39 r_41 _ _ _ hP hD hS (lv_sub hl [1, 2, 0] rfl) hp
theorem Mo_plansBy_b120_w (C0 : cX RX12 cX12_plansBy none 4 p s m args meth c) (hK : kN D cy s) {qmo : Nat → Nat} {p1 : Int32} {mo' : Mem} (hA : ∀ q, s.heap.size ≤ q → A q) : ∀ (n : Nat) (mo : Mem) (x2 : Int32) (H : Heap) (locs : List Loc) (ls : Array Slot), va_P D vwCl (w_Mo cy qmo mo) H → va_D A (w_Mo cy qmo mo) → va_S A s.heap H locs → lv_has ls 4 [(0, .ref (qmo 0)), (1, .int p1), (2, .int x2)] → Mo_plansBy_b120 p1 n mo x2 = some mo' → W p l e (rmD 5) s m args below meth c H locs 0 0 (qRV D below args s A (w_Mo cy qmo mo')) (F0 m 120 ls []) := by
  intro n
  induction n with
  | zero =>
    intro mo x2 H locs ls hP hD hS hl hp
    cases hp
  | succ n ih =>
    intro mo x2 H locs ls hP hD hS hl hp
    exact Mo_plansBy_b120B_w C0 hK hA  (fun mo x2 H locs ls hP hD hS hl hp => ih mo x2 H locs ls hP hD hS hl hp) hP hD hS hl hp
set_option maxHeartbeats 4000000 in
set_option maxRecDepth 100000 in
theorem Mo_plansBy_b112_w (C0 : cX RX12 cX12_plansBy none 4 p s m args meth c) (hK : kN D cy s) {qmo : Nat → Nat} {p1 : Int32} {mo' : Mem} (hA : ∀ q, s.heap.size ≤ q → A q) {mo : Mem} {H : Heap} {locs : List Loc} (hP : va_P D vwCl (w_Mo cy qmo mo) H) (hD : va_D A (w_Mo cy qmo mo)) (hS : va_S A s.heap H locs) {ls : Array Slot} (hl : lv_has ls 4 [(0, .ref (qmo 0)), (1, .int p1)]) (hp : Mo_plansBy_b112 p1 mo = some mo') : W p l e (rmD 5) s m args below meth c H locs 0 0 (qRV D below args s A (w_Mo cy qmo mo')) (F0 m 112 ls []) := by
  obtain ⟨hx, hb, hr, hml, hown, hts, hk⟩ := id C0
  unfold Mo_plansBy_b112 at hp
  refine lv_aload_n hx hb dX12_plansBy_112 rfl (lv_at hl 0 rfl) ?_
  refine lv_iconst (v := 1) hx hb dX12_plansBy_113 (by decide) ?_
  refine lv_iload_n hx hb dX12_plansBy_114 rfl (lv_at hl 1 rfl) ?_
  refine lv_iconst (v := (-1)) hx hb dX12_plansBy_115 (by decide) ?_
  obtain ⟨r_32, hc_31, hp⟩ := bn1_s hp
  refine k_ROV (As := [.int 1, .int p1, .int (-1)]) (rest := []) ⟨hx, hb, hml, hown, hts⟩ hK hP (cw_X12_178 hts ⟨Nat.le_of_ble_eq_true rfl, Nat.le_of_ble_eq_true rfl⟩) 0 (ci := 12) rfl rfl rfl (c_X12_firstOf l D cy qmo mo 1 p1 (-1) r_32 hc_31) rfl hl.1 (Nat.le_of_ble_eq_true rfl) ⟨Nat.le_refl _, Nat.le_refl _⟩ dX12_plansBy_116 ?_
  refine lv_istore_n (lv' := [(2, .int r_32), (0, .ref (qmo 0)), (1, .int p1)]) hx hb dX12_plansBy_119 rfl hl (by decide) rfl (fun ls hl => ?_)
  exact Mo_plansBy_b120_w C0 hK hA  fl mo r_32 _ _ _ hP hD hS (lv_sub hl [1, 2, 0] rfl) hp
set_option maxHeartbeats 4000000 in
set_option maxRecDepth 100000 in
theorem Mo_plansBy_b40B_w (C0 : cX RX12 cX12_plansBy none 4 p s m args meth c) (hK : kN D cy s) {qmo : Nat → Nat} {p1 : Int32} {mo' : Mem} (hA : ∀ q, s.heap.size ≤ q → A q) {k40 : Mem → Int32 → Option (Mem)} (hk40 : ∀ (mo : Mem) (x2 : Int32) (H : Heap) (locs : List Loc) (ls : Array Slot), va_P D vwCl (w_Mo cy qmo mo) H → va_D A (w_Mo cy qmo mo) → va_S A s.heap H locs → lv_has ls 4 [(0, .ref (qmo 0)), (1, .int p1), (2, .int x2)] → k40 mo x2 = some mo' → W p l e (rmD 5) s m args below meth c H locs 0 0 (qRV D below args s A (w_Mo cy qmo mo')) (F0 m 40 ls [])) {mo : Mem} {x2 : Int32} {H : Heap} {locs : List Loc} (hP : va_P D vwCl (w_Mo cy qmo mo) H) (hD : va_D A (w_Mo cy qmo mo)) (hS : va_S A s.heap H locs) {ls : Array Slot} (hl : lv_has ls 4 [(0, .ref (qmo 0)), (1, .int p1), (2, .int x2)]) (hp : Mo_plansBy_b40B p1 k40 mo x2 = some mo') : W p l e (rmD 5) s m args below meth c H locs 0 0 (qRV D below args s A (w_Mo cy qmo mo')) (F0 m 40 ls []) := by
  obtain ⟨hx, hb, hr, hml, hown, hts, hk⟩ := id C0
  unfold Mo_plansBy_b40B at hp
  refine lv_iload_n hx hb dX12_plansBy_40 rfl (lv_at hl 2 rfl) ?_
  refine lv_iconst (v := (-1)) hx hb dX12_plansBy_41 (by decide) ?_
  refine lv_icmp_eq (tgt := 103) hx hb dX12_plansBy_42 (by decide) (fun c_10 => ?_) (fun c_10 => ?_)
  · have hp := ite_p hp c_10
    refine lv_iload_n hx hb dX12_plansBy_103 rfl (lv_at hl 1 rfl) ?_
    refine lv_iconst (v := 2) hx hb dX12_plansBy_104 (by decide) ?_
    refine lv_icmp_ne (tgt := 112) hx hb dX12_plansBy_105 (by decide) (fun c_11 => ?_) (fun c_11 => ?_)
    · have hp := ite_n hp c_11
      exact Mo_plansBy_b112_w C0 hK hA  hP hD hS (lv_sub hl [0, 1] rfl) hp
    · have hp := ite_p hp c_11
      refine lv_aload_n hx hb dX12_plansBy_108 rfl (lv_at hl 0 rfl) ?_
      obtain ⟨mo_13, hc_12, hp⟩ := bn1_s hp
      refine k_RVV (As := []) (rest := []) ⟨hx, hb, hml, hown, hts⟩ hK hP hD hS hA FrS_rf (cw_X12_188 hts ⟨Nat.le_of_ble_eq_true rfl, Nat.le_of_ble_eq_true rfl⟩) 0 (ci := 12) rfl rfl rfl (c_X12_turns l D cy qmo mo mo_13 hc_12) rfl hl.1 (Nat.le_of_ble_eq_true rfl) ⟨Nat.le_refl _, Nat.le_refl _⟩ dX12_plansBy_109 (fun H locs hP hD hS => ?_)
      exact Mo_plansBy_b112_w C0 hK hA  hP hD hS (lv_sub hl [0, 1] rfl) hp
  · have hp := ite_n hp c_10
    refine lv_aload_n hx hb dX12_plansBy_45 rfl (lv_at hl 0 rfl) ?_
    refine lv_aload_n hx hb dX12_plansBy_46 rfl (lv_at hl 0 rfl) ?_
    refine lv_iload_n hx hb dX12_plansBy_47 rfl (lv_at hl 2 rfl) ?_
    refine lv_iconst (v := 1) hx hb dX12_plansBy_48 (by decide) ?_
    obtain ⟨r_15, hc_14, hp⟩ := bn1_s hp
    refine k_ROV (As := [.int x2, .int 1]) (rest := [.ref (qmo 0)]) ⟨hx, hb, hml, hown, hts⟩ hK hP (cw_X12_128 hts ⟨Nat.le_of_ble_eq_true rfl, Nat.le_of_ble_eq_true rfl⟩) 0 (ci := 12) rfl rfl rfl (c_X12_of l D cy qmo mo x2 1 r_15 hc_14) rfl hl.1 (Nat.le_of_ble_eq_true rfl) ⟨Nat.le_refl _, Nat.le_refl _⟩ dX12_plansBy_49 ?_
    obtain ⟨r_17, mo_18, hc_16, hp⟩ := bn2_s hp
    refine k_RIV (As := [.int r_15]) (rest := []) ⟨hx, hb, hml, hown, hts⟩ hK hP hD hS hA FrS_rf (cw_X12_171 hts ⟨Nat.le_of_ble_eq_true rfl, Nat.le_of_ble_eq_true rfl⟩) 0 (ci := 12) rfl rfl rfl (c_X12_takesFrom l D cy qmo mo r_15 r_17 mo_18 hc_16) rfl hl.1 (Nat.le_of_ble_eq_true rfl) ⟨Nat.le_refl _, Nat.le_refl _⟩ dX12_plansBy_52 (fun H locs hP hD hS => ?_)
    refine lv_istore_n (lv' := [(3, .int r_17), (0, .ref (qmo 0)), (1, .int p1), (2, .int x2)]) hx hb dX12_plansBy_55 rfl hl (by decide) rfl (fun ls hl => ?_)
    refine lv_aload_n hx hb dX12_plansBy_56 rfl (lv_at hl 1 rfl) ?_
    refine lv_iload_n hx hb dX12_plansBy_57 rfl (lv_at hl 3 rfl) ?_
    refine lv_iconst (v := 4) hx hb dX12_plansBy_58 (by decide) ?_
    refine lv_iload_n hx hb dX12_plansBy_59 rfl (lv_at hl 0 rfl) ?_
    obtain ⟨mo_20, hc_19, hp⟩ := bn1_s hp
    refine k_RVV (As := [.int x2, .int 4, .int r_17]) (rest := []) ⟨hx, hb, hml, hown, hts⟩ hK hP hD hS hA FrS_rf (cw_X12_90 hts ⟨Nat.le_of_ble_eq_true rfl, Nat.le_of_ble_eq_true rfl⟩) 0 (ci := 12) rfl rfl rfl (c_X12_sets l D cy qmo mo_18 x2 4 r_17 mo_20 hc_19) rfl hl.1 (Nat.le_of_ble_eq_true rfl) ⟨Nat.le_refl _, Nat.le_refl _⟩ dX12_plansBy_60 (fun H locs hP hD hS => ?_)
    refine lv_aload_n hx hb dX12_plansBy_63 rfl (lv_at hl 1 rfl) ?_
    refine lv_iload_n hx hb dX12_plansBy_64 rfl (lv_at hl 3 rfl) ?_
    refine lv_iconst (v := 5) hx hb dX12_plansBy_65 (by decide) ?_
    refine lv_iconst (v := 0) hx hb dX12_plansBy_66 (by decide) ?_
    obtain ⟨mo_22, hc_21, hp⟩ := bn1_s hp
    refine k_RVV (As := [.int x2, .int 5, .int 0]) (rest := []) ⟨hx, hb, hml, hown, hts⟩ hK hP hD hS hA FrS_rf (cw_X12_90 hts ⟨Nat.le_of_ble_eq_true rfl, Nat.le_of_ble_eq_true rfl⟩) 0 (ci := 12) rfl rfl rfl (c_X12_sets l D cy qmo mo_20 x2 5 0 mo_22 hc_21) rfl hl.1 (Nat.le_of_ble_eq_true rfl) ⟨Nat.le_refl _, Nat.le_refl _⟩ dX12_plansBy_67 (fun H locs hP hD hS => ?_)
    refine lv_aload_n hx hb dX12_plansBy_70 rfl (lv_at hl 1 rfl) ?_
    refine lv_iload_n hx hb dX12_plansBy_71 rfl (lv_at hl 3 rfl) ?_
    refine lv_bipush (v := 6) hx hb dX12_plansBy_72 (by decide) ?_
    refine lv_iload_n hx hb dX12_plansBy_74 rfl (lv_at hl 0 rfl) ?_
    refine lv_aload_n hx hb dX12_plansBy_75 rfl (lv_at hl 1 rfl) ?_
    refine lv_iload_n hx hb dX12_plansBy_76 rfl (lv_at hl 3 rfl) ?_
    refine lv_iconst (v := 1) hx hb dX12_plansBy_77 (by decide) ?_
    obtain ⟨r_24, hc_23, hp⟩ := bn1_s hp
    refine k_ROV (As := [.int x2, .int 1]) (rest := [.int r_17, .int 6, .int x2, .ref (qmo 0)]) ⟨hx, hb, hml, hown, hts⟩ hK hP (cw_X12_128 hts ⟨Nat.le_of_ble_eq_true rfl, Nat.le_of_ble_eq_true rfl⟩) 0 (ci := 12) rfl rfl rfl (c_X12_of l D cy qmo mo_22 x2 1 r_24 hc_23) rfl hl.1 (Nat.le_of_ble_eq_true rfl) ⟨Nat.le_refl _, Nat.le_refl _⟩ dX12_plansBy_78 ?_
    refine lv_isub hx hb dX12_plansBy_81 ?_
    obtain ⟨mo_26, hc_25, hp⟩ := bn1_s hp
    refine k_RVV (As := [.int x2, .int 6, .int (r_17 - r_24)]) (rest := []) ⟨hx, hb, hml, hown, hts⟩ hK hP hD hS hA FrS_rf (cw_X12_90 hts ⟨Nat.le_of_ble_eq_true rfl, Nat.le_of_ble_eq_true rfl⟩) 0 (ci := 12) rfl rfl rfl (c_X12_sets l D cy qmo mo_22 x2 6 (r_17 - r_24) mo_26 hc_25) rfl hl.1 (Nat.le_of_ble_eq_true rfl) ⟨Nat.le_refl _, Nat.le_refl _⟩ dX12_plansBy_82 (fun H locs hP hD hS => ?_)
    refine lv_aload_n hx hb dX12_plansBy_85 rfl (lv_at hl 1 rfl) ?_
    refine gf_X12_27 hx hb hts hown hK hP 0 rfl rfl dX12_plansBy_86 ?_
    refine lv_iload_n hx hb dX12_plansBy_89 rfl (lv_at hl 3 rfl) ?_
    refine lv_iconst (v := 1) hx hb dX12_plansBy_90 (by decide) ?_
    obtain ⟨hi_27, hp⟩ := ckI_s hp
    obtain ⟨mo_28, emo_28⟩ : ∃ y : Mem, y = upm mo_26 14 x2.toNatClampNeg (vp_nar .boolean 1) := ⟨_, rfl⟩
    have hp := stk_e hp emo_28
    refine r_zst hx hb hK hP hD hS (wn := (w_Mo cy qmo mo_28)) 6 rfl hi_27 (by subst emo_28; rfl) dX12_plansBy_91 (fun H locs hP hD hS => ?_)
    refine lv_aload_n hx hb dX12_plansBy_92 rfl (lv_at hl 1 rfl) ?_
    refine lv_iconst (v := 0) hx hb dX12_plansBy_93 (by decide) ?_
    refine lv_iconst (v := 0) hx hb dX12_plansBy_94 (by decide) ?_
    refine lv_iconst (v := (-1)) hx hb dX12_plansBy_95 (by decide) ?_
    obtain ⟨r_30, hc_29, hp⟩ := bn1_s hp
    refine k_ROV (As := [.int 0, .int 0, .int (-1)]) (rest := []) ⟨hx, hb, hml, hown, hts⟩ hK hP (cw_X12_178 hts ⟨Nat.le_of_ble_eq_true rfl, Nat.le_of_ble_eq_true rfl⟩) 0 (ci := 12) rfl rfl rfl (c_X12_firstOf l D cy qmo mo_28 0 0 (-1) r_30 hc_29) rfl hl.1 (Nat.le_of_ble_eq_true rfl) ⟨Nat.le_refl _, Nat.le_refl _⟩ dX12_plansBy_96 ?_
    refine lv_istore_n (lv' := [(2, .int r_30), (3, .int r_17), (0, .ref (qmo 0)), (1, .int p1)]) hx hb dX12_plansBy_99 rfl hl (by decide) rfl (fun ls hl => ?_)
    refine lv_goto (tgt := 40) hx hb dX12_plansBy_100 (by decide) ?_
    exact hk40 mo_28 r_30 _ _ _ hP hD hS (lv_sub hl [2, 3, 0] rfl) hp
theorem Mo_plansBy_b40_w (C0 : cX RX12 cX12_plansBy none 4 p s m args meth c) (hK : kN D cy s) {qmo : Nat → Nat} {p1 : Int32} {mo' : Mem} (hA : ∀ q, s.heap.size ≤ q → A q) : ∀ (n : Nat) (mo : Mem) (x2 : Int32) (H : Heap) (locs : List Loc) (ls : Array Slot), va_P D vwCl (w_Mo cy qmo mo) H → va_D A (w_Mo cy qmo mo) → va_S A s.heap H locs → lv_has ls 4 [(0, .ref (qmo 0)), (1, .int p1), (2, .int x2)] → Mo_plansBy_b40 p1 n mo x2 = some mo' → W p l e (rmD 5) s m args below meth c H locs 0 0 (qRV D below args s A (w_Mo cy qmo mo')) (F0 m 40 ls []) := by
  intro n
  induction n with
  | zero =>
    intro mo x2 H locs ls hP hD hS hl hp
    cases hp
  | succ n ih =>
    intro mo x2 H locs ls hP hD hS hl hp
    exact Mo_plansBy_b40B_w C0 hK hA  (fun mo x2 H locs ls hP hD hS hl hp => ih mo x2 H locs ls hP hD hS hl hp) hP hD hS hl hp
set_option maxHeartbeats 4000000 in
set_option maxRecDepth 100000 in
theorem Mo_plansBy_b6B_w (C0 : cX RX12 cX12_plansBy none 4 p s m args meth c) (hK : kN D cy s) {qmo : Nat → Nat} {p1 : Int32} {mo' : Mem} (hA : ∀ q, s.heap.size ≤ q → A q) {k6 : Mem → Int32 → Option (Mem)} (hk6 : ∀ (mo : Mem) (x2 : Int32) (H : Heap) (locs : List Loc) (ls : Array Slot), va_P D vwCl (w_Mo cy qmo mo) H → va_D A (w_Mo cy qmo mo) → va_S A s.heap H locs → lv_has ls 4 [(0, .ref (qmo 0)), (1, .int p1), (2, .int x2)] → k6 mo x2 = some mo' → W p l e (rmD 5) s m args below meth c H locs 0 0 (qRV D below args s A (w_Mo cy qmo mo')) (F0 m 6 ls [])) {mo : Mem} {x2 : Int32} {H : Heap} {locs : List Loc} (hP : va_P D vwCl (w_Mo cy qmo mo) H) (hD : va_D A (w_Mo cy qmo mo)) (hS : va_S A s.heap H locs) {ls : Array Slot} (hl : lv_has ls 4 [(0, .ref (qmo 0)), (1, .int p1), (2, .int x2)]) (hp : Mo_plansBy_b6B p1 k6 mo x2 = some mo') : W p l e (rmD 5) s m args below meth c H locs 0 0 (qRV D below args s A (w_Mo cy qmo mo')) (F0 m 6 ls []) := by
  obtain ⟨hx, hb, hr, hml, hown, hts, hk⟩ := id C0
  unfold Mo_plansBy_b6B at hp
  refine lv_iload_n hx hb dX12_plansBy_6 rfl (lv_at hl 2 rfl) ?_
  refine lv_aload_n hx hb dX12_plansBy_7 rfl (lv_at hl 0 rfl) ?_
  refine gf_X12_7 hx hb hts hown hK hP 0 rfl rfl dX12_plansBy_8 ?_
  refine lv_sipush (v := 173) hx hb dX12_plansBy_11 (by decide) ?_
  obtain ⟨hi_3, hp⟩ := ckI_s hp
  refine r_ild hx hb hK hP 1 rfl hi_3 dX12_plansBy_14 ?_
  refine lv_icmp_ge (tgt := 32) hx hb dX12_plansBy_15 (by decide) (fun c_4 => ?_) (fun c_4 => ?_)
  · have hp := ite_p hp c_4
    refine lv_aload_n hx hb dX12_plansBy_32 rfl (lv_at hl 0 rfl) ?_
    refine lv_iconst (v := 0) hx hb dX12_plansBy_33 (by decide) ?_
    refine lv_iconst (v := 0) hx hb dX12_plansBy_34 (by decide) ?_
    refine lv_iconst (v := (-1)) hx hb dX12_plansBy_35 (by decide) ?_
    obtain ⟨r_6, hc_5, hp⟩ := bn1_s hp
    refine k_ROV (As := [.int 0, .int 0, .int (-1)]) (rest := []) ⟨hx, hb, hml, hown, hts⟩ hK hP (cw_X12_178 hts ⟨Nat.le_of_ble_eq_true rfl, Nat.le_of_ble_eq_true rfl⟩) 0 (ci := 12) rfl rfl rfl (c_X12_firstOf l D cy qmo mo 0 0 (-1) r_6 hc_5) rfl hl.1 (Nat.le_of_ble_eq_true rfl) ⟨Nat.le_refl _, Nat.le_refl _⟩ dX12_plansBy_36 ?_
    refine lv_istore_n (lv' := [(2, .int r_6), (0, .ref (qmo 0)), (1, .int p1)]) hx hb dX12_plansBy_39 rfl hl (by decide) rfl (fun ls hl => ?_)
    exact Mo_plansBy_b40_w C0 hK hA  fl mo r_6 _ _ _ hP hD hS (lv_sub hl [1, 2, 0] rfl) hp
  · have hp := ite_n hp c_4
    refine lv_aload_n hx hb dX12_plansBy_18 rfl (lv_at hl 0 rfl) ?_
    refine lv_iload_n hx hb dX12_plansBy_19 rfl (lv_at hl 2 rfl) ?_
    refine lv_bipush (v := 7) hx hb dX12_plansBy_20 (by decide) ?_
    refine lv_iconst (v := 0) hx hb dX12_plansBy_22 (by decide) ?_
    obtain ⟨mo_8, hc_7, hp⟩ := bn1_s hp
    refine k_RVV (As := [.int x2, .int 7, .int 0]) (rest := []) ⟨hx, hb, hml, hown, hts⟩ hK hP hD hS hA FrS_rf (cw_X12_90 hts ⟨Nat.le_of_ble_eq_true rfl, Nat.le_of_ble_eq_true rfl⟩) 0 (ci := 12) rfl rfl rfl (c_X12_sets l D cy qmo mo x2 7 0 mo_8 hc_7) rfl hl.1 (Nat.le_of_ble_eq_true rfl) ⟨Nat.le_refl _, Nat.le_refl _⟩ dX12_plansBy_23 (fun H locs hP hD hS => ?_)
    obtain ⟨x2_9, ex2_9⟩ : ∃ y : Int32, y = x2 + 1 := ⟨_, rfl⟩
    have hp := stk_e hp ex2_9
    refine lv_iinc (v := x2_9) (lv' := [(2, .int x2_9), (0, .ref (qmo 0)), (1, .int p1)]) hx hb dX12_plansBy_26 hl (k := 2) rfl (by rw [ex2_9]; rfl) (by decide) rfl (fun ls hl => ?_)
    refine lv_goto (tgt := 6) hx hb dX12_plansBy_29 (by decide) ?_
    exact hk6 mo_8 x2_9 _ _ _ hP hD hS (lv_sub hl [1, 2, 0] rfl) hp
theorem Mo_plansBy_b6_w (C0 : cX RX12 cX12_plansBy none 4 p s m args meth c) (hK : kN D cy s) {qmo : Nat → Nat} {p1 : Int32} {mo' : Mem} (hA : ∀ q, s.heap.size ≤ q → A q) : ∀ (n : Nat) (mo : Mem) (x2 : Int32) (H : Heap) (locs : List Loc) (ls : Array Slot), va_P D vwCl (w_Mo cy qmo mo) H → va_D A (w_Mo cy qmo mo) → va_S A s.heap H locs → lv_has ls 4 [(0, .ref (qmo 0)), (1, .int p1), (2, .int x2)] → Mo_plansBy_b6 p1 n mo x2 = some mo' → W p l e (rmD 5) s m args below meth c H locs 0 0 (qRV D below args s A (w_Mo cy qmo mo')) (F0 m 6 ls []) := by
  intro n
  induction n with
  | zero =>
    intro mo x2 H locs ls hP hD hS hl hp
    cases hp
  | succ n ih =>
    intro mo x2 H locs ls hP hD hS hl hp
    exact Mo_plansBy_b6B_w C0 hK hA  (fun mo x2 H locs ls hP hD hS hl hp => ih mo x2 H locs ls hP hD hS hl hp) hP hD hS hl hp
set_option maxHeartbeats 4000000 in
set_option maxRecDepth 100000 in
theorem c_X12_plansBy (l : Launch) (D : va_G) (cy : Nat → ClassId) (qmo : Nat → Nat) (mo : Mem) (p1 : Int32) (mo' : Mem) (hp : Mo_plansBy mo p1 = some mo') : RV l yX12_plansBy cX12_plansBy 4 5 D cy [.ref (qmo 0), .int p1] (w_Mo cy qmo mo) (w_Mo cy qmo mo') := by
  refine RV_of RX12 rfl (by decide) (Nat.le_of_ble_eq_true rfl) ?_
  intro p e s m below meth c A C0 hK hP hD hS hA ls hl
  obtain ⟨hx, hb, hr, hml, hown, hts, hk⟩ := id C0
  unfold Mo_plansBy at hp
  have hl : lv_has ls 4 [(0, .ref (qmo 0)), (1, .int p1)] := hl
  refine lv_aload_n hx hb dX12_plansBy_0 rfl (lv_at hl 0 rfl) ?_
  obtain ⟨mo_2, hc_1, hp⟩ := bn1_s hp
  refine k_RVV (As := []) (rest := []) ⟨hx, hb, hml, hown, hts⟩ hK hP hD hS hA FrS_rf (cw_X12_185 hts ⟨Nat.le_of_ble_eq_true rfl, Nat.le_of_ble_eq_true rfl⟩) 0 (ci := 12) rfl rfl rfl (c_X12_beginsPlan l D cy qmo mo mo_2 hc_1) rfl hl.1 (Nat.le_of_ble_eq_true rfl) ⟨Nat.le_refl _, Nat.le_refl _⟩ dX12_plansBy_1 (fun H locs hP hD hS => ?_)
  refine lv_iconst (v := 0) hx hb dX12_plansBy_4 (by decide) ?_
  refine lv_istore_n (lv' := [(2, .int 0), (0, .ref (qmo 0)), (1, .int p1)]) hx hb dX12_plansBy_5 rfl hl (by decide) rfl (fun ls hl => ?_)
  exact Mo_plansBy_b6_w C0 hK hA  fl mo_2 0 _ _ _ hP hD hS (lv_sub hl [1, 2, 0] rfl) hp
/-! StormSlotsModel.plan()I -/
def Mo_plan_b23B (k23 : Mem → Int32 → Int32 → Option (Int32 × Mem)) (mo : Mem) (x1 : Int32) (x2 : Int32) : Option (Int32 × Mem) :=
  ckI 173 1452 (if (mo 0 (173 : Int32).toNatClampNeg) ≤ x2 then some (x1, mo) else bn1 (Mo_waits mo x2) (fun r_8 => if r_8 ≤ 0 then stk (x1 + 0) (fun x1_10 => stk (x2 + 1) (fun x2_11 => k23 mo x1_10 x2_11)) else stk (x1 + 1) (fun x1_12 => stk (x2 + 1) (fun x2_13 => k23 mo x1_12 x2_13))))
def Mo_plan_b23 : Nat → Mem → Int32 → Int32 → Option (Int32 × Mem)
  | 0 => fun _ _ _ => none
  | n + 1 => Mo_plan_b23B  (Mo_plan_b23  n)
def Mo_plan (mo : Mem) : Option (Int32 × Mem) :=
  ckI 173 1452 (if (mo 0 (173 : Int32).toNatClampNeg) = 0 then some ((-2), mo) else bn1 (Mo_plansBy mo 0) (fun mo_4 => Mo_plan_b23 fl mo_4 0 0))
set_option maxHeartbeats 4000000 in
set_option maxRecDepth 100000 in
theorem Mo_plan_b23B_w (C0 : cX RX12 cX12_plan (some .int) 3 p s m args meth c) (hK : kN D cy s) {qmo : Nat → Nat} {r : Int32} {mo' : Mem} (hA : ∀ q, s.heap.size ≤ q → A q) {k23 : Mem → Int32 → Int32 → Option (Int32 × Mem)} (hk23 : ∀ (mo : Mem) (x1 x2 : Int32) (H : Heap) (locs : List Loc) (ls : Array Slot), va_P D vwCl (w_Mo cy qmo mo) H → va_D A (w_Mo cy qmo mo) → va_S A s.heap H locs → lv_has ls 3 [(0, .ref (qmo 0)), (1, .int x1), (2, .int x2)] → k23 mo x1 x2 = some (r, mo') → W p l e (rmD 6) s m args below meth c H locs 0 0 (qRI D below args s A (w_Mo cy qmo mo') r) (F0 m 23 ls [])) {mo : Mem} {x1 : Int32} {x2 : Int32} {H : Heap} {locs : List Loc} (hP : va_P D vwCl (w_Mo cy qmo mo) H) (hD : va_D A (w_Mo cy qmo mo)) (hS : va_S A s.heap H locs) {ls : Array Slot} (hl : lv_has ls 3 [(0, .ref (qmo 0)), (1, .int x1), (2, .int x2)]) (hp : Mo_plan_b23B k23 mo x1 x2 = some (r, mo')) : W p l e (rmD 6) s m args below meth c H locs 0 0 (qRI D below args s A (w_Mo cy qmo mo') r) (F0 m 23 ls []) := by
  obtain ⟨hx, hb, hr, hml, hown, hts, hk⟩ := id C0
  unfold Mo_plan_b23B at hp
  refine lv_iload_n hx hb dX12_plan_23 rfl (lv_at hl 2 rfl) ?_
  refine lv_aload_n hx hb dX12_plan_24 rfl (lv_at hl 0 rfl) ?_
  refine gf_X12_7 hx hb hts hown hK hP 0 rfl rfl dX12_plan_25 ?_
  refine lv_sipush (v := 173) hx hb dX12_plan_28 (by decide) ?_
  obtain ⟨hi_5, hp⟩ := ckI_s hp
  refine r_ild hx hb hK hP 1 rfl hi_5 dX12_plan_31 ?_
  refine lv_icmp_ge (tgt := 57) hx hb dX12_plan_32 (by decide) (fun c_6 => ?_) (fun c_6 => ?_)
  · have hp := ite_p hp c_6
    refine lv_iload_n hx hb dX12_plan_57 rfl (lv_at hl 1 rfl) ?_
    simp only [Option.some.injEq, Prod.mk.injEq] at hp
    obtain ⟨h0, rfl⟩ := hp
    exact e_RIi hx hb hr hk hP hD hS dX12_plan_58 h0
  · have hp := ite_n hp c_6
    refine lv_iload_n hx hb dX12_plan_35 rfl (lv_at hl 1 rfl) ?_
    refine lv_aload_n hx hb dX12_plan_36 rfl (lv_at hl 0 rfl) ?_
    refine lv_iload_n hx hb dX12_plan_37 rfl (lv_at hl 2 rfl) ?_
    obtain ⟨r_8, hc_7, hp⟩ := bn1_s hp
    refine k_ROV (As := [.int x2]) (rest := [.int x1]) ⟨hx, hb, hml, hown, hts⟩ hK hP (cw_X12_194 hts ⟨Nat.le_of_ble_eq_true rfl, Nat.le_of_ble_eq_true rfl⟩) 0 (ci := 12) rfl rfl rfl (c_X12_waits l D cy qmo mo x2 r_8 hc_7) rfl hl.1 (Nat.le_of_ble_eq_true rfl) ⟨Nat.le_refl _, Nat.le_refl _⟩ dX12_plan_38 ?_
    refine lv_if_le (tgt := 48) hx hb dX12_plan_41 (by decide) (fun c_9 => ?_) (fun c_9 => ?_)
    · have hp := ite_p hp c_9
      refine lv_iconst (v := 0) hx hb dX12_plan_48 (by decide) ?_
      refine lv_iadd hx hb dX12_plan_49 ?_
      refine lv_topi (fun x1_10 ex1_10 => ?_)
      have hp := stk_e hp ex1_10
      refine lv_istore_n (lv' := [(1, .int x1_10), (0, .ref (qmo 0)), (2, .int x2)]) hx hb dX12_plan_50 rfl hl (by decide) rfl (fun ls hl => ?_)
      obtain ⟨x2_11, ex2_11⟩ : ∃ y : Int32, y = x2 + 1 := ⟨_, rfl⟩
      have hp := stk_e hp ex2_11
      refine lv_iinc (v := x2_11) (lv' := [(2, .int x2_11), (1, .int x1_10), (0, .ref (qmo 0))]) hx hb dX12_plan_51 hl (k := 2) rfl (by rw [ex2_11]; rfl) (by decide) rfl (fun ls hl => ?_)
      refine lv_goto (tgt := 23) hx hb dX12_plan_54 (by decide) ?_
      exact hk23 mo x1_10 x2_11 _ _ _ hP hD hS (lv_sub hl [2, 1, 0] rfl) hp
    · have hp := ite_n hp c_9
      refine lv_iconst (v := 1) hx hb dX12_plan_44 (by decide) ?_
      refine lv_goto (tgt := 49) hx hb dX12_plan_45 (by decide) ?_
      refine lv_iadd hx hb dX12_plan_49 ?_
      refine lv_topi (fun x1_12 ex1_12 => ?_)
      have hp := stk_e hp ex1_12
      refine lv_istore_n (lv' := [(1, .int x1_12), (0, .ref (qmo 0)), (2, .int x2)]) hx hb dX12_plan_50 rfl hl (by decide) rfl (fun ls hl => ?_)
      obtain ⟨x2_13, ex2_13⟩ : ∃ y : Int32, y = x2 + 1 := ⟨_, rfl⟩
      have hp := stk_e hp ex2_13
      refine lv_iinc (v := x2_13) (lv' := [(2, .int x2_13), (1, .int x1_12), (0, .ref (qmo 0))]) hx hb dX12_plan_51 hl (k := 2) rfl (by rw [ex2_13]; rfl) (by decide) rfl (fun ls hl => ?_)
      refine lv_goto (tgt := 23) hx hb dX12_plan_54 (by decide) ?_
      exact hk23 mo x1_12 x2_13 _ _ _ hP hD hS (lv_sub hl [2, 1, 0] rfl) hp
theorem Mo_plan_b23_w (C0 : cX RX12 cX12_plan (some .int) 3 p s m args meth c) (hK : kN D cy s) {qmo : Nat → Nat} {r : Int32} {mo' : Mem} (hA : ∀ q, s.heap.size ≤ q → A q) : ∀ (n : Nat) (mo : Mem) (x1 x2 : Int32) (H : Heap) (locs : List Loc) (ls : Array Slot), va_P D vwCl (w_Mo cy qmo mo) H → va_D A (w_Mo cy qmo mo) → va_S A s.heap H locs → lv_has ls 3 [(0, .ref (qmo 0)), (1, .int x1), (2, .int x2)] → Mo_plan_b23  n mo x1 x2 = some (r, mo') → W p l e (rmD 6) s m args below meth c H locs 0 0 (qRI D below args s A (w_Mo cy qmo mo') r) (F0 m 23 ls []) := by
  intro n
  induction n with
  | zero =>
    intro mo x1 x2 H locs ls hP hD hS hl hp
    cases hp
  | succ n ih =>
    intro mo x1 x2 H locs ls hP hD hS hl hp
    exact Mo_plan_b23B_w C0 hK hA  (fun mo x1 x2 H locs ls hP hD hS hl hp => ih mo x1 x2 H locs ls hP hD hS hl hp) hP hD hS hl hp
set_option maxHeartbeats 4000000 in
set_option maxRecDepth 100000 in
theorem c_X12_plan (l : Launch) (D : va_G) (cy : Nat → ClassId) (qmo : Nat → Nat) (mo : Mem) (r : Int32) (mo' : Mem) (hp : Mo_plan mo = some (r, mo')) : RI l yX12_plan cX12_plan 3 (some .int) 6 D cy [.ref (qmo 0)] (w_Mo cy qmo mo) (w_Mo cy qmo mo') r := by
  refine RI_of RX12 rfl (by decide) (Nat.le_of_ble_eq_true rfl) ?_
  intro p e s m below meth c A C0 hK hP hD hS hA ls hl
  obtain ⟨hx, hb, hr, hml, hown, hts, hk⟩ := id C0
  unfold Mo_plan at hp
  have hl : lv_has ls 3 [(0, .ref (qmo 0))] := hl
  refine lv_aload_n hx hb dX12_plan_0 rfl (lv_at hl 0 rfl) ?_
  refine gf_X12_7 hx hb hts hown hK hP 0 rfl rfl dX12_plan_1 ?_
  refine lv_sipush (v := 173) hx hb dX12_plan_4 (by decide) ?_
  obtain ⟨hi_1, hp⟩ := ckI_s hp
  refine r_ild hx hb hK hP 1 rfl hi_1 dX12_plan_7 ?_
  refine lv_if_ne (tgt := 14) hx hb dX12_plan_8 (by decide) (fun c_2 => ?_) (fun c_2 => ?_)
  · have hp := ite_n hp c_2
    refine lv_aload_n hx hb dX12_plan_14 rfl (lv_at hl 0 rfl) ?_
    refine lv_iconst (v := 0) hx hb dX12_plan_15 (by decide) ?_
    obtain ⟨mo_4, hc_3, hp⟩ := bn1_s hp
    refine k_RVV (As := [.int 0]) (rest := []) ⟨hx, hb, hml, hown, hts⟩ hK hP hD hS hA FrS_rf (cw_X12_191 hts ⟨Nat.le_of_ble_eq_true rfl, Nat.le_of_ble_eq_true rfl⟩) 0 (ci := 12) rfl rfl rfl (c_X12_plansBy l D cy qmo mo 0 mo_4 hc_3) rfl hl.1 (Nat.le_of_ble_eq_true rfl) ⟨Nat.le_refl _, Nat.le_refl _⟩ dX12_plan_16 (fun H locs hP hD hS => ?_)
    refine lv_iconst (v := 0) hx hb dX12_plan_19 (by decide) ?_
    refine lv_istore_n (lv' := [(1, .int 0), (0, .ref (qmo 0))]) hx hb dX12_plan_20 rfl hl (by decide) rfl (fun ls hl => ?_)
    refine lv_iconst (v := 0) hx hb dX12_plan_21 (by decide) ?_
    refine lv_istore_n (lv' := [(2, .int 0), (1, .int 0), (0, .ref (qmo 0))]) hx hb dX12_plan_22 rfl hl (by decide) rfl (fun ls hl => ?_)
    exact Mo_plan_b23_w C0 hK hA  fl mo_4 0 0 _ _ _ hP hD hS (lv_sub hl [2, 1, 0] rfl) hp
  · have hp := ite_p hp c_2
    refine lv_bipush (v := (-2)) hx hb dX12_plan_11 (by decide) ?_
    simp only [Option.some.injEq, Prod.mk.injEq] at hp
    obtain ⟨h0, rfl⟩ := hp
    exact e_RIi hx hb hr hk hP hD hS dX12_plan_13 h0
/-! StormSlotsModel.revises()V -/
def Mo_revises_b206B (k206 : Mem → Int32 → Option (Mem)) (mo : Mem) (x1 : Int32) : Option (Mem) :=
  if x1 = (-1) then bn1 (Mo_clearsPlan mo) (fun mo_41 => some mo_41) else bn1 (Mo_grounds mo x1) (fun mo_43 => bn1 (Mo_firstOf mo_43 3 0 (-1)) (fun r_45 => k206 mo_43 r_45))
def Mo_revises_b206 : Nat → Mem → Int32 → Option (Mem)
  | 0 => fun _ _ => none
  | n + 1 => Mo_revises_b206B  (Mo_revises_b206  n)
def Mo_revises_b125B (k125 : Mem → Int32 → Option (Mem)) (mo : Mem) (x1 : Int32) : Option (Mem) :=
  if x1 = (-1) then bn1 (Mo_firstOf mo 3 0 (-1)) (fun r_14 => Mo_revises_b206 fl mo r_14) else bn1 (Mo_of mo x1 1) (fun r_16 => bn1 (Mo_of mo x1 5) (fun r_18 => stk (r_16 + r_18) (fun x2_19 => ckI 172 1452 (bn1 (Mo_more x2_19 ((mo 0 (172 : Int32).toNatClampNeg) + 1)) (fun r_22 => bn2 (Mo_takesFrom mo r_22) (fun r_24 mo_25 => bn1 (Mo_sets mo_25 x1 4 r_24) (fun mo_27 => bn1 (Mo_sets mo_27 x1 6 (r_24 - x2_19)) (fun mo_29 => ckI x1 20 (stk (upm mo_29 14 x1.toNatClampNeg (vp_nar .boolean 1)) (fun mo_31 => bn1 (Mo_firstOf mo_31 2 3 (-1)) (fun r_33 => k125 mo_31 r_33)))))))))))
def Mo_revises_b125 : Nat → Mem → Int32 → Option (Mem)
  | 0 => fun _ _ => none
  | n + 1 => Mo_revises_b125B  (Mo_revises_b125  n)
def Mo_revises_b63 (k6 : Mem → Int32 → Option (Mem)) (mo : Mem) (x1 : Int32) (y0 : Int32) (y1 : Int32) : Option (Mem) :=
  ckI y0 20 (stk (upm mo 14 y0.toNatClampNeg (vp_nar .boolean y1)) (fun mo_47 => bn1 (Mo_isAir mo_47 x1) (fun r_49 => if r_49 = 0 then stk (x1 + 1) (fun x1_51 => k6 mo_47 x1_51) else bn1 (Mo_of mo_47 x1 4) (fun r_53 => ckI 172 1452 (if r_53 ≤ (mo_47 0 (172 : Int32).toNatClampNeg) then ckI x1 20 (stk (upm mo_47 14 x1.toNatClampNeg (vp_nar .boolean 1)) (fun mo_57 => bn1 (Mo_of mo_57 x1 4) (fun r_59 => ckI r_59 1200 (stk (upm mo_57 13 r_59.toNatClampNeg (vp_nar .boolean 1)) (fun mo_61 => stk (x1 + 1) (fun x1_62 => k6 mo_61 x1_62)))))) else stk (x1 + 1) (fun x1_63 => k6 mo_47 x1_63))))))
def Mo_revises_b41 (k6 : Mem → Int32 → Option (Mem)) (mo : Mem) (x1 : Int32) (y0 : Int32) (y1 : Int32) : Option (Mem) :=
  ckI y0 20 (stk (upm mo 15 y0.toNatClampNeg y1) (fun mo_35 => bn1 (Mo_of mo_35 x1 7) (fun r_37 => if r_37 = 1 then Mo_revises_b63 k6 mo_35 x1 x1 1 else Mo_revises_b63 k6 mo_35 x1 x1 0)))
def Mo_revises_b6B (k6 : Mem → Int32 → Option (Mem)) (mo : Mem) (x1 : Int32) : Option (Mem) :=
  ckI 173 1452 (if (mo 0 (173 : Int32).toNatClampNeg) ≤ x1 then bn1 (Mo_firstOf mo 2 3 (-1)) (fun r_6 => Mo_revises_b125 fl mo r_6) else bn1 (Mo_isPlanned mo x1) (fun r_8 => if r_8 = 0 then Mo_revises_b41 k6 mo x1 x1 (-1) else bn1 (Mo_of mo x1 4) (fun r_11 => Mo_revises_b41 k6 mo x1 x1 r_11)))
def Mo_revises_b6 : Nat → Mem → Int32 → Option (Mem)
  | 0 => fun _ _ => none
  | n + 1 => Mo_revises_b6B  (Mo_revises_b6  n)
def Mo_revises (mo : Mem) : Option (Mem) :=
  bn1 (Mo_beginsPlan mo) (fun mo_2 => Mo_revises_b6 fl mo_2 0)
set_option maxHeartbeats 4000000 in
set_option maxRecDepth 100000 in
theorem Mo_revises_b206B_w (C0 : cX RX12 cX12_revises none 4 p s m args meth c) (hK : kN D cy s) {qmo : Nat → Nat} {mo' : Mem} (hA : ∀ q, s.heap.size ≤ q → A q) {k206 : Mem → Int32 → Option (Mem)} (hk206 : ∀ (mo : Mem) (x1 : Int32) (H : Heap) (locs : List Loc) (ls : Array Slot), va_P D vwCl (w_Mo cy qmo mo) H → va_D A (w_Mo cy qmo mo) → va_S A s.heap H locs → lv_has ls 4 [(0, .ref (qmo 0)), (1, .int x1)] → k206 mo x1 = some mo' → W p l e (rmD 4) s m args below meth c H locs 0 0 (qRV D below args s A (w_Mo cy qmo mo')) (F0 m 206 ls [])) {mo : Mem} {x1 : Int32} {H : Heap} {locs : List Loc} (hP : va_P D vwCl (w_Mo cy qmo mo) H) (hD : va_D A (w_Mo cy qmo mo)) (hS : va_S A s.heap H locs) {ls : Array Slot} (hl : lv_has ls 4 [(0, .ref (qmo 0)), (1, .int x1)]) (hp : Mo_revises_b206B k206 mo x1 = some mo') : W p l e (rmD 4) s m args below meth c H locs 0 0 (qRV D below args s A (w_Mo cy qmo mo')) (F0 m 206 ls []) := by
  obtain ⟨hx, hb, hr, hml, hown, hts, hk⟩ := id C0
  unfold Mo_revises_b206B at hp
  refine lv_iload_n hx hb dX12_revises_206 rfl (lv_at hl 1 rfl) ?_
  refine lv_iconst (v := (-1)) hx hb dX12_revises_207 (by decide) ?_
  refine lv_icmp_eq (tgt := 227) hx hb dX12_revises_208 (by decide) (fun c_39 => ?_) (fun c_39 => ?_)
  · have hp := ite_p hp c_39
    refine lv_aload_n hx hb dX12_revises_227 rfl (lv_at hl 0 rfl) ?_
    obtain ⟨mo_41, hc_40, hp⟩ := bn1_s hp
    refine k_RVV (As := []) (rest := []) ⟨hx, hb, hml, hown, hts⟩ hK hP hD hS hA FrS_rf (cw_X12_87 hts ⟨Nat.le_of_ble_eq_true rfl, Nat.le_of_ble_eq_true rfl⟩) 0 (ci := 12) rfl rfl rfl (c_X12_clearsPlan l D cy qmo mo mo_41 hc_40) rfl hl.1 (Nat.le_of_ble_eq_true rfl) ⟨Nat.le_refl _, Nat.le_refl _⟩ dX12_revises_228 (fun H locs hP hD hS => ?_)
    simp only [Option.some.injEq, Prod.mk.injEq] at hp
    subst hp
    exact e_RV hx hb hr hk hP hD hS dX12_revises_231
  · have hp := ite_n hp c_39
    refine lv_aload_n hx hb dX12_revises_211 rfl (lv_at hl 0 rfl) ?_
    refine lv_iload_n hx hb dX12_revises_212 rfl (lv_at hl 1 rfl) ?_
    obtain ⟨mo_43, hc_42, hp⟩ := bn1_s hp
    refine k_RVV (As := [.int x1]) (rest := []) ⟨hx, hb, hml, hown, hts⟩ hK hP hD hS hA FrS_rf (cw_X12_182 hts ⟨Nat.le_of_ble_eq_true rfl, Nat.le_of_ble_eq_true rfl⟩) 0 (ci := 12) rfl rfl rfl (c_X12_grounds l D cy qmo mo x1 mo_43 hc_42) rfl hl.1 (Nat.le_of_ble_eq_true rfl) ⟨Nat.le_refl _, Nat.le_refl _⟩ dX12_revises_213 (fun H locs hP hD hS => ?_)
    refine lv_aload_n hx hb dX12_revises_216 rfl (lv_at hl 0 rfl) ?_
    refine lv_iconst (v := 3) hx hb dX12_revises_217 (by decide) ?_
    refine lv_iconst (v := 0) hx hb dX12_revises_218 (by decide) ?_
    refine lv_iconst (v := (-1)) hx hb dX12_revises_219 (by decide) ?_
    obtain ⟨r_45, hc_44, hp⟩ := bn1_s hp
    refine k_ROV (As := [.int 3, .int 0, .int (-1)]) (rest := []) ⟨hx, hb, hml, hown, hts⟩ hK hP (cw_X12_178 hts ⟨Nat.le_of_ble_eq_true rfl, Nat.le_of_ble_eq_true rfl⟩) 0 (ci := 12) rfl rfl rfl (c_X12_firstOf l D cy qmo mo_43 3 0 (-1) r_45 hc_44) rfl hl.1 (Nat.le_of_ble_eq_true rfl) ⟨Nat.le_refl _, Nat.le_refl _⟩ dX12_revises_220 ?_
    refine lv_istore_n (lv' := [(1, .int r_45), (0, .ref (qmo 0))]) hx hb dX12_revises_223 rfl hl (by decide) rfl (fun ls hl => ?_)
    refine lv_goto (tgt := 206) hx hb dX12_revises_224 (by decide) ?_
    exact hk206 mo_43 r_45 _ _ _ hP hD hS (lv_sub hl [1, 0] rfl) hp
theorem Mo_revises_b206_w (C0 : cX RX12 cX12_revises none 4 p s m args meth c) (hK : kN D cy s) {qmo : Nat → Nat} {mo' : Mem} (hA : ∀ q, s.heap.size ≤ q → A q) : ∀ (n : Nat) (mo : Mem) (x1 : Int32) (H : Heap) (locs : List Loc) (ls : Array Slot), va_P D vwCl (w_Mo cy qmo mo) H → va_D A (w_Mo cy qmo mo) → va_S A s.heap H locs → lv_has ls 4 [(0, .ref (qmo 0)), (1, .int x1)] → Mo_revises_b206  n mo x1 = some mo' → W p l e (rmD 4) s m args below meth c H locs 0 0 (qRV D below args s A (w_Mo cy qmo mo')) (F0 m 206 ls []) := by
  intro n
  induction n with
  | zero =>
    intro mo x1 H locs ls hP hD hS hl hp
    cases hp
  | succ n ih =>
    intro mo x1 H locs ls hP hD hS hl hp
    exact Mo_revises_b206B_w C0 hK hA  (fun mo x1 H locs ls hP hD hS hl hp => ih mo x1 H locs ls hP hD hS hl hp) hP hD hS hl hp
set_option maxHeartbeats 4000000 in
set_option maxRecDepth 100000 in
theorem Mo_revises_b125B_w (C0 : cX RX12 cX12_revises none 4 p s m args meth c) (hK : kN D cy s) {qmo : Nat → Nat} {mo' : Mem} (hA : ∀ q, s.heap.size ≤ q → A q) {k125 : Mem → Int32 → Option (Mem)} (hk125 : ∀ (mo : Mem) (x1 : Int32) (H : Heap) (locs : List Loc) (ls : Array Slot), va_P D vwCl (w_Mo cy qmo mo) H → va_D A (w_Mo cy qmo mo) → va_S A s.heap H locs → lv_has ls 4 [(0, .ref (qmo 0)), (1, .int x1)] → k125 mo x1 = some mo' → W p l e (rmD 4) s m args below meth c H locs 0 0 (qRV D below args s A (w_Mo cy qmo mo')) (F0 m 125 ls [])) {mo : Mem} {x1 : Int32} {H : Heap} {locs : List Loc} (hP : va_P D vwCl (w_Mo cy qmo mo) H) (hD : va_D A (w_Mo cy qmo mo)) (hS : va_S A s.heap H locs) {ls : Array Slot} (hl : lv_has ls 4 [(0, .ref (qmo 0)), (1, .int x1)]) (hp : Mo_revises_b125B k125 mo x1 = some mo') : W p l e (rmD 4) s m args below meth c H locs 0 0 (qRV D below args s A (w_Mo cy qmo mo')) (F0 m 125 ls []) := by
  obtain ⟨hx, hb, hr, hml, hown, hts, hk⟩ := id C0
  unfold Mo_revises_b125B at hp
  refine lv_iload_n hx hb dX12_revises_125 rfl (lv_at hl 1 rfl) ?_
  refine lv_iconst (v := (-1)) hx hb dX12_revises_126 (by decide) ?_
  refine lv_icmp_eq (tgt := 198) hx hb dX12_revises_127 (by decide) (fun c_12 => ?_) (fun c_12 => ?_)
  · have hp := ite_p hp c_12
    refine lv_aload_n hx hb dX12_revises_198 rfl (lv_at hl 0 rfl) ?_
    refine lv_iconst (v := 3) hx hb dX12_revises_199 (by decide) ?_
    refine lv_iconst (v := 0) hx hb dX12_revises_200 (by decide) ?_
    refine lv_iconst (v := (-1)) hx hb dX12_revises_201 (by decide) ?_
    obtain ⟨r_14, hc_13, hp⟩ := bn1_s hp
    refine k_ROV (As := [.int 3, .int 0, .int (-1)]) (rest := []) ⟨hx, hb, hml, hown, hts⟩ hK hP (cw_X12_178 hts ⟨Nat.le_of_ble_eq_true rfl, Nat.le_of_ble_eq_true rfl⟩) 0 (ci := 12) rfl rfl rfl (c_X12_firstOf l D cy qmo mo 3 0 (-1) r_14 hc_13) rfl hl.1 (Nat.le_of_ble_eq_true rfl) ⟨Nat.le_refl _, Nat.le_refl _⟩ dX12_revises_202 ?_
    refine lv_istore_n (lv' := [(1, .int r_14), (0, .ref (qmo 0))]) hx hb dX12_revises_205 rfl hl (by decide) rfl (fun ls hl => ?_)
    exact Mo_revises_b206_w C0 hK hA  fl mo r_14 _ _ _ hP hD hS (lv_sub hl [1, 0] rfl) hp
  · have hp := ite_n hp c_12
    refine lv_aload_n hx hb dX12_revises_130 rfl (lv_at hl 0 rfl) ?_
    refine lv_iload_n hx hb dX12_revises_131 rfl (lv_at hl 1 rfl) ?_
    refine lv_iconst (v := 1) hx hb dX12_revises_132 (by decide) ?_
    obtain ⟨r_16, hc_15, hp⟩ := bn1_s hp
    refine k_ROV (As := [.int x1, .int 1]) (rest := []) ⟨hx, hb, hml, hown, hts⟩ hK hP (cw_X12_128 hts ⟨Nat.le_of_ble_eq_true rfl, Nat.le_of_ble_eq_true rfl⟩) 0 (ci := 12) rfl rfl rfl (c_X12_of l D cy qmo mo x1 1 r_16 hc_15) rfl hl.1 (Nat.le_of_ble_eq_true rfl) ⟨Nat.le_refl _, Nat.le_refl _⟩ dX12_revises_133 ?_
    refine lv_aload_n hx hb dX12_revises_136 rfl (lv_at hl 0 rfl) ?_
    refine lv_iload_n hx hb dX12_revises_137 rfl (lv_at hl 1 rfl) ?_
    refine lv_iconst (v := 5) hx hb dX12_revises_138 (by decide) ?_
    obtain ⟨r_18, hc_17, hp⟩ := bn1_s hp
    refine k_ROV (As := [.int x1, .int 5]) (rest := [.int r_16]) ⟨hx, hb, hml, hown, hts⟩ hK hP (cw_X12_128 hts ⟨Nat.le_of_ble_eq_true rfl, Nat.le_of_ble_eq_true rfl⟩) 0 (ci := 12) rfl rfl rfl (c_X12_of l D cy qmo mo x1 5 r_18 hc_17) rfl hl.1 (Nat.le_of_ble_eq_true rfl) ⟨Nat.le_refl _, Nat.le_refl _⟩ dX12_revises_139 ?_
    refine lv_iadd hx hb dX12_revises_142 ?_
    refine lv_topi (fun x2_19 ex2_19 => ?_)
    have hp := stk_e hp ex2_19
    refine lv_istore_n (lv' := [(2, .int x2_19), (0, .ref (qmo 0)), (1, .int x1)]) hx hb dX12_revises_143 rfl hl (by decide) rfl (fun ls hl => ?_)
    refine lv_aload_n hx hb dX12_revises_144 rfl (lv_at hl 1 rfl) ?_
    refine lv_iload_n hx hb dX12_revises_145 rfl (lv_at hl 0 rfl) ?_
    refine lv_aload_n hx hb dX12_revises_146 rfl (lv_at hl 1 rfl) ?_
    refine gf_X12_7 hx hb hts hown hK hP 0 rfl rfl dX12_revises_147 ?_
    refine lv_sipush (v := 172) hx hb dX12_revises_150 (by decide) ?_
    obtain ⟨hi_20, hp⟩ := ckI_s hp
    refine r_ild hx hb hK hP 1 rfl hi_20 dX12_revises_153 ?_
    refine lv_iconst (v := 1) hx hb dX12_revises_154 (by decide) ?_
    refine lv_iadd hx hb dX12_revises_155 ?_
    obtain ⟨r_22, hc_21, hp⟩ := bn1_s hp
    refine k_ROS (As := [.int x2_19, .int ((mo 0 (172 : Int32).toNatClampNeg) + 1)]) (rest := [.ref (qmo 0)]) ⟨hx, hb, hml, hown, hts⟩ hK (show va_P D vwCl [] _ from fun k q h => by simp at h) (cw_X12_141 hts ⟨Nat.le_of_ble_eq_true rfl, Nat.le_of_ble_eq_true rfl⟩) (c_X12_more l D cy x2_19 ((mo 0 (172 : Int32).toNatClampNeg) + 1) r_22 hc_21) rfl hl.1 (Nat.le_of_ble_eq_true rfl) ⟨Nat.le_refl _, Nat.le_refl _⟩ dX12_revises_156 ?_
    obtain ⟨r_24, mo_25, hc_23, hp⟩ := bn2_s hp
    refine k_RIV (As := [.int r_22]) (rest := []) ⟨hx, hb, hml, hown, hts⟩ hK hP hD hS hA FrS_rf (cw_X12_171 hts ⟨Nat.le_of_ble_eq_true rfl, Nat.le_of_ble_eq_true rfl⟩) 0 (ci := 12) rfl rfl rfl (c_X12_takesFrom l D cy qmo mo r_22 r_24 mo_25 hc_23) rfl hl.1 (Nat.le_of_ble_eq_true rfl) ⟨Nat.le_refl _, Nat.le_refl _⟩ dX12_revises_159 (fun H locs hP hD hS => ?_)
    refine lv_istore_n (lv' := [(3, .int r_24), (2, .int x2_19), (0, .ref (qmo 0)), (1, .int x1)]) hx hb dX12_revises_162 rfl hl (by decide) rfl (fun ls hl => ?_)
    refine lv_aload_n hx hb dX12_revises_163 rfl (lv_at hl 2 rfl) ?_
    refine lv_iload_n hx hb dX12_revises_164 rfl (lv_at hl 3 rfl) ?_
    refine lv_iconst (v := 4) hx hb dX12_revises_165 (by decide) ?_
    refine lv_iload_n hx hb dX12_revises_166 rfl (lv_at hl 0 rfl) ?_
    obtain ⟨mo_27, hc_26, hp⟩ := bn1_s hp
    refine k_RVV (As := [.int x1, .int 4, .int r_24]) (rest := []) ⟨hx, hb, hml, hown, hts⟩ hK hP hD hS hA FrS_rf (cw_X12_90 hts ⟨Nat.le_of_ble_eq_true rfl, Nat.le_of_ble_eq_true rfl⟩) 0 (ci := 12) rfl rfl rfl (c_X12_sets l D cy qmo mo_25 x1 4 r_24 mo_27 hc_26) rfl hl.1 (Nat.le_of_ble_eq_true rfl) ⟨Nat.le_refl _, Nat.le_refl _⟩ dX12_revises_167 (fun H locs hP hD hS => ?_)
    refine lv_aload_n hx hb dX12_revises_170 rfl (lv_at hl 2 rfl) ?_
    refine lv_iload_n hx hb dX12_revises_171 rfl (lv_at hl 3 rfl) ?_
    refine lv_bipush (v := 6) hx hb dX12_revises_172 (by decide) ?_
    refine lv_iload_n hx hb dX12_revises_174 rfl (lv_at hl 0 rfl) ?_
    refine lv_iload_n hx hb dX12_revises_175 rfl (lv_at hl 1 rfl) ?_
    refine lv_isub hx hb dX12_revises_176 ?_
    obtain ⟨mo_29, hc_28, hp⟩ := bn1_s hp
    refine k_RVV (As := [.int x1, .int 6, .int (r_24 - x2_19)]) (rest := []) ⟨hx, hb, hml, hown, hts⟩ hK hP hD hS hA FrS_rf (cw_X12_90 hts ⟨Nat.le_of_ble_eq_true rfl, Nat.le_of_ble_eq_true rfl⟩) 0 (ci := 12) rfl rfl rfl (c_X12_sets l D cy qmo mo_27 x1 6 (r_24 - x2_19) mo_29 hc_28) rfl hl.1 (Nat.le_of_ble_eq_true rfl) ⟨Nat.le_refl _, Nat.le_refl _⟩ dX12_revises_177 (fun H locs hP hD hS => ?_)
    refine lv_aload_n hx hb dX12_revises_180 rfl (lv_at hl 2 rfl) ?_
    refine gf_X12_27 hx hb hts hown hK hP 0 rfl rfl dX12_revises_181 ?_
    refine lv_iload_n hx hb dX12_revises_184 rfl (lv_at hl 3 rfl) ?_
    refine lv_iconst (v := 1) hx hb dX12_revises_185 (by decide) ?_
    obtain ⟨hi_30, hp⟩ := ckI_s hp
    obtain ⟨mo_31, emo_31⟩ : ∃ y : Mem, y = upm mo_29 14 x1.toNatClampNeg (vp_nar .boolean 1) := ⟨_, rfl⟩
    have hp := stk_e hp emo_31
    refine r_zst hx hb hK hP hD hS (wn := (w_Mo cy qmo mo_31)) 6 rfl hi_30 (by subst emo_31; rfl) dX12_revises_186 (fun H locs hP hD hS => ?_)
    refine lv_aload_n hx hb dX12_revises_187 rfl (lv_at hl 2 rfl) ?_
    refine lv_iconst (v := 2) hx hb dX12_revises_188 (by decide) ?_
    refine lv_iconst (v := 3) hx hb dX12_revises_189 (by decide) ?_
    refine lv_iconst (v := (-1)) hx hb dX12_revises_190 (by decide) ?_
    obtain ⟨r_33, hc_32, hp⟩ := bn1_s hp
    refine k_ROV (As := [.int 2, .int 3, .int (-1)]) (rest := []) ⟨hx, hb, hml, hown, hts⟩ hK hP (cw_X12_178 hts ⟨Nat.le_of_ble_eq_true rfl, Nat.le_of_ble_eq_true rfl⟩) 0 (ci := 12) rfl rfl rfl (c_X12_firstOf l D cy qmo mo_31 2 3 (-1) r_33 hc_32) rfl hl.1 (Nat.le_of_ble_eq_true rfl) ⟨Nat.le_refl _, Nat.le_refl _⟩ dX12_revises_191 ?_
    refine lv_istore_n (lv' := [(1, .int r_33), (3, .int r_24), (2, .int x2_19), (0, .ref (qmo 0))]) hx hb dX12_revises_194 rfl hl (by decide) rfl (fun ls hl => ?_)
    refine lv_goto (tgt := 125) hx hb dX12_revises_195 (by decide) ?_
    exact hk125 mo_31 r_33 _ _ _ hP hD hS (lv_sub hl [3, 0] rfl) hp
theorem Mo_revises_b125_w (C0 : cX RX12 cX12_revises none 4 p s m args meth c) (hK : kN D cy s) {qmo : Nat → Nat} {mo' : Mem} (hA : ∀ q, s.heap.size ≤ q → A q) : ∀ (n : Nat) (mo : Mem) (x1 : Int32) (H : Heap) (locs : List Loc) (ls : Array Slot), va_P D vwCl (w_Mo cy qmo mo) H → va_D A (w_Mo cy qmo mo) → va_S A s.heap H locs → lv_has ls 4 [(0, .ref (qmo 0)), (1, .int x1)] → Mo_revises_b125  n mo x1 = some mo' → W p l e (rmD 4) s m args below meth c H locs 0 0 (qRV D below args s A (w_Mo cy qmo mo')) (F0 m 125 ls []) := by
  intro n
  induction n with
  | zero =>
    intro mo x1 H locs ls hP hD hS hl hp
    cases hp
  | succ n ih =>
    intro mo x1 H locs ls hP hD hS hl hp
    exact Mo_revises_b125B_w C0 hK hA  (fun mo x1 H locs ls hP hD hS hl hp => ih mo x1 H locs ls hP hD hS hl hp) hP hD hS hl hp
set_option maxHeartbeats 4000000 in
set_option maxRecDepth 100000 in
theorem Mo_revises_b63_w (C0 : cX RX12 cX12_revises none 4 p s m args meth c) (hK : kN D cy s) {qmo : Nat → Nat} {mo' : Mem} (hA : ∀ q, s.heap.size ≤ q → A q) {k6 : Mem → Int32 → Option (Mem)} (hk6 : ∀ (mo : Mem) (x1 : Int32) (H : Heap) (locs : List Loc) (ls : Array Slot), va_P D vwCl (w_Mo cy qmo mo) H → va_D A (w_Mo cy qmo mo) → va_S A s.heap H locs → lv_has ls 4 [(0, .ref (qmo 0)), (1, .int x1)] → k6 mo x1 = some mo' → W p l e (rmD 4) s m args below meth c H locs 0 0 (qRV D below args s A (w_Mo cy qmo mo')) (F0 m 6 ls [])) {mo : Mem} {x1 : Int32} {y0 : Int32} {y1 : Int32} {H : Heap} {locs : List Loc} (hP : va_P D vwCl (w_Mo cy qmo mo) H) (hD : va_D A (w_Mo cy qmo mo)) (hS : va_S A s.heap H locs) {ls : Array Slot} (hl : lv_has ls 4 [(0, .ref (qmo 0)), (1, .int x1)]) (hp : Mo_revises_b63 k6 mo x1 y0 y1 = some mo') : W p l e (rmD 4) s m args below meth c H locs 0 0 (qRV D below args s A (w_Mo cy qmo mo')) (F0 m 63 ls [.int y1, .int y0, .ref (qmo 15)]) := by
  obtain ⟨hx, hb, hr, hml, hown, hts, hk⟩ := id C0
  unfold Mo_revises_b63 at hp
  obtain ⟨hi_46, hp⟩ := ckI_s hp
  obtain ⟨mo_47, emo_47⟩ : ∃ y : Mem, y = upm mo 14 y0.toNatClampNeg (vp_nar .boolean y1) := ⟨_, rfl⟩
  have hp := stk_e hp emo_47
  refine r_zst hx hb hK hP hD hS (wn := (w_Mo cy qmo mo_47)) 6 rfl hi_46 (by subst emo_47; rfl) dX12_revises_63 (fun H locs hP hD hS => ?_)
  refine lv_aload_n hx hb dX12_revises_64 rfl (lv_at hl 0 rfl) ?_
  refine lv_iload_n hx hb dX12_revises_65 rfl (lv_at hl 1 rfl) ?_
  obtain ⟨r_49, hc_48, hp⟩ := bn1_s hp
  refine k_ROV (As := [.int x1]) (rest := []) ⟨hx, hb, hml, hown, hts⟩ hK hP (cw_X12_150 hts ⟨Nat.le_of_ble_eq_true rfl, Nat.le_of_ble_eq_true rfl⟩) 0 (ci := 12) rfl rfl rfl (c_X12_isAir l D cy qmo mo_47 x1 r_49 hc_48) rfl hl.1 (Nat.le_of_ble_eq_true rfl) ⟨Nat.le_refl _, Nat.le_refl _⟩ dX12_revises_66 ?_
  refine lv_if_eq (tgt := 111) hx hb dX12_revises_69 (by decide) (fun c_50 => ?_) (fun c_50 => ?_)
  · have hp := ite_p hp c_50
    obtain ⟨x1_51, ex1_51⟩ : ∃ y : Int32, y = x1 + 1 := ⟨_, rfl⟩
    have hp := stk_e hp ex1_51
    refine lv_iinc (v := x1_51) (lv' := [(1, .int x1_51), (0, .ref (qmo 0))]) hx hb dX12_revises_111 hl (k := 1) rfl (by rw [ex1_51]; rfl) (by decide) rfl (fun ls hl => ?_)
    refine lv_goto (tgt := 6) hx hb dX12_revises_114 (by decide) ?_
    exact hk6 mo_47 x1_51 _ _ _ hP hD hS (lv_sub hl [1, 0] rfl) hp
  · have hp := ite_n hp c_50
    refine lv_aload_n hx hb dX12_revises_72 rfl (lv_at hl 0 rfl) ?_
    refine lv_iload_n hx hb dX12_revises_73 rfl (lv_at hl 1 rfl) ?_
    refine lv_iconst (v := 4) hx hb dX12_revises_74 (by decide) ?_
    obtain ⟨r_53, hc_52, hp⟩ := bn1_s hp
    refine k_ROV (As := [.int x1, .int 4]) (rest := []) ⟨hx, hb, hml, hown, hts⟩ hK hP (cw_X12_128 hts ⟨Nat.le_of_ble_eq_true rfl, Nat.le_of_ble_eq_true rfl⟩) 0 (ci := 12) rfl rfl rfl (c_X12_of l D cy qmo mo_47 x1 4 r_53 hc_52) rfl hl.1 (Nat.le_of_ble_eq_true rfl) ⟨Nat.le_refl _, Nat.le_refl _⟩ dX12_revises_75 ?_
    refine lv_aload_n hx hb dX12_revises_78 rfl (lv_at hl 0 rfl) ?_
    refine gf_X12_7 hx hb hts hown hK hP 0 rfl rfl dX12_revises_79 ?_
    refine lv_sipush (v := 172) hx hb dX12_revises_82 (by decide) ?_
    obtain ⟨hi_54, hp⟩ := ckI_s hp
    refine r_ild hx hb hK hP 1 rfl hi_54 dX12_revises_85 ?_
    refine lv_icmp_le (tgt := 92) hx hb dX12_revises_86 (by decide) (fun c_55 => ?_) (fun c_55 => ?_)
    · have hp := ite_p hp c_55
      refine lv_aload_n hx hb dX12_revises_92 rfl (lv_at hl 0 rfl) ?_
      refine gf_X12_27 hx hb hts hown hK hP 0 rfl rfl dX12_revises_93 ?_
      refine lv_iload_n hx hb dX12_revises_96 rfl (lv_at hl 1 rfl) ?_
      refine lv_iconst (v := 1) hx hb dX12_revises_97 (by decide) ?_
      obtain ⟨hi_56, hp⟩ := ckI_s hp
      obtain ⟨mo_57, emo_57⟩ : ∃ y : Mem, y = upm mo_47 14 x1.toNatClampNeg (vp_nar .boolean 1) := ⟨_, rfl⟩
      have hp := stk_e hp emo_57
      refine r_zst hx hb hK hP hD hS (wn := (w_Mo cy qmo mo_57)) 6 rfl hi_56 (by subst emo_57; rfl) dX12_revises_98 (fun H locs hP hD hS => ?_)
      refine lv_aload_n hx hb dX12_revises_99 rfl (lv_at hl 0 rfl) ?_
      refine gf_X12_23 hx hb hts hown hK hP 0 rfl rfl dX12_revises_100 ?_
      refine lv_aload_n hx hb dX12_revises_103 rfl (lv_at hl 0 rfl) ?_
      refine lv_iload_n hx hb dX12_revises_104 rfl (lv_at hl 1 rfl) ?_
      refine lv_iconst (v := 4) hx hb dX12_revises_105 (by decide) ?_
      obtain ⟨r_59, hc_58, hp⟩ := bn1_s hp
      refine k_ROV (As := [.int x1, .int 4]) (rest := [.ref (qmo 14)]) ⟨hx, hb, hml, hown, hts⟩ hK hP (cw_X12_128 hts ⟨Nat.le_of_ble_eq_true rfl, Nat.le_of_ble_eq_true rfl⟩) 0 (ci := 12) rfl rfl rfl (c_X12_of l D cy qmo mo_57 x1 4 r_59 hc_58) rfl hl.1 (Nat.le_of_ble_eq_true rfl) ⟨Nat.le_refl _, Nat.le_refl _⟩ dX12_revises_106 ?_
      refine lv_iconst (v := 1) hx hb dX12_revises_109 (by decide) ?_
      obtain ⟨hi_60, hp⟩ := ckI_s hp
      obtain ⟨mo_61, emo_61⟩ : ∃ y : Mem, y = upm mo_57 13 r_59.toNatClampNeg (vp_nar .boolean 1) := ⟨_, rfl⟩
      have hp := stk_e hp emo_61
      refine r_zst hx hb hK hP hD hS (wn := (w_Mo cy qmo mo_61)) 5 rfl hi_60 (by subst emo_61; rfl) dX12_revises_110 (fun H locs hP hD hS => ?_)
      obtain ⟨x1_62, ex1_62⟩ : ∃ y : Int32, y = x1 + 1 := ⟨_, rfl⟩
      have hp := stk_e hp ex1_62
      refine lv_iinc (v := x1_62) (lv' := [(1, .int x1_62), (0, .ref (qmo 0))]) hx hb dX12_revises_111 hl (k := 1) rfl (by rw [ex1_62]; rfl) (by decide) rfl (fun ls hl => ?_)
      refine lv_goto (tgt := 6) hx hb dX12_revises_114 (by decide) ?_
      exact hk6 mo_61 x1_62 _ _ _ hP hD hS (lv_sub hl [1, 0] rfl) hp
    · have hp := ite_n hp c_55
      refine lv_goto (tgt := 111) hx hb dX12_revises_89 (by decide) ?_
      obtain ⟨x1_63, ex1_63⟩ : ∃ y : Int32, y = x1 + 1 := ⟨_, rfl⟩
      have hp := stk_e hp ex1_63
      refine lv_iinc (v := x1_63) (lv' := [(1, .int x1_63), (0, .ref (qmo 0))]) hx hb dX12_revises_111 hl (k := 1) rfl (by rw [ex1_63]; rfl) (by decide) rfl (fun ls hl => ?_)
      refine lv_goto (tgt := 6) hx hb dX12_revises_114 (by decide) ?_
      exact hk6 mo_47 x1_63 _ _ _ hP hD hS (lv_sub hl [1, 0] rfl) hp
set_option maxHeartbeats 4000000 in
set_option maxRecDepth 100000 in
theorem Mo_revises_b41_w (C0 : cX RX12 cX12_revises none 4 p s m args meth c) (hK : kN D cy s) {qmo : Nat → Nat} {mo' : Mem} (hA : ∀ q, s.heap.size ≤ q → A q) {k6 : Mem → Int32 → Option (Mem)} (hk6 : ∀ (mo : Mem) (x1 : Int32) (H : Heap) (locs : List Loc) (ls : Array Slot), va_P D vwCl (w_Mo cy qmo mo) H → va_D A (w_Mo cy qmo mo) → va_S A s.heap H locs → lv_has ls 4 [(0, .ref (qmo 0)), (1, .int x1)] → k6 mo x1 = some mo' → W p l e (rmD 4) s m args below meth c H locs 0 0 (qRV D below args s A (w_Mo cy qmo mo')) (F0 m 6 ls [])) {mo : Mem} {x1 : Int32} {y0 : Int32} {y1 : Int32} {H : Heap} {locs : List Loc} (hP : va_P D vwCl (w_Mo cy qmo mo) H) (hD : va_D A (w_Mo cy qmo mo)) (hS : va_S A s.heap H locs) {ls : Array Slot} (hl : lv_has ls 4 [(0, .ref (qmo 0)), (1, .int x1)]) (hp : Mo_revises_b41 k6 mo x1 y0 y1 = some mo') : W p l e (rmD 4) s m args below meth c H locs 0 0 (qRV D below args s A (w_Mo cy qmo mo')) (F0 m 41 ls [.int y1, .int y0, .ref (qmo 16)]) := by
  obtain ⟨hx, hb, hr, hml, hown, hts, hk⟩ := id C0
  unfold Mo_revises_b41 at hp
  obtain ⟨hi_34, hp⟩ := ckI_s hp
  obtain ⟨mo_35, emo_35⟩ : ∃ y : Mem, y = upm mo 15 y0.toNatClampNeg y1 := ⟨_, rfl⟩
  have hp := stk_e hp emo_35
  refine r_ist hx hb hK hP hD hS (wn := (w_Mo cy qmo mo_35)) 7 rfl hi_34 (by subst emo_35; rfl) dX12_revises_41 (fun H locs hP hD hS => ?_)
  refine lv_aload_n hx hb dX12_revises_42 rfl (lv_at hl 0 rfl) ?_
  refine gf_X12_27 hx hb hts hown hK hP 0 rfl rfl dX12_revises_43 ?_
  refine lv_iload_n hx hb dX12_revises_46 rfl (lv_at hl 1 rfl) ?_
  refine lv_aload_n hx hb dX12_revises_47 rfl (lv_at hl 0 rfl) ?_
  refine lv_iload_n hx hb dX12_revises_48 rfl (lv_at hl 1 rfl) ?_
  refine lv_bipush (v := 7) hx hb dX12_revises_49 (by decide) ?_
  obtain ⟨r_37, hc_36, hp⟩ := bn1_s hp
  refine k_ROV (As := [.int x1, .int 7]) (rest := [.int x1, .ref (qmo 15)]) ⟨hx, hb, hml, hown, hts⟩ hK hP (cw_X12_128 hts ⟨Nat.le_of_ble_eq_true rfl, Nat.le_of_ble_eq_true rfl⟩) 0 (ci := 12) rfl rfl rfl (c_X12_of l D cy qmo mo_35 x1 7 r_37 hc_36) rfl hl.1 (Nat.le_of_ble_eq_true rfl) ⟨Nat.le_refl _, Nat.le_refl _⟩ dX12_revises_51 ?_
  refine lv_iconst (v := 1) hx hb dX12_revises_54 (by decide) ?_
  refine lv_icmp_ne (tgt := 62) hx hb dX12_revises_55 (by decide) (fun c_38 => ?_) (fun c_38 => ?_)
  · have hp := ite_n hp c_38
    refine lv_iconst (v := 0) hx hb dX12_revises_62 (by decide) ?_
    exact Mo_revises_b63_w C0 hK hA hk6 hP hD hS hl hp
  · have hp := ite_p hp c_38
    refine lv_iconst (v := 1) hx hb dX12_revises_58 (by decide) ?_
    refine lv_goto (tgt := 63) hx hb dX12_revises_59 (by decide) ?_
    exact Mo_revises_b63_w C0 hK hA hk6 hP hD hS hl hp
set_option maxHeartbeats 4000000 in
set_option maxRecDepth 100000 in
theorem Mo_revises_b6B_w (C0 : cX RX12 cX12_revises none 4 p s m args meth c) (hK : kN D cy s) {qmo : Nat → Nat} {mo' : Mem} (hA : ∀ q, s.heap.size ≤ q → A q) {k6 : Mem → Int32 → Option (Mem)} (hk6 : ∀ (mo : Mem) (x1 : Int32) (H : Heap) (locs : List Loc) (ls : Array Slot), va_P D vwCl (w_Mo cy qmo mo) H → va_D A (w_Mo cy qmo mo) → va_S A s.heap H locs → lv_has ls 4 [(0, .ref (qmo 0)), (1, .int x1)] → k6 mo x1 = some mo' → W p l e (rmD 4) s m args below meth c H locs 0 0 (qRV D below args s A (w_Mo cy qmo mo')) (F0 m 6 ls [])) {mo : Mem} {x1 : Int32} {H : Heap} {locs : List Loc} (hP : va_P D vwCl (w_Mo cy qmo mo) H) (hD : va_D A (w_Mo cy qmo mo)) (hS : va_S A s.heap H locs) {ls : Array Slot} (hl : lv_has ls 4 [(0, .ref (qmo 0)), (1, .int x1)]) (hp : Mo_revises_b6B k6 mo x1 = some mo') : W p l e (rmD 4) s m args below meth c H locs 0 0 (qRV D below args s A (w_Mo cy qmo mo')) (F0 m 6 ls []) := by
  obtain ⟨hx, hb, hr, hml, hown, hts, hk⟩ := id C0
  unfold Mo_revises_b6B at hp
  refine lv_iload_n hx hb dX12_revises_6 rfl (lv_at hl 1 rfl) ?_
  refine lv_aload_n hx hb dX12_revises_7 rfl (lv_at hl 0 rfl) ?_
  refine gf_X12_7 hx hb hts hown hK hP 0 rfl rfl dX12_revises_8 ?_
  refine lv_sipush (v := 173) hx hb dX12_revises_11 (by decide) ?_
  obtain ⟨hi_3, hp⟩ := ckI_s hp
  refine r_ild hx hb hK hP 1 rfl hi_3 dX12_revises_14 ?_
  refine lv_icmp_ge (tgt := 117) hx hb dX12_revises_15 (by decide) (fun c_4 => ?_) (fun c_4 => ?_)
  · have hp := ite_p hp c_4
    refine lv_aload_n hx hb dX12_revises_117 rfl (lv_at hl 0 rfl) ?_
    refine lv_iconst (v := 2) hx hb dX12_revises_118 (by decide) ?_
    refine lv_iconst (v := 3) hx hb dX12_revises_119 (by decide) ?_
    refine lv_iconst (v := (-1)) hx hb dX12_revises_120 (by decide) ?_
    obtain ⟨r_6, hc_5, hp⟩ := bn1_s hp
    refine k_ROV (As := [.int 2, .int 3, .int (-1)]) (rest := []) ⟨hx, hb, hml, hown, hts⟩ hK hP (cw_X12_178 hts ⟨Nat.le_of_ble_eq_true rfl, Nat.le_of_ble_eq_true rfl⟩) 0 (ci := 12) rfl rfl rfl (c_X12_firstOf l D cy qmo mo 2 3 (-1) r_6 hc_5) rfl hl.1 (Nat.le_of_ble_eq_true rfl) ⟨Nat.le_refl _, Nat.le_refl _⟩ dX12_revises_121 ?_
    refine lv_istore_n (lv' := [(1, .int r_6), (0, .ref (qmo 0))]) hx hb dX12_revises_124 rfl hl (by decide) rfl (fun ls hl => ?_)
    exact Mo_revises_b125_w C0 hK hA  fl mo r_6 _ _ _ hP hD hS (lv_sub hl [1, 0] rfl) hp
  · have hp := ite_n hp c_4
    refine lv_aload_n hx hb dX12_revises_18 rfl (lv_at hl 0 rfl) ?_
    refine gf_X12_30 hx hb hts hown hK hP 0 rfl rfl dX12_revises_19 ?_
    refine lv_iload_n hx hb dX12_revises_22 rfl (lv_at hl 1 rfl) ?_
    refine lv_aload_n hx hb dX12_revises_23 rfl (lv_at hl 0 rfl) ?_
    refine lv_iload_n hx hb dX12_revises_24 rfl (lv_at hl 1 rfl) ?_
    obtain ⟨r_8, hc_7, hp⟩ := bn1_s hp
    refine k_ROV (As := [.int x1]) (rest := [.int x1, .ref (qmo 16)]) ⟨hx, hb, hml, hown, hts⟩ hK hP (cw_X12_144 hts ⟨Nat.le_of_ble_eq_true rfl, Nat.le_of_ble_eq_true rfl⟩) 0 (ci := 12) rfl rfl rfl (c_X12_isPlanned l D cy qmo mo x1 r_8 hc_7) rfl hl.1 (Nat.le_of_ble_eq_true rfl) ⟨Nat.le_refl _, Nat.le_refl _⟩ dX12_revises_25 ?_
    refine lv_if_eq (tgt := 40) hx hb dX12_revises_28 (by decide) (fun c_9 => ?_) (fun c_9 => ?_)
    · have hp := ite_p hp c_9
      refine lv_iconst (v := (-1)) hx hb dX12_revises_40 (by decide) ?_
      exact Mo_revises_b41_w C0 hK hA hk6 hP hD hS hl hp
    · have hp := ite_n hp c_9
      refine lv_aload_n hx hb dX12_revises_31 rfl (lv_at hl 0 rfl) ?_
      refine lv_iload_n hx hb dX12_revises_32 rfl (lv_at hl 1 rfl) ?_
      refine lv_iconst (v := 4) hx hb dX12_revises_33 (by decide) ?_
      obtain ⟨r_11, hc_10, hp⟩ := bn1_s hp
      refine k_ROV (As := [.int x1, .int 4]) (rest := [.int x1, .ref (qmo 16)]) ⟨hx, hb, hml, hown, hts⟩ hK hP (cw_X12_128 hts ⟨Nat.le_of_ble_eq_true rfl, Nat.le_of_ble_eq_true rfl⟩) 0 (ci := 12) rfl rfl rfl (c_X12_of l D cy qmo mo x1 4 r_11 hc_10) rfl hl.1 (Nat.le_of_ble_eq_true rfl) ⟨Nat.le_refl _, Nat.le_refl _⟩ dX12_revises_34 ?_
      refine lv_goto (tgt := 41) hx hb dX12_revises_37 (by decide) ?_
      exact Mo_revises_b41_w C0 hK hA hk6 hP hD hS hl hp
theorem Mo_revises_b6_w (C0 : cX RX12 cX12_revises none 4 p s m args meth c) (hK : kN D cy s) {qmo : Nat → Nat} {mo' : Mem} (hA : ∀ q, s.heap.size ≤ q → A q) : ∀ (n : Nat) (mo : Mem) (x1 : Int32) (H : Heap) (locs : List Loc) (ls : Array Slot), va_P D vwCl (w_Mo cy qmo mo) H → va_D A (w_Mo cy qmo mo) → va_S A s.heap H locs → lv_has ls 4 [(0, .ref (qmo 0)), (1, .int x1)] → Mo_revises_b6  n mo x1 = some mo' → W p l e (rmD 4) s m args below meth c H locs 0 0 (qRV D below args s A (w_Mo cy qmo mo')) (F0 m 6 ls []) := by
  intro n
  induction n with
  | zero =>
    intro mo x1 H locs ls hP hD hS hl hp
    cases hp
  | succ n ih =>
    intro mo x1 H locs ls hP hD hS hl hp
    exact Mo_revises_b6B_w C0 hK hA  (fun mo x1 H locs ls hP hD hS hl hp => ih mo x1 H locs ls hP hD hS hl hp) hP hD hS hl hp
set_option maxHeartbeats 4000000 in
set_option maxRecDepth 100000 in
theorem c_X12_revises (l : Launch) (D : va_G) (cy : Nat → ClassId) (qmo : Nat → Nat) (mo : Mem) (mo' : Mem) (hp : Mo_revises mo = some mo') : RV l yX12_revises cX12_revises 4 4 D cy [.ref (qmo 0)] (w_Mo cy qmo mo) (w_Mo cy qmo mo') := by
  refine RV_of RX12 rfl (by decide) (Nat.le_of_ble_eq_true rfl) ?_
  intro p e s m below meth c A C0 hK hP hD hS hA ls hl
  obtain ⟨hx, hb, hr, hml, hown, hts, hk⟩ := id C0
  unfold Mo_revises at hp
  have hl : lv_has ls 4 [(0, .ref (qmo 0))] := hl
  refine lv_aload_n hx hb dX12_revises_0 rfl (lv_at hl 0 rfl) ?_
  obtain ⟨mo_2, hc_1, hp⟩ := bn1_s hp
  refine k_RVV (As := []) (rest := []) ⟨hx, hb, hml, hown, hts⟩ hK hP hD hS hA FrS_rf (cw_X12_185 hts ⟨Nat.le_of_ble_eq_true rfl, Nat.le_of_ble_eq_true rfl⟩) 0 (ci := 12) rfl rfl rfl (c_X12_beginsPlan l D cy qmo mo mo_2 hc_1) rfl hl.1 (Nat.le_of_ble_eq_true rfl) ⟨Nat.le_refl _, Nat.le_refl _⟩ dX12_revises_1 (fun H locs hP hD hS => ?_)
  refine lv_iconst (v := 0) hx hb dX12_revises_4 (by decide) ?_
  refine lv_istore_n (lv' := [(1, .int 0), (0, .ref (qmo 0))]) hx hb dX12_revises_5 rfl hl (by decide) rfl (fun ls hl => ?_)
  exact Mo_revises_b6_w C0 hK hA  fl mo_2 0 _ _ _ hP hD hS (lv_sub hl [1, 0] rfl) hp
/-! StormSlotsModel.revise()I -/
def Mo_revise_b22B (k22 : Mem → Int32 → Int32 → Option (Int32 × Mem)) (mo : Mem) (x1 : Int32) (x2 : Int32) : Option (Int32 × Mem) :=
  ckI 173 1452 (if (mo 0 (173 : Int32).toNatClampNeg) ≤ x2 then some (x1, mo) else bn1 (Mo_isPlanned mo x2) (fun r_8 => if r_8 = 0 then stk (x1 + 0) (fun x1_10 => stk (x2 + 1) (fun x2_11 => k22 mo x1_10 x2_11)) else bn1 (Mo_of mo x2 4) (fun r_13 => ckI x2 20 (if r_13 = (mo 15 x2.toNatClampNeg) then stk (x1 + 0) (fun x1_16 => stk (x2 + 1) (fun x2_17 => k22 mo x1_16 x2_17)) else stk (x1 + 1) (fun x1_18 => stk (x2 + 1) (fun x2_19 => k22 mo x1_18 x2_19))))))
def Mo_revise_b22 : Nat → Mem → Int32 → Int32 → Option (Int32 × Mem)
  | 0 => fun _ _ _ => none
  | n + 1 => Mo_revise_b22B  (Mo_revise_b22  n)
def Mo_revise (mo : Mem) : Option (Int32 × Mem) :=
  ckI 174 1452 (if (mo 0 (174 : Int32).toNatClampNeg) = 0 then some ((-2), mo) else bn1 (Mo_revises mo) (fun mo_4 => Mo_revise_b22 fl mo_4 0 0))
set_option maxHeartbeats 4000000 in
set_option maxRecDepth 100000 in
theorem Mo_revise_b22B_w (C0 : cX RX12 cX12_revise (some .int) 3 p s m args meth c) (hK : kN D cy s) {qmo : Nat → Nat} {r : Int32} {mo' : Mem} (hA : ∀ q, s.heap.size ≤ q → A q) {k22 : Mem → Int32 → Int32 → Option (Int32 × Mem)} (hk22 : ∀ (mo : Mem) (x1 x2 : Int32) (H : Heap) (locs : List Loc) (ls : Array Slot), va_P D vwCl (w_Mo cy qmo mo) H → va_D A (w_Mo cy qmo mo) → va_S A s.heap H locs → lv_has ls 3 [(0, .ref (qmo 0)), (1, .int x1), (2, .int x2)] → k22 mo x1 x2 = some (r, mo') → W p l e (rmD 5) s m args below meth c H locs 0 0 (qRI D below args s A (w_Mo cy qmo mo') r) (F0 m 22 ls [])) {mo : Mem} {x1 : Int32} {x2 : Int32} {H : Heap} {locs : List Loc} (hP : va_P D vwCl (w_Mo cy qmo mo) H) (hD : va_D A (w_Mo cy qmo mo)) (hS : va_S A s.heap H locs) {ls : Array Slot} (hl : lv_has ls 3 [(0, .ref (qmo 0)), (1, .int x1), (2, .int x2)]) (hp : Mo_revise_b22B k22 mo x1 x2 = some (r, mo')) : W p l e (rmD 5) s m args below meth c H locs 0 0 (qRI D below args s A (w_Mo cy qmo mo') r) (F0 m 22 ls []) := by
  obtain ⟨hx, hb, hr, hml, hown, hts, hk⟩ := id C0
  unfold Mo_revise_b22B at hp
  refine lv_iload_n hx hb dX12_revise_22 rfl (lv_at hl 2 rfl) ?_
  refine lv_aload_n hx hb dX12_revise_23 rfl (lv_at hl 0 rfl) ?_
  refine gf_X12_7 hx hb hts hown hK hP 0 rfl rfl dX12_revise_24 ?_
  refine lv_sipush (v := 173) hx hb dX12_revise_27 (by decide) ?_
  obtain ⟨hi_5, hp⟩ := ckI_s hp
  refine r_ild hx hb hK hP 1 rfl hi_5 dX12_revise_30 ?_
  refine lv_icmp_ge (tgt := 71) hx hb dX12_revise_31 (by decide) (fun c_6 => ?_) (fun c_6 => ?_)
  · have hp := ite_p hp c_6
    refine lv_iload_n hx hb dX12_revise_71 rfl (lv_at hl 1 rfl) ?_
    simp only [Option.some.injEq, Prod.mk.injEq] at hp
    obtain ⟨h0, rfl⟩ := hp
    exact e_RIi hx hb hr hk hP hD hS dX12_revise_72 h0
  · have hp := ite_n hp c_6
    refine lv_iload_n hx hb dX12_revise_34 rfl (lv_at hl 1 rfl) ?_
    refine lv_aload_n hx hb dX12_revise_35 rfl (lv_at hl 0 rfl) ?_
    refine lv_iload_n hx hb dX12_revise_36 rfl (lv_at hl 2 rfl) ?_
    obtain ⟨r_8, hc_7, hp⟩ := bn1_s hp
    refine k_ROV (As := [.int x2]) (rest := [.int x1]) ⟨hx, hb, hml, hown, hts⟩ hK hP (cw_X12_144 hts ⟨Nat.le_of_ble_eq_true rfl, Nat.le_of_ble_eq_true rfl⟩) 0 (ci := 12) rfl rfl rfl (c_X12_isPlanned l D cy qmo mo x2 r_8 hc_7) rfl hl.1 (Nat.le_of_ble_eq_true rfl) ⟨Nat.le_refl _, Nat.le_refl _⟩ dX12_revise_37 ?_
    refine lv_if_eq (tgt := 62) hx hb dX12_revise_40 (by decide) (fun c_9 => ?_) (fun c_9 => ?_)
    · have hp := ite_p hp c_9
      refine lv_iconst (v := 0) hx hb dX12_revise_62 (by decide) ?_
      refine lv_iadd hx hb dX12_revise_63 ?_
      refine lv_topi (fun x1_10 ex1_10 => ?_)
      have hp := stk_e hp ex1_10
      refine lv_istore_n (lv' := [(1, .int x1_10), (0, .ref (qmo 0)), (2, .int x2)]) hx hb dX12_revise_64 rfl hl (by decide) rfl (fun ls hl => ?_)
      obtain ⟨x2_11, ex2_11⟩ : ∃ y : Int32, y = x2 + 1 := ⟨_, rfl⟩
      have hp := stk_e hp ex2_11
      refine lv_iinc (v := x2_11) (lv' := [(2, .int x2_11), (1, .int x1_10), (0, .ref (qmo 0))]) hx hb dX12_revise_65 hl (k := 2) rfl (by rw [ex2_11]; rfl) (by decide) rfl (fun ls hl => ?_)
      refine lv_goto (tgt := 22) hx hb dX12_revise_68 (by decide) ?_
      exact hk22 mo x1_10 x2_11 _ _ _ hP hD hS (lv_sub hl [2, 1, 0] rfl) hp
    · have hp := ite_n hp c_9
      refine lv_aload_n hx hb dX12_revise_43 rfl (lv_at hl 0 rfl) ?_
      refine lv_iload_n hx hb dX12_revise_44 rfl (lv_at hl 2 rfl) ?_
      refine lv_iconst (v := 4) hx hb dX12_revise_45 (by decide) ?_
      obtain ⟨r_13, hc_12, hp⟩ := bn1_s hp
      refine k_ROV (As := [.int x2, .int 4]) (rest := [.int x1]) ⟨hx, hb, hml, hown, hts⟩ hK hP (cw_X12_128 hts ⟨Nat.le_of_ble_eq_true rfl, Nat.le_of_ble_eq_true rfl⟩) 0 (ci := 12) rfl rfl rfl (c_X12_of l D cy qmo mo x2 4 r_13 hc_12) rfl hl.1 (Nat.le_of_ble_eq_true rfl) ⟨Nat.le_refl _, Nat.le_refl _⟩ dX12_revise_46 ?_
      refine lv_aload_n hx hb dX12_revise_49 rfl (lv_at hl 0 rfl) ?_
      refine gf_X12_30 hx hb hts hown hK hP 0 rfl rfl dX12_revise_50 ?_
      refine lv_iload_n hx hb dX12_revise_53 rfl (lv_at hl 2 rfl) ?_
      obtain ⟨hi_14, hp⟩ := ckI_s hp
      refine r_ild hx hb hK hP 7 rfl hi_14 dX12_revise_54 ?_
      refine lv_icmp_eq (tgt := 62) hx hb dX12_revise_55 (by decide) (fun c_15 => ?_) (fun c_15 => ?_)
      · have hp := ite_p hp c_15
        refine lv_iconst (v := 0) hx hb dX12_revise_62 (by decide) ?_
        refine lv_iadd hx hb dX12_revise_63 ?_
        refine lv_topi (fun x1_16 ex1_16 => ?_)
        have hp := stk_e hp ex1_16
        refine lv_istore_n (lv' := [(1, .int x1_16), (0, .ref (qmo 0)), (2, .int x2)]) hx hb dX12_revise_64 rfl hl (by decide) rfl (fun ls hl => ?_)
        obtain ⟨x2_17, ex2_17⟩ : ∃ y : Int32, y = x2 + 1 := ⟨_, rfl⟩
        have hp := stk_e hp ex2_17
        refine lv_iinc (v := x2_17) (lv' := [(2, .int x2_17), (1, .int x1_16), (0, .ref (qmo 0))]) hx hb dX12_revise_65 hl (k := 2) rfl (by rw [ex2_17]; rfl) (by decide) rfl (fun ls hl => ?_)
        refine lv_goto (tgt := 22) hx hb dX12_revise_68 (by decide) ?_
        exact hk22 mo x1_16 x2_17 _ _ _ hP hD hS (lv_sub hl [2, 1, 0] rfl) hp
      · have hp := ite_n hp c_15
        refine lv_iconst (v := 1) hx hb dX12_revise_58 (by decide) ?_
        refine lv_goto (tgt := 63) hx hb dX12_revise_59 (by decide) ?_
        refine lv_iadd hx hb dX12_revise_63 ?_
        refine lv_topi (fun x1_18 ex1_18 => ?_)
        have hp := stk_e hp ex1_18
        refine lv_istore_n (lv' := [(1, .int x1_18), (0, .ref (qmo 0)), (2, .int x2)]) hx hb dX12_revise_64 rfl hl (by decide) rfl (fun ls hl => ?_)
        obtain ⟨x2_19, ex2_19⟩ : ∃ y : Int32, y = x2 + 1 := ⟨_, rfl⟩
        have hp := stk_e hp ex2_19
        refine lv_iinc (v := x2_19) (lv' := [(2, .int x2_19), (1, .int x1_18), (0, .ref (qmo 0))]) hx hb dX12_revise_65 hl (k := 2) rfl (by rw [ex2_19]; rfl) (by decide) rfl (fun ls hl => ?_)
        refine lv_goto (tgt := 22) hx hb dX12_revise_68 (by decide) ?_
        exact hk22 mo x1_18 x2_19 _ _ _ hP hD hS (lv_sub hl [2, 1, 0] rfl) hp
theorem Mo_revise_b22_w (C0 : cX RX12 cX12_revise (some .int) 3 p s m args meth c) (hK : kN D cy s) {qmo : Nat → Nat} {r : Int32} {mo' : Mem} (hA : ∀ q, s.heap.size ≤ q → A q) : ∀ (n : Nat) (mo : Mem) (x1 x2 : Int32) (H : Heap) (locs : List Loc) (ls : Array Slot), va_P D vwCl (w_Mo cy qmo mo) H → va_D A (w_Mo cy qmo mo) → va_S A s.heap H locs → lv_has ls 3 [(0, .ref (qmo 0)), (1, .int x1), (2, .int x2)] → Mo_revise_b22  n mo x1 x2 = some (r, mo') → W p l e (rmD 5) s m args below meth c H locs 0 0 (qRI D below args s A (w_Mo cy qmo mo') r) (F0 m 22 ls []) := by
  intro n
  induction n with
  | zero =>
    intro mo x1 x2 H locs ls hP hD hS hl hp
    cases hp
  | succ n ih =>
    intro mo x1 x2 H locs ls hP hD hS hl hp
    exact Mo_revise_b22B_w C0 hK hA  (fun mo x1 x2 H locs ls hP hD hS hl hp => ih mo x1 x2 H locs ls hP hD hS hl hp) hP hD hS hl hp
set_option maxHeartbeats 4000000 in
set_option maxRecDepth 100000 in
theorem c_X12_revise (l : Launch) (D : va_G) (cy : Nat → ClassId) (qmo : Nat → Nat) (mo : Mem) (r : Int32) (mo' : Mem) (hp : Mo_revise mo = some (r, mo')) : RI l yX12_revise cX12_revise 3 (some .int) 5 D cy [.ref (qmo 0)] (w_Mo cy qmo mo) (w_Mo cy qmo mo') r := by
  refine RI_of RX12 rfl (by decide) (Nat.le_of_ble_eq_true rfl) ?_
  intro p e s m below meth c A C0 hK hP hD hS hA ls hl
  obtain ⟨hx, hb, hr, hml, hown, hts, hk⟩ := id C0
  unfold Mo_revise at hp
  have hl : lv_has ls 3 [(0, .ref (qmo 0))] := hl
  refine lv_aload_n hx hb dX12_revise_0 rfl (lv_at hl 0 rfl) ?_
  refine gf_X12_7 hx hb hts hown hK hP 0 rfl rfl dX12_revise_1 ?_
  refine lv_sipush (v := 174) hx hb dX12_revise_4 (by decide) ?_
  obtain ⟨hi_1, hp⟩ := ckI_s hp
  refine r_ild hx hb hK hP 1 rfl hi_1 dX12_revise_7 ?_
  refine lv_if_ne (tgt := 14) hx hb dX12_revise_8 (by decide) (fun c_2 => ?_) (fun c_2 => ?_)
  · have hp := ite_n hp c_2
    refine lv_aload_n hx hb dX12_revise_14 rfl (lv_at hl 0 rfl) ?_
    obtain ⟨mo_4, hc_3, hp⟩ := bn1_s hp
    refine k_RVV (As := []) (rest := []) ⟨hx, hb, hml, hown, hts⟩ hK hP hD hS hA FrS_rf (cw_X12_197 hts ⟨Nat.le_of_ble_eq_true rfl, Nat.le_of_ble_eq_true rfl⟩) 0 (ci := 12) rfl rfl rfl (c_X12_revises l D cy qmo mo mo_4 hc_3) rfl hl.1 (Nat.le_of_ble_eq_true rfl) ⟨Nat.le_refl _, Nat.le_refl _⟩ dX12_revise_15 (fun H locs hP hD hS => ?_)
    refine lv_iconst (v := 0) hx hb dX12_revise_18 (by decide) ?_
    refine lv_istore_n (lv' := [(1, .int 0), (0, .ref (qmo 0))]) hx hb dX12_revise_19 rfl hl (by decide) rfl (fun ls hl => ?_)
    refine lv_iconst (v := 0) hx hb dX12_revise_20 (by decide) ?_
    refine lv_istore_n (lv' := [(2, .int 0), (1, .int 0), (0, .ref (qmo 0))]) hx hb dX12_revise_21 rfl hl (by decide) rfl (fun ls hl => ?_)
    exact Mo_revise_b22_w C0 hK hA  fl mo_4 0 0 _ _ _ hP hD hS (lv_sub hl [2, 1, 0] rfl) hp
  · have hp := ite_p hp c_2
    refine lv_bipush (v := (-2)) hx hb dX12_revise_11 (by decide) ?_
    simp only [Option.some.injEq, Prod.mk.injEq] at hp
    obtain ⟨h0, rfl⟩ := hp
    exact e_RIi hx hb hr hk hP hD hS dX12_revise_13 h0
/-! StormSlotsModel.cancels(I)V -/
def Mo_cancels (mo : Mem) (p1 : Int32) : Option (Mem) :=
  bn1 (Mo_of mo p1 4) (fun r_2 => bn1 (Mo_of mo p1 0) (fun r_4 => ckI (252 + r_2) 1452 (stk (upm mo 0 (252 + r_2).toNatClampNeg (r_4 + 1)) (fun mo_6 => bn1 (Mo_sets mo_6 p1 7 1) (fun mo_8 => some mo_8)))))
set_option maxHeartbeats 4000000 in
set_option maxRecDepth 100000 in
theorem c_X12_cancels (l : Launch) (D : va_G) (cy : Nat → ClassId) (qmo : Nat → Nat) (mo : Mem) (p1 : Int32) (mo' : Mem) (hp : Mo_cancels mo p1 = some mo') : RV l yX12_cancels cX12_cancels 2 1 D cy [.ref (qmo 0), .int p1] (w_Mo cy qmo mo) (w_Mo cy qmo mo') := by
  refine RV_of RX12 rfl (by decide) (Nat.le_of_ble_eq_true rfl) ?_
  intro p e s m below meth c A C0 hK hP hD hS hA ls hl
  obtain ⟨hx, hb, hr, hml, hown, hts, hk⟩ := id C0
  unfold Mo_cancels at hp
  have hl : lv_has ls 2 [(0, .ref (qmo 0)), (1, .int p1)] := hl
  refine lv_aload_n hx hb dX12_cancels_0 rfl (lv_at hl 0 rfl) ?_
  refine gf_X12_7 hx hb hts hown hK hP 0 rfl rfl dX12_cancels_1 ?_
  refine lv_sipush (v := 252) hx hb dX12_cancels_4 (by decide) ?_
  refine lv_aload_n hx hb dX12_cancels_7 rfl (lv_at hl 0 rfl) ?_
  refine lv_iload_n hx hb dX12_cancels_8 rfl (lv_at hl 1 rfl) ?_
  refine lv_iconst (v := 4) hx hb dX12_cancels_9 (by decide) ?_
  obtain ⟨r_2, hc_1, hp⟩ := bn1_s hp
  refine k_ROV (As := [.int p1, .int 4]) (rest := [.int 252, .ref (qmo 1)]) ⟨hx, hb, hml, hown, hts⟩ hK hP (cw_X12_128 hts ⟨Nat.le_of_ble_eq_true rfl, Nat.le_of_ble_eq_true rfl⟩) 0 (ci := 12) rfl rfl rfl (c_X12_of l D cy qmo mo p1 4 r_2 hc_1) rfl hl.1 (Nat.le_of_ble_eq_true rfl) ⟨Nat.le_refl _, Nat.le_refl _⟩ dX12_cancels_10 ?_
  refine lv_iadd hx hb dX12_cancels_13 ?_
  refine lv_aload_n hx hb dX12_cancels_14 rfl (lv_at hl 0 rfl) ?_
  refine lv_iload_n hx hb dX12_cancels_15 rfl (lv_at hl 1 rfl) ?_
  refine lv_iconst (v := 0) hx hb dX12_cancels_16 (by decide) ?_
  obtain ⟨r_4, hc_3, hp⟩ := bn1_s hp
  refine k_ROV (As := [.int p1, .int 0]) (rest := [.int (252 + r_2), .ref (qmo 1)]) ⟨hx, hb, hml, hown, hts⟩ hK hP (cw_X12_128 hts ⟨Nat.le_of_ble_eq_true rfl, Nat.le_of_ble_eq_true rfl⟩) 0 (ci := 12) rfl rfl rfl (c_X12_of l D cy qmo mo p1 0 r_4 hc_3) rfl hl.1 (Nat.le_of_ble_eq_true rfl) ⟨Nat.le_refl _, Nat.le_refl _⟩ dX12_cancels_17 ?_
  refine lv_iconst (v := 1) hx hb dX12_cancels_20 (by decide) ?_
  refine lv_iadd hx hb dX12_cancels_21 ?_
  obtain ⟨hi_5, hp⟩ := ckI_s hp
  obtain ⟨mo_6, emo_6⟩ : ∃ y : Mem, y = upm mo 0 (252 + r_2).toNatClampNeg (r_4 + 1) := ⟨_, rfl⟩
  have hp := stk_e hp emo_6
  refine r_ist hx hb hK hP hD hS (wn := (w_Mo cy qmo mo_6)) 1 rfl hi_5 (by subst emo_6; rfl) dX12_cancels_22 (fun H locs hP hD hS => ?_)
  refine lv_aload_n hx hb dX12_cancels_23 rfl (lv_at hl 0 rfl) ?_
  refine lv_iload_n hx hb dX12_cancels_24 rfl (lv_at hl 1 rfl) ?_
  refine lv_bipush (v := 7) hx hb dX12_cancels_25 (by decide) ?_
  refine lv_iconst (v := 1) hx hb dX12_cancels_27 (by decide) ?_
  obtain ⟨mo_8, hc_7, hp⟩ := bn1_s hp
  refine k_RVV (As := [.int p1, .int 7, .int 1]) (rest := []) ⟨hx, hb, hml, hown, hts⟩ hK hP hD hS hA FrS_rf (cw_X12_90 hts ⟨Nat.le_of_ble_eq_true rfl, Nat.le_of_ble_eq_true rfl⟩) 0 (ci := 12) rfl rfl rfl (c_X12_sets l D cy qmo mo_6 p1 7 1 mo_8 hc_7) rfl hl.1 (Nat.le_of_ble_eq_true rfl) ⟨Nat.le_refl _, Nat.le_refl _⟩ dX12_cancels_28 (fun H locs hP hD hS => ?_)
  simp only [Option.some.injEq, Prod.mk.injEq] at hp
  subst hp
  exact e_RV hx hb hr hk hP hD hS dX12_cancels_31
/-! StormSlotsModel.cancel(I)I -/
def Mo_cancel (mo : Mem) (p1 : Int32) : Option (Int32 × Mem) :=
  bn1 (Mo_isFlight mo p1) (fun r_2 => if r_2 = 0 then some ((-1), mo) else bn1 (Mo_isPlanned mo p1) (fun r_5 => if r_5 = 0 then some ((-2), mo) else bn1 (Mo_isAir mo p1) (fun r_8 => if r_8 = 0 then bn1 (Mo_cancels mo p1) (fun mo_11 => bn1 (Mo_of mo_11 p1 4) (fun r_13 => some (r_13, mo_11))) else some ((-3), mo))))
set_option maxHeartbeats 4000000 in
set_option maxRecDepth 100000 in
theorem c_X12_cancel (l : Launch) (D : va_G) (cy : Nat → ClassId) (qmo : Nat → Nat) (mo : Mem) (p1 : Int32) (r : Int32) (mo' : Mem) (hp : Mo_cancel mo p1 = some (r, mo')) : RI l yX12_cancel cX12_cancel 2 (some .int) 3 D cy [.ref (qmo 0), .int p1] (w_Mo cy qmo mo) (w_Mo cy qmo mo') r := by
  refine RI_of RX12 rfl (by decide) (Nat.le_of_ble_eq_true rfl) ?_
  intro p e s m below meth c A C0 hK hP hD hS hA ls hl
  obtain ⟨hx, hb, hr, hml, hown, hts, hk⟩ := id C0
  unfold Mo_cancel at hp
  have hl : lv_has ls 2 [(0, .ref (qmo 0)), (1, .int p1)] := hl
  refine lv_aload_n hx hb dX12_cancel_0 rfl (lv_at hl 0 rfl) ?_
  refine lv_iload_n hx hb dX12_cancel_1 rfl (lv_at hl 1 rfl) ?_
  obtain ⟨r_2, hc_1, hp⟩ := bn1_s hp
  refine k_ROV (As := [.int p1]) (rest := []) ⟨hx, hb, hml, hown, hts⟩ hK hP (cw_X12_153 hts ⟨Nat.le_of_ble_eq_true rfl, Nat.le_of_ble_eq_true rfl⟩) 0 (ci := 12) rfl rfl rfl (c_X12_isFlight l D cy qmo mo p1 r_2 hc_1) rfl hl.1 (Nat.le_of_ble_eq_true rfl) ⟨Nat.le_refl _, Nat.le_refl _⟩ dX12_cancel_2 ?_
  refine lv_if_ne (tgt := 10) hx hb dX12_cancel_5 (by decide) (fun c_3 => ?_) (fun c_3 => ?_)
  · have hp := ite_n hp c_3
    refine lv_aload_n hx hb dX12_cancel_10 rfl (lv_at hl 0 rfl) ?_
    refine lv_iload_n hx hb dX12_cancel_11 rfl (lv_at hl 1 rfl) ?_
    obtain ⟨r_5, hc_4, hp⟩ := bn1_s hp
    refine k_ROV (As := [.int p1]) (rest := []) ⟨hx, hb, hml, hown, hts⟩ hK hP (cw_X12_144 hts ⟨Nat.le_of_ble_eq_true rfl, Nat.le_of_ble_eq_true rfl⟩) 0 (ci := 12) rfl rfl rfl (c_X12_isPlanned l D cy qmo mo p1 r_5 hc_4) rfl hl.1 (Nat.le_of_ble_eq_true rfl) ⟨Nat.le_refl _, Nat.le_refl _⟩ dX12_cancel_12 ?_
    refine lv_if_ne (tgt := 21) hx hb dX12_cancel_15 (by decide) (fun c_6 => ?_) (fun c_6 => ?_)
    · have hp := ite_n hp c_6
      refine lv_aload_n hx hb dX12_cancel_21 rfl (lv_at hl 0 rfl) ?_
      refine lv_iload_n hx hb dX12_cancel_22 rfl (lv_at hl 1 rfl) ?_
      obtain ⟨r_8, hc_7, hp⟩ := bn1_s hp
      refine k_ROV (As := [.int p1]) (rest := []) ⟨hx, hb, hml, hown, hts⟩ hK hP (cw_X12_150 hts ⟨Nat.le_of_ble_eq_true rfl, Nat.le_of_ble_eq_true rfl⟩) 0 (ci := 12) rfl rfl rfl (c_X12_isAir l D cy qmo mo p1 r_8 hc_7) rfl hl.1 (Nat.le_of_ble_eq_true rfl) ⟨Nat.le_refl _, Nat.le_refl _⟩ dX12_cancel_23 ?_
      refine lv_if_eq (tgt := 32) hx hb dX12_cancel_26 (by decide) (fun c_9 => ?_) (fun c_9 => ?_)
      · have hp := ite_p hp c_9
        refine lv_aload_n hx hb dX12_cancel_32 rfl (lv_at hl 0 rfl) ?_
        refine lv_iload_n hx hb dX12_cancel_33 rfl (lv_at hl 1 rfl) ?_
        obtain ⟨mo_11, hc_10, hp⟩ := bn1_s hp
        refine k_RVV (As := [.int p1]) (rest := []) ⟨hx, hb, hml, hown, hts⟩ hK hP hD hS hA FrS_rf (cw_X12_200 hts ⟨Nat.le_of_ble_eq_true rfl, Nat.le_of_ble_eq_true rfl⟩) 0 (ci := 12) rfl rfl rfl (c_X12_cancels l D cy qmo mo p1 mo_11 hc_10) rfl hl.1 (Nat.le_of_ble_eq_true rfl) ⟨Nat.le_refl _, Nat.le_refl _⟩ dX12_cancel_34 (fun H locs hP hD hS => ?_)
        refine lv_aload_n hx hb dX12_cancel_37 rfl (lv_at hl 0 rfl) ?_
        refine lv_iload_n hx hb dX12_cancel_38 rfl (lv_at hl 1 rfl) ?_
        refine lv_iconst (v := 4) hx hb dX12_cancel_39 (by decide) ?_
        obtain ⟨r_13, hc_12, hp⟩ := bn1_s hp
        refine k_ROV (As := [.int p1, .int 4]) (rest := []) ⟨hx, hb, hml, hown, hts⟩ hK hP (cw_X12_128 hts ⟨Nat.le_of_ble_eq_true rfl, Nat.le_of_ble_eq_true rfl⟩) 0 (ci := 12) rfl rfl rfl (c_X12_of l D cy qmo mo_11 p1 4 r_13 hc_12) rfl hl.1 (Nat.le_of_ble_eq_true rfl) ⟨Nat.le_refl _, Nat.le_refl _⟩ dX12_cancel_40 ?_
        simp only [Option.some.injEq, Prod.mk.injEq] at hp
        obtain ⟨h0, rfl⟩ := hp
        exact e_RIi hx hb hr hk hP hD hS dX12_cancel_43 h0
      · have hp := ite_n hp c_9
        refine lv_bipush (v := (-3)) hx hb dX12_cancel_29 (by decide) ?_
        simp only [Option.some.injEq, Prod.mk.injEq] at hp
        obtain ⟨h0, rfl⟩ := hp
        exact e_RIi hx hb hr hk hP hD hS dX12_cancel_31 h0
    · have hp := ite_p hp c_6
      refine lv_bipush (v := (-2)) hx hb dX12_cancel_18 (by decide) ?_
      simp only [Option.some.injEq, Prod.mk.injEq] at hp
      obtain ⟨h0, rfl⟩ := hp
      exact e_RIi hx hb hr hk hP hD hS dX12_cancel_20 h0
  · have hp := ite_p hp c_3
    refine lv_iconst (v := (-1)) hx hb dX12_cancel_8 (by decide) ?_
    simp only [Option.some.injEq, Prod.mk.injEq] at hp
    obtain ⟨h0, rfl⟩ := hp
    exact e_RIi hx hb hr hk hP hD hS dX12_cancel_9 h0
/-! StormSlotsModel.lineCost(I)I -/
def Mo_lineCost_b4B (mo : Mem) (p1 : Int32) (k4 : Int32 → Int32 → Option (Int32)) (x2 : Int32) (x3 : Int32) : Option (Int32) :=
  ckI 173 1452 (if (mo 0 (173 : Int32).toNatClampNeg) ≤ x3 then some x2 else bn1 (Mo_of mo x3 0) (fun r_4 => if r_4 = p1 then bn1 (Mo_cost mo x3) (fun r_9 => stk (x2 + r_9) (fun x2_10 => stk (x3 + 1) (fun x3_11 => k4 x2_10 x3_11))) else stk (x2 + 0) (fun x2_6 => stk (x3 + 1) (fun x3_7 => k4 x2_6 x3_7))))
def Mo_lineCost_b4 (mo : Mem) (p1 : Int32) : Nat → Int32 → Int32 → Option (Int32)
  | 0 => fun _ _ => none
  | n + 1 => Mo_lineCost_b4B mo p1 (Mo_lineCost_b4 mo p1 n)
def Mo_lineCost (mo : Mem) (p1 : Int32) : Option (Int32) :=
  Mo_lineCost_b4 mo p1 fl 0 0
set_option maxHeartbeats 4000000 in
set_option maxRecDepth 100000 in
theorem Mo_lineCost_b4B_w (C0 : cX RX12 cX12_lineCost (some .int) 4 p s m args meth c) (hK : kN D cy s) {qmo : Nat → Nat} {mo : Mem} {p1 : Int32} {r : Int32} (hP : va_P D vwCl (w_Mo cy qmo mo) s.heap) {k4 : Int32 → Int32 → Option (Int32)} (hk4 : ∀ (x2 x3 : Int32) (ls : Array Slot), lv_has ls 4 [(0, .ref (qmo 0)), (1, .int p1), (2, .int x2), (3, .int x3)] → k4 x2 x3 = some r → W p l e (rmD 3) s m args below meth c s.heap [] 0 0 (qRO below args s r) (F0 m 4 ls [])) {x2 : Int32} {x3 : Int32} {ls : Array Slot} (hl : lv_has ls 4 [(0, .ref (qmo 0)), (1, .int p1), (2, .int x2), (3, .int x3)]) (hp : Mo_lineCost_b4B mo p1 k4 x2 x3 = some r) : W p l e (rmD 3) s m args below meth c s.heap [] 0 0 (qRO below args s r) (F0 m 4 ls []) := by
  obtain ⟨hx, hb, hr, hml, hown, hts, hk⟩ := id C0
  unfold Mo_lineCost_b4B at hp
  refine lv_iload_n hx hb dX12_lineCost_4 rfl (lv_at hl 3 rfl) ?_
  refine lv_aload_n hx hb dX12_lineCost_5 rfl (lv_at hl 0 rfl) ?_
  refine gf_X12_7 hx hb hts hown hK hP 0 rfl rfl dX12_lineCost_6 ?_
  refine lv_sipush (v := 173) hx hb dX12_lineCost_9 (by decide) ?_
  obtain ⟨hi_1, hp⟩ := ckI_s hp
  refine r_ild hx hb hK hP 1 rfl hi_1 dX12_lineCost_12 ?_
  refine lv_icmp_ge (tgt := 44) hx hb dX12_lineCost_13 (by decide) (fun c_2 => ?_) (fun c_2 => ?_)
  · have hp := ite_p hp c_2
    refine lv_iload_n hx hb dX12_lineCost_44 rfl (lv_at hl 2 rfl) ?_
    exact e_ROi hx hb hr hk dX12_lineCost_45 (Option.some.inj hp)
  · have hp := ite_n hp c_2
    refine lv_iload_n hx hb dX12_lineCost_16 rfl (lv_at hl 2 rfl) ?_
    refine lv_aload_n hx hb dX12_lineCost_17 rfl (lv_at hl 0 rfl) ?_
    refine lv_iload_n hx hb dX12_lineCost_18 rfl (lv_at hl 3 rfl) ?_
    refine lv_iconst (v := 0) hx hb dX12_lineCost_19 (by decide) ?_
    obtain ⟨r_4, hc_3, hp⟩ := bn1_s hp
    refine k_ROV (As := [.int x3, .int 0]) (rest := [.int x2]) ⟨hx, hb, hml, hown, hts⟩ hK hP (cw_X12_128 hts ⟨Nat.le_of_ble_eq_true rfl, Nat.le_of_ble_eq_true rfl⟩) 0 (ci := 12) rfl rfl rfl (c_X12_of l D cy qmo mo x3 0 r_4 hc_3) rfl hl.1 (Nat.le_of_ble_eq_true rfl) ⟨Nat.le_refl _, Nat.le_refl _⟩ dX12_lineCost_20 ?_
    refine lv_iload_n hx hb dX12_lineCost_23 rfl (lv_at hl 1 rfl) ?_
    refine lv_icmp_ne (tgt := 35) hx hb dX12_lineCost_24 (by decide) (fun c_5 => ?_) (fun c_5 => ?_)
    · have hp := ite_n hp c_5
      refine lv_iconst (v := 0) hx hb dX12_lineCost_35 (by decide) ?_
      refine lv_iadd hx hb dX12_lineCost_36 ?_
      refine lv_topi (fun x2_6 ex2_6 => ?_)
      have hp := stk_e hp ex2_6
      refine lv_istore_n (lv' := [(2, .int x2_6), (0, .ref (qmo 0)), (1, .int p1), (3, .int x3)]) hx hb dX12_lineCost_37 rfl hl (by decide) rfl (fun ls hl => ?_)
      obtain ⟨x3_7, ex3_7⟩ : ∃ y : Int32, y = x3 + 1 := ⟨_, rfl⟩
      have hp := stk_e hp ex3_7
      refine lv_iinc (v := x3_7) (lv' := [(3, .int x3_7), (2, .int x2_6), (0, .ref (qmo 0)), (1, .int p1)]) hx hb dX12_lineCost_38 hl (k := 3) rfl (by rw [ex3_7]; rfl) (by decide) rfl (fun ls hl => ?_)
      refine lv_goto (tgt := 4) hx hb dX12_lineCost_41 (by decide) ?_
      exact hk4 x2_6 x3_7 _ (lv_sub hl [2, 3, 1, 0] rfl) hp
    · have hp := ite_p hp c_5
      refine lv_aload_n hx hb dX12_lineCost_27 rfl (lv_at hl 0 rfl) ?_
      refine lv_iload_n hx hb dX12_lineCost_28 rfl (lv_at hl 3 rfl) ?_
      obtain ⟨r_9, hc_8, hp⟩ := bn1_s hp
      refine k_ROV (As := [.int x3]) (rest := [.int x2]) ⟨hx, hb, hml, hown, hts⟩ hK hP (cw_X12_159 hts ⟨Nat.le_of_ble_eq_true rfl, Nat.le_of_ble_eq_true rfl⟩) 0 (ci := 12) rfl rfl rfl (c_X12_cost l D cy qmo mo x3 r_9 hc_8) rfl hl.1 (Nat.le_of_ble_eq_true rfl) ⟨Nat.le_refl _, Nat.le_refl _⟩ dX12_lineCost_29 ?_
      refine lv_goto (tgt := 36) hx hb dX12_lineCost_32 (by decide) ?_
      refine lv_iadd hx hb dX12_lineCost_36 ?_
      refine lv_topi (fun x2_10 ex2_10 => ?_)
      have hp := stk_e hp ex2_10
      refine lv_istore_n (lv' := [(2, .int x2_10), (0, .ref (qmo 0)), (1, .int p1), (3, .int x3)]) hx hb dX12_lineCost_37 rfl hl (by decide) rfl (fun ls hl => ?_)
      obtain ⟨x3_11, ex3_11⟩ : ∃ y : Int32, y = x3 + 1 := ⟨_, rfl⟩
      have hp := stk_e hp ex3_11
      refine lv_iinc (v := x3_11) (lv' := [(3, .int x3_11), (2, .int x2_10), (0, .ref (qmo 0)), (1, .int p1)]) hx hb dX12_lineCost_38 hl (k := 3) rfl (by rw [ex3_11]; rfl) (by decide) rfl (fun ls hl => ?_)
      refine lv_goto (tgt := 4) hx hb dX12_lineCost_41 (by decide) ?_
      exact hk4 x2_10 x3_11 _ (lv_sub hl [2, 3, 1, 0] rfl) hp
theorem Mo_lineCost_b4_w (C0 : cX RX12 cX12_lineCost (some .int) 4 p s m args meth c) (hK : kN D cy s) {qmo : Nat → Nat} {mo : Mem} {p1 : Int32} {r : Int32} (hP : va_P D vwCl (w_Mo cy qmo mo) s.heap) : ∀ (n : Nat) (x2 x3 : Int32) (ls : Array Slot), lv_has ls 4 [(0, .ref (qmo 0)), (1, .int p1), (2, .int x2), (3, .int x3)] → Mo_lineCost_b4 mo p1 n x2 x3 = some r → W p l e (rmD 3) s m args below meth c s.heap [] 0 0 (qRO below args s r) (F0 m 4 ls []) := by
  intro n
  induction n with
  | zero =>
    intro x2 x3 ls hl hp
    cases hp
  | succ n ih =>
    intro x2 x3 ls hl hp
    exact Mo_lineCost_b4B_w C0 hK hP  (fun x2 x3 ls hl hp => ih x2 x3 ls hl hp) hl hp
set_option maxHeartbeats 4000000 in
set_option maxRecDepth 100000 in
theorem c_X12_lineCost (l : Launch) (D : va_G) (cy : Nat → ClassId) (qmo : Nat → Nat) (mo : Mem) (p1 : Int32) (r : Int32) (hp : Mo_lineCost mo p1 = some r) : RO l yX12_lineCost cX12_lineCost 4 (some .int) 3 D cy [.ref (qmo 0), .int p1] (w_Mo cy qmo mo) r := by
  refine RO_of RX12 rfl (by decide) (Nat.le_of_ble_eq_true rfl) ?_
  intro p e s m below meth c C0 hK hP ls hl
  obtain ⟨hx, hb, hr, hml, hown, hts, hk⟩ := id C0
  unfold Mo_lineCost at hp
  have hl : lv_has ls 4 [(0, .ref (qmo 0)), (1, .int p1)] := hl
  refine lv_iconst (v := 0) hx hb dX12_lineCost_0 (by decide) ?_
  refine lv_istore_n (lv' := [(2, .int 0), (0, .ref (qmo 0)), (1, .int p1)]) hx hb dX12_lineCost_1 rfl hl (by decide) rfl (fun ls hl => ?_)
  refine lv_iconst (v := 0) hx hb dX12_lineCost_2 (by decide) ?_
  refine lv_istore_n (lv' := [(3, .int 0), (2, .int 0), (0, .ref (qmo 0)), (1, .int p1)]) hx hb dX12_lineCost_3 rfl hl (by decide) rfl (fun ls hl => ?_)
  exact Mo_lineCost_b4_w C0 hK hP  fl 0 0 _ (lv_sub hl [2, 3, 1, 0] rfl) hp
/-! StormSlotsModel.allCost()I -/
def Mo_allCost_b4B (mo : Mem) (k4 : Int32 → Int32 → Option (Int32)) (x1 : Int32) (x2 : Int32) : Option (Int32) :=
  ckI 173 1452 (if (mo 0 (173 : Int32).toNatClampNeg) ≤ x2 then some x1 else bn1 (Mo_cost mo x2) (fun r_4 => stk (x1 + r_4) (fun x1_5 => stk (x2 + 1) (fun x2_6 => k4 x1_5 x2_6))))
def Mo_allCost_b4 (mo : Mem) : Nat → Int32 → Int32 → Option (Int32)
  | 0 => fun _ _ => none
  | n + 1 => Mo_allCost_b4B mo (Mo_allCost_b4 mo n)
def Mo_allCost (mo : Mem) : Option (Int32) :=
  Mo_allCost_b4 mo fl 0 0
set_option maxHeartbeats 4000000 in
set_option maxRecDepth 100000 in
theorem Mo_allCost_b4B_w (C0 : cX RX12 cX12_allCost (some .int) 3 p s m args meth c) (hK : kN D cy s) {qmo : Nat → Nat} {mo : Mem} {r : Int32} (hP : va_P D vwCl (w_Mo cy qmo mo) s.heap) {k4 : Int32 → Int32 → Option (Int32)} (hk4 : ∀ (x1 x2 : Int32) (ls : Array Slot), lv_has ls 3 [(0, .ref (qmo 0)), (1, .int x1), (2, .int x2)] → k4 x1 x2 = some r → W p l e (rmD 3) s m args below meth c s.heap [] 0 0 (qRO below args s r) (F0 m 4 ls [])) {x1 : Int32} {x2 : Int32} {ls : Array Slot} (hl : lv_has ls 3 [(0, .ref (qmo 0)), (1, .int x1), (2, .int x2)]) (hp : Mo_allCost_b4B mo k4 x1 x2 = some r) : W p l e (rmD 3) s m args below meth c s.heap [] 0 0 (qRO below args s r) (F0 m 4 ls []) := by
  obtain ⟨hx, hb, hr, hml, hown, hts, hk⟩ := id C0
  unfold Mo_allCost_b4B at hp
  refine lv_iload_n hx hb dX12_allCost_4 rfl (lv_at hl 2 rfl) ?_
  refine lv_aload_n hx hb dX12_allCost_5 rfl (lv_at hl 0 rfl) ?_
  refine gf_X12_7 hx hb hts hown hK hP 0 rfl rfl dX12_allCost_6 ?_
  refine lv_sipush (v := 173) hx hb dX12_allCost_9 (by decide) ?_
  obtain ⟨hi_1, hp⟩ := ckI_s hp
  refine r_ild hx hb hK hP 1 rfl hi_1 dX12_allCost_12 ?_
  refine lv_icmp_ge (tgt := 30) hx hb dX12_allCost_13 (by decide) (fun c_2 => ?_) (fun c_2 => ?_)
  · have hp := ite_p hp c_2
    refine lv_iload_n hx hb dX12_allCost_30 rfl (lv_at hl 1 rfl) ?_
    exact e_ROi hx hb hr hk dX12_allCost_31 (Option.some.inj hp)
  · have hp := ite_n hp c_2
    refine lv_iload_n hx hb dX12_allCost_16 rfl (lv_at hl 1 rfl) ?_
    refine lv_aload_n hx hb dX12_allCost_17 rfl (lv_at hl 0 rfl) ?_
    refine lv_iload_n hx hb dX12_allCost_18 rfl (lv_at hl 2 rfl) ?_
    obtain ⟨r_4, hc_3, hp⟩ := bn1_s hp
    refine k_ROV (As := [.int x2]) (rest := [.int x1]) ⟨hx, hb, hml, hown, hts⟩ hK hP (cw_X12_159 hts ⟨Nat.le_of_ble_eq_true rfl, Nat.le_of_ble_eq_true rfl⟩) 0 (ci := 12) rfl rfl rfl (c_X12_cost l D cy qmo mo x2 r_4 hc_3) rfl hl.1 (Nat.le_of_ble_eq_true rfl) ⟨Nat.le_refl _, Nat.le_refl _⟩ dX12_allCost_19 ?_
    refine lv_iadd hx hb dX12_allCost_22 ?_
    refine lv_topi (fun x1_5 ex1_5 => ?_)
    have hp := stk_e hp ex1_5
    refine lv_istore_n (lv' := [(1, .int x1_5), (0, .ref (qmo 0)), (2, .int x2)]) hx hb dX12_allCost_23 rfl hl (by decide) rfl (fun ls hl => ?_)
    obtain ⟨x2_6, ex2_6⟩ : ∃ y : Int32, y = x2 + 1 := ⟨_, rfl⟩
    have hp := stk_e hp ex2_6
    refine lv_iinc (v := x2_6) (lv' := [(2, .int x2_6), (1, .int x1_5), (0, .ref (qmo 0))]) hx hb dX12_allCost_24 hl (k := 2) rfl (by rw [ex2_6]; rfl) (by decide) rfl (fun ls hl => ?_)
    refine lv_goto (tgt := 4) hx hb dX12_allCost_27 (by decide) ?_
    exact hk4 x1_5 x2_6 _ (lv_sub hl [2, 1, 0] rfl) hp
theorem Mo_allCost_b4_w (C0 : cX RX12 cX12_allCost (some .int) 3 p s m args meth c) (hK : kN D cy s) {qmo : Nat → Nat} {mo : Mem} {r : Int32} (hP : va_P D vwCl (w_Mo cy qmo mo) s.heap) : ∀ (n : Nat) (x1 x2 : Int32) (ls : Array Slot), lv_has ls 3 [(0, .ref (qmo 0)), (1, .int x1), (2, .int x2)] → Mo_allCost_b4 mo n x1 x2 = some r → W p l e (rmD 3) s m args below meth c s.heap [] 0 0 (qRO below args s r) (F0 m 4 ls []) := by
  intro n
  induction n with
  | zero =>
    intro x1 x2 ls hl hp
    cases hp
  | succ n ih =>
    intro x1 x2 ls hl hp
    exact Mo_allCost_b4B_w C0 hK hP  (fun x1 x2 ls hl hp => ih x1 x2 ls hl hp) hl hp
set_option maxHeartbeats 4000000 in
set_option maxRecDepth 100000 in
theorem c_X12_allCost (l : Launch) (D : va_G) (cy : Nat → ClassId) (qmo : Nat → Nat) (mo : Mem) (r : Int32) (hp : Mo_allCost mo = some r) : RO l yX12_allCost cX12_allCost 3 (some .int) 3 D cy [.ref (qmo 0)] (w_Mo cy qmo mo) r := by
  refine RO_of RX12 rfl (by decide) (Nat.le_of_ble_eq_true rfl) ?_
  intro p e s m below meth c C0 hK hP ls hl
  obtain ⟨hx, hb, hr, hml, hown, hts, hk⟩ := id C0
  unfold Mo_allCost at hp
  have hl : lv_has ls 3 [(0, .ref (qmo 0))] := hl
  refine lv_iconst (v := 0) hx hb dX12_allCost_0 (by decide) ?_
  refine lv_istore_n (lv' := [(1, .int 0), (0, .ref (qmo 0))]) hx hb dX12_allCost_1 rfl hl (by decide) rfl (fun ls hl => ?_)
  refine lv_iconst (v := 0) hx hb dX12_allCost_2 (by decide) ?_
  refine lv_istore_n (lv' := [(2, .int 0), (1, .int 0), (0, .ref (qmo 0))]) hx hb dX12_allCost_3 rfl hl (by decide) rfl (fun ls hl => ?_)
  exact Mo_allCost_b4_w C0 hK hP  fl 0 0 _ (lv_sub hl [2, 1, 0] rfl) hp
/-! StormSlotsModel.swaps(II)V -/
def Mo_swaps (mo : Mem) (p1 : Int32) (p2 : Int32) : Option (Mem) :=
  bn1 (Mo_of mo p1 4) (fun r_2 => bn1 (Mo_of mo p2 4) (fun r_4 => bn1 (Mo_gives mo p1 r_4) (fun mo_6 => bn1 (Mo_gives mo_6 p2 r_2) (fun mo_8 => some mo_8))))
set_option maxHeartbeats 4000000 in
set_option maxRecDepth 100000 in
theorem c_X12_swaps (l : Launch) (D : va_G) (cy : Nat → ClassId) (qmo : Nat → Nat) (mo : Mem) (p1 p2 : Int32) (mo' : Mem) (hp : Mo_swaps mo p1 p2 = some mo') : RV l yX12_swaps cX12_swaps 4 2 D cy [.ref (qmo 0), .int p1, .int p2] (w_Mo cy qmo mo) (w_Mo cy qmo mo') := by
  refine RV_of RX12 rfl (by decide) (Nat.le_of_ble_eq_true rfl) ?_
  intro p e s m below meth c A C0 hK hP hD hS hA ls hl
  obtain ⟨hx, hb, hr, hml, hown, hts, hk⟩ := id C0
  unfold Mo_swaps at hp
  have hl : lv_has ls 4 [(0, .ref (qmo 0)), (1, .int p1), (2, .int p2)] := hl
  refine lv_aload_n hx hb dX12_swaps_0 rfl (lv_at hl 0 rfl) ?_
  refine lv_iload_n hx hb dX12_swaps_1 rfl (lv_at hl 1 rfl) ?_
  refine lv_iconst (v := 4) hx hb dX12_swaps_2 (by decide) ?_
  obtain ⟨r_2, hc_1, hp⟩ := bn1_s hp
  refine k_ROV (As := [.int p1, .int 4]) (rest := []) ⟨hx, hb, hml, hown, hts⟩ hK hP (cw_X12_128 hts ⟨Nat.le_of_ble_eq_true rfl, Nat.le_of_ble_eq_true rfl⟩) 0 (ci := 12) rfl rfl rfl (c_X12_of l D cy qmo mo p1 4 r_2 hc_1) rfl hl.1 (Nat.le_of_ble_eq_true rfl) ⟨Nat.le_refl _, Nat.le_refl _⟩ dX12_swaps_3 ?_
  refine lv_istore_n (lv' := [(3, .int r_2), (0, .ref (qmo 0)), (1, .int p1), (2, .int p2)]) hx hb dX12_swaps_6 rfl hl (by decide) rfl (fun ls hl => ?_)
  refine lv_aload_n hx hb dX12_swaps_7 rfl (lv_at hl 1 rfl) ?_
  refine lv_iload_n hx hb dX12_swaps_8 rfl (lv_at hl 2 rfl) ?_
  refine lv_aload_n hx hb dX12_swaps_9 rfl (lv_at hl 1 rfl) ?_
  refine lv_iload_n hx hb dX12_swaps_10 rfl (lv_at hl 3 rfl) ?_
  refine lv_iconst (v := 4) hx hb dX12_swaps_11 (by decide) ?_
  obtain ⟨r_4, hc_3, hp⟩ := bn1_s hp
  refine k_ROV (As := [.int p2, .int 4]) (rest := [.int p1, .ref (qmo 0)]) ⟨hx, hb, hml, hown, hts⟩ hK hP (cw_X12_128 hts ⟨Nat.le_of_ble_eq_true rfl, Nat.le_of_ble_eq_true rfl⟩) 0 (ci := 12) rfl rfl rfl (c_X12_of l D cy qmo mo p2 4 r_4 hc_3) rfl hl.1 (Nat.le_of_ble_eq_true rfl) ⟨Nat.le_refl _, Nat.le_refl _⟩ dX12_swaps_12 ?_
  obtain ⟨mo_6, hc_5, hp⟩ := bn1_s hp
  refine k_RVV (As := [.int p1, .int r_4]) (rest := []) ⟨hx, hb, hml, hown, hts⟩ hK hP hD hS hA FrS_rf (cw_X12_174 hts ⟨Nat.le_of_ble_eq_true rfl, Nat.le_of_ble_eq_true rfl⟩) 0 (ci := 12) rfl rfl rfl (c_X12_gives l D cy qmo mo p1 r_4 mo_6 hc_5) rfl hl.1 (Nat.le_of_ble_eq_true rfl) ⟨Nat.le_refl _, Nat.le_refl _⟩ dX12_swaps_15 (fun H locs hP hD hS => ?_)
  refine lv_aload_n hx hb dX12_swaps_18 rfl (lv_at hl 1 rfl) ?_
  refine lv_iload_n hx hb dX12_swaps_19 rfl (lv_at hl 3 rfl) ?_
  refine lv_iload_n hx hb dX12_swaps_20 rfl (lv_at hl 0 rfl) ?_
  obtain ⟨mo_8, hc_7, hp⟩ := bn1_s hp
  refine k_RVV (As := [.int p2, .int r_2]) (rest := []) ⟨hx, hb, hml, hown, hts⟩ hK hP hD hS hA FrS_rf (cw_X12_174 hts ⟨Nat.le_of_ble_eq_true rfl, Nat.le_of_ble_eq_true rfl⟩) 0 (ci := 12) rfl rfl rfl (c_X12_gives l D cy qmo mo_6 p2 r_2 mo_8 hc_7) rfl hl.1 (Nat.le_of_ble_eq_true rfl) ⟨Nat.le_refl _, Nat.le_refl _⟩ dX12_swaps_21 (fun H locs hP hD hS => ?_)
  simp only [Option.some.injEq, Prod.mk.injEq] at hp
  subst hp
  exact e_RV hx hb hr hk hP hD hS dX12_swaps_24
/-! StormSlotsModel.isGroundFlight(I)Z -/
def Mo_isGroundFlight (mo : Mem) (p1 : Int32) : Option (Int32) :=
  bn1 (Mo_isFlight mo p1) (fun r_2 => if r_2 = 0 then some 0 else bn1 (Mo_isGround mo p1) (fun r_5 => if r_5 = 0 then some 0 else some 1))
set_option maxHeartbeats 4000000 in
set_option maxRecDepth 100000 in
theorem c_X12_isGroundFlight (l : Launch) (D : va_G) (cy : Nat → ClassId) (qmo : Nat → Nat) (mo : Mem) (p1 : Int32) (r : Int32) (hp : Mo_isGroundFlight mo p1 = some r) : RO l yX12_isGroundFlight cX12_isGroundFlight 2 (some .boolean) 4 D cy [.ref (qmo 0), .int p1] (w_Mo cy qmo mo) r := by
  refine RO_of RX12 rfl (by decide) (Nat.le_of_ble_eq_true rfl) ?_
  intro p e s m below meth c C0 hK hP ls hl
  obtain ⟨hx, hb, hr, hml, hown, hts, hk⟩ := id C0
  unfold Mo_isGroundFlight at hp
  have hl : lv_has ls 2 [(0, .ref (qmo 0)), (1, .int p1)] := hl
  refine lv_aload_n hx hb dX12_isGroundFlight_0 rfl (lv_at hl 0 rfl) ?_
  refine lv_iload_n hx hb dX12_isGroundFlight_1 rfl (lv_at hl 1 rfl) ?_
  obtain ⟨r_2, hc_1, hp⟩ := bn1_s hp
  refine k_ROV (As := [.int p1]) (rest := []) ⟨hx, hb, hml, hown, hts⟩ hK hP (cw_X12_153 hts ⟨Nat.le_of_ble_eq_true rfl, Nat.le_of_ble_eq_true rfl⟩) 0 (ci := 12) rfl rfl rfl (c_X12_isFlight l D cy qmo mo p1 r_2 hc_1) rfl hl.1 (Nat.le_of_ble_eq_true rfl) ⟨Nat.le_refl _, Nat.le_refl _⟩ dX12_isGroundFlight_2 ?_
  refine lv_if_eq (tgt := 20) hx hb dX12_isGroundFlight_5 (by decide) (fun c_3 => ?_) (fun c_3 => ?_)
  · have hp := ite_p hp c_3
    refine lv_iconst (v := 0) hx hb dX12_isGroundFlight_20 (by decide) ?_
    exact e_ROz hx hb hr hk (Or.inl rfl) dX12_isGroundFlight_21 (Option.some.inj hp)
  · have hp := ite_n hp c_3
    refine lv_aload_n hx hb dX12_isGroundFlight_8 rfl (lv_at hl 0 rfl) ?_
    refine lv_iload_n hx hb dX12_isGroundFlight_9 rfl (lv_at hl 1 rfl) ?_
    obtain ⟨r_5, hc_4, hp⟩ := bn1_s hp
    refine k_ROV (As := [.int p1]) (rest := []) ⟨hx, hb, hml, hown, hts⟩ hK hP (cw_X12_203 hts ⟨Nat.le_of_ble_eq_true rfl, Nat.le_of_ble_eq_true rfl⟩) 0 (ci := 12) rfl rfl rfl (c_X12_isGround l D cy qmo mo p1 r_5 hc_4) rfl hl.1 (Nat.le_of_ble_eq_true rfl) ⟨Nat.le_refl _, Nat.le_refl _⟩ dX12_isGroundFlight_10 ?_
    refine lv_if_eq (tgt := 20) hx hb dX12_isGroundFlight_13 (by decide) (fun c_6 => ?_) (fun c_6 => ?_)
    · have hp := ite_p hp c_6
      refine lv_iconst (v := 0) hx hb dX12_isGroundFlight_20 (by decide) ?_
      exact e_ROz hx hb hr hk (Or.inl rfl) dX12_isGroundFlight_21 (Option.some.inj hp)
    · have hp := ite_n hp c_6
      refine lv_iconst (v := 1) hx hb dX12_isGroundFlight_16 (by decide) ?_
      refine lv_goto (tgt := 21) hx hb dX12_isGroundFlight_17 (by decide) ?_
      exact e_ROz hx hb hr hk (Or.inr rfl) dX12_isGroundFlight_21 (Option.some.inj hp)
/-! StormSlotsModel.exchange(II)I -/
def Mo_exchange (mo : Mem) (p1 : Int32) (p2 : Int32) : Option (Int32 × Mem) :=
  bn1 (Mo_isGroundFlight mo p1) (fun r_2 => if r_2 = 0 then some ((-1000000), mo) else bn1 (Mo_isGroundFlight mo p2) (fun r_5 => if r_5 = 0 then some ((-1000000), mo) else if p1 = p2 then some ((-1000000), mo) else bn1 (Mo_of mo p1 0) (fun r_9 => bn1 (Mo_of mo p2 0) (fun r_11 => if r_9 = r_11 then bn1 (Mo_of mo p1 4) (fun r_14 => bn1 (Mo_earliest mo p2) (fun r_16 => if r_14 < r_16 then some ((-1000000), mo) else bn1 (Mo_of mo p2 4) (fun r_19 => bn1 (Mo_earliest mo p1) (fun r_21 => if r_21 ≤ r_19 then bn1 (Mo_allCost mo) (fun r_24 => bn1 (Mo_swaps mo p1 p2) (fun mo_26 => bn1 (Mo_allCost mo_26) (fun r_28 => some ((r_24 - r_28), mo_26)))) else some ((-1000000), mo))))) else some ((-1000000), mo)))))
set_option maxHeartbeats 4000000 in
set_option maxRecDepth 100000 in
theorem c_X12_exchange (l : Launch) (D : va_G) (cy : Nat → ClassId) (qmo : Nat → Nat) (mo : Mem) (p1 p2 : Int32) (r : Int32) (mo' : Mem) (hp : Mo_exchange mo p1 p2 = some (r, mo')) : RI l yX12_exchange cX12_exchange 4 (some .int) 5 D cy [.ref (qmo 0), .int p1, .int p2] (w_Mo cy qmo mo) (w_Mo cy qmo mo') r := by
  refine RI_of RX12 rfl (by decide) (Nat.le_of_ble_eq_true rfl) ?_
  intro p e s m below meth c A C0 hK hP hD hS hA ls hl
  obtain ⟨hx, hb, hr, hml, hown, hts, hk⟩ := id C0
  unfold Mo_exchange at hp
  have hl : lv_has ls 4 [(0, .ref (qmo 0)), (1, .int p1), (2, .int p2)] := hl
  refine lv_aload_n hx hb dX12_exchange_0 rfl (lv_at hl 0 rfl) ?_
  refine lv_iload_n hx hb dX12_exchange_1 rfl (lv_at hl 1 rfl) ?_
  obtain ⟨r_2, hc_1, hp⟩ := bn1_s hp
  refine k_ROV (As := [.int p1]) (rest := []) ⟨hx, hb, hml, hown, hts⟩ hK hP (cw_X12_206 hts ⟨Nat.le_of_ble_eq_true rfl, Nat.le_of_ble_eq_true rfl⟩) 0 (ci := 12) rfl rfl rfl (c_X12_isGroundFlight l D cy qmo mo p1 r_2 hc_1) rfl hl.1 (Nat.le_of_ble_eq_true rfl) ⟨Nat.le_refl _, Nat.le_refl _⟩ dX12_exchange_2 ?_
  refine lv_if_eq (tgt := 64) hx hb dX12_exchange_5 (by decide) (fun c_3 => ?_) (fun c_3 => ?_)
  · have hp := ite_p hp c_3
    refine lc_X12_209 hx hb hts hown dX12_exchange_64 ?_
    simp only [Option.some.injEq, Prod.mk.injEq] at hp
    obtain ⟨h0, rfl⟩ := hp
    exact e_RIi hx hb hr hk hP hD hS dX12_exchange_66 h0
  · have hp := ite_n hp c_3
    refine lv_aload_n hx hb dX12_exchange_8 rfl (lv_at hl 0 rfl) ?_
    refine lv_iload_n hx hb dX12_exchange_9 rfl (lv_at hl 2 rfl) ?_
    obtain ⟨r_5, hc_4, hp⟩ := bn1_s hp
    refine k_ROV (As := [.int p2]) (rest := []) ⟨hx, hb, hml, hown, hts⟩ hK hP (cw_X12_206 hts ⟨Nat.le_of_ble_eq_true rfl, Nat.le_of_ble_eq_true rfl⟩) 0 (ci := 12) rfl rfl rfl (c_X12_isGroundFlight l D cy qmo mo p2 r_5 hc_4) rfl hl.1 (Nat.le_of_ble_eq_true rfl) ⟨Nat.le_refl _, Nat.le_refl _⟩ dX12_exchange_10 ?_
    refine lv_if_eq (tgt := 64) hx hb dX12_exchange_13 (by decide) (fun c_6 => ?_) (fun c_6 => ?_)
    · have hp := ite_p hp c_6
      refine lc_X12_209 hx hb hts hown dX12_exchange_64 ?_
      simp only [Option.some.injEq, Prod.mk.injEq] at hp
      obtain ⟨h0, rfl⟩ := hp
      exact e_RIi hx hb hr hk hP hD hS dX12_exchange_66 h0
    · have hp := ite_n hp c_6
      refine lv_iload_n hx hb dX12_exchange_16 rfl (lv_at hl 1 rfl) ?_
      refine lv_iload_n hx hb dX12_exchange_17 rfl (lv_at hl 2 rfl) ?_
      refine lv_icmp_eq (tgt := 64) hx hb dX12_exchange_18 (by decide) (fun c_7 => ?_) (fun c_7 => ?_)
      · have hp := ite_p hp c_7
        refine lc_X12_209 hx hb hts hown dX12_exchange_64 ?_
        simp only [Option.some.injEq, Prod.mk.injEq] at hp
        obtain ⟨h0, rfl⟩ := hp
        exact e_RIi hx hb hr hk hP hD hS dX12_exchange_66 h0
      · have hp := ite_n hp c_7
        refine lv_aload_n hx hb dX12_exchange_21 rfl (lv_at hl 0 rfl) ?_
        refine lv_iload_n hx hb dX12_exchange_22 rfl (lv_at hl 1 rfl) ?_
        refine lv_iconst (v := 0) hx hb dX12_exchange_23 (by decide) ?_
        obtain ⟨r_9, hc_8, hp⟩ := bn1_s hp
        refine k_ROV (As := [.int p1, .int 0]) (rest := []) ⟨hx, hb, hml, hown, hts⟩ hK hP (cw_X12_128 hts ⟨Nat.le_of_ble_eq_true rfl, Nat.le_of_ble_eq_true rfl⟩) 0 (ci := 12) rfl rfl rfl (c_X12_of l D cy qmo mo p1 0 r_9 hc_8) rfl hl.1 (Nat.le_of_ble_eq_true rfl) ⟨Nat.le_refl _, Nat.le_refl _⟩ dX12_exchange_24 ?_
        refine lv_aload_n hx hb dX12_exchange_27 rfl (lv_at hl 0 rfl) ?_
        refine lv_iload_n hx hb dX12_exchange_28 rfl (lv_at hl 2 rfl) ?_
        refine lv_iconst (v := 0) hx hb dX12_exchange_29 (by decide) ?_
        obtain ⟨r_11, hc_10, hp⟩ := bn1_s hp
        refine k_ROV (As := [.int p2, .int 0]) (rest := [.int r_9]) ⟨hx, hb, hml, hown, hts⟩ hK hP (cw_X12_128 hts ⟨Nat.le_of_ble_eq_true rfl, Nat.le_of_ble_eq_true rfl⟩) 0 (ci := 12) rfl rfl rfl (c_X12_of l D cy qmo mo p2 0 r_11 hc_10) rfl hl.1 (Nat.le_of_ble_eq_true rfl) ⟨Nat.le_refl _, Nat.le_refl _⟩ dX12_exchange_30 ?_
        refine lv_icmp_ne (tgt := 64) hx hb dX12_exchange_33 (by decide) (fun c_12 => ?_) (fun c_12 => ?_)
        · have hp := ite_n hp c_12
          refine lc_X12_209 hx hb hts hown dX12_exchange_64 ?_
          simp only [Option.some.injEq, Prod.mk.injEq] at hp
          obtain ⟨h0, rfl⟩ := hp
          exact e_RIi hx hb hr hk hP hD hS dX12_exchange_66 h0
        · have hp := ite_p hp c_12
          refine lv_aload_n hx hb dX12_exchange_36 rfl (lv_at hl 0 rfl) ?_
          refine lv_iload_n hx hb dX12_exchange_37 rfl (lv_at hl 1 rfl) ?_
          refine lv_iconst (v := 4) hx hb dX12_exchange_38 (by decide) ?_
          obtain ⟨r_14, hc_13, hp⟩ := bn1_s hp
          refine k_ROV (As := [.int p1, .int 4]) (rest := []) ⟨hx, hb, hml, hown, hts⟩ hK hP (cw_X12_128 hts ⟨Nat.le_of_ble_eq_true rfl, Nat.le_of_ble_eq_true rfl⟩) 0 (ci := 12) rfl rfl rfl (c_X12_of l D cy qmo mo p1 4 r_14 hc_13) rfl hl.1 (Nat.le_of_ble_eq_true rfl) ⟨Nat.le_refl _, Nat.le_refl _⟩ dX12_exchange_39 ?_
          refine lv_aload_n hx hb dX12_exchange_42 rfl (lv_at hl 0 rfl) ?_
          refine lv_iload_n hx hb dX12_exchange_43 rfl (lv_at hl 2 rfl) ?_
          obtain ⟨r_16, hc_15, hp⟩ := bn1_s hp
          refine k_ROV (As := [.int p2]) (rest := [.int r_14]) ⟨hx, hb, hml, hown, hts⟩ hK hP (cw_X12_156 hts ⟨Nat.le_of_ble_eq_true rfl, Nat.le_of_ble_eq_true rfl⟩) 0 (ci := 12) rfl rfl rfl (c_X12_earliest l D cy qmo mo p2 r_16 hc_15) rfl hl.1 (Nat.le_of_ble_eq_true rfl) ⟨Nat.le_refl _, Nat.le_refl _⟩ dX12_exchange_44 ?_
          refine lv_icmp_lt (tgt := 64) hx hb dX12_exchange_47 (by decide) (fun c_17 => ?_) (fun c_17 => ?_)
          · have hp := ite_p hp c_17
            refine lc_X12_209 hx hb hts hown dX12_exchange_64 ?_
            simp only [Option.some.injEq, Prod.mk.injEq] at hp
            obtain ⟨h0, rfl⟩ := hp
            exact e_RIi hx hb hr hk hP hD hS dX12_exchange_66 h0
          · have hp := ite_n hp c_17
            refine lv_aload_n hx hb dX12_exchange_50 rfl (lv_at hl 0 rfl) ?_
            refine lv_iload_n hx hb dX12_exchange_51 rfl (lv_at hl 2 rfl) ?_
            refine lv_iconst (v := 4) hx hb dX12_exchange_52 (by decide) ?_
            obtain ⟨r_19, hc_18, hp⟩ := bn1_s hp
            refine k_ROV (As := [.int p2, .int 4]) (rest := []) ⟨hx, hb, hml, hown, hts⟩ hK hP (cw_X12_128 hts ⟨Nat.le_of_ble_eq_true rfl, Nat.le_of_ble_eq_true rfl⟩) 0 (ci := 12) rfl rfl rfl (c_X12_of l D cy qmo mo p2 4 r_19 hc_18) rfl hl.1 (Nat.le_of_ble_eq_true rfl) ⟨Nat.le_refl _, Nat.le_refl _⟩ dX12_exchange_53 ?_
            refine lv_aload_n hx hb dX12_exchange_56 rfl (lv_at hl 0 rfl) ?_
            refine lv_iload_n hx hb dX12_exchange_57 rfl (lv_at hl 1 rfl) ?_
            obtain ⟨r_21, hc_20, hp⟩ := bn1_s hp
            refine k_ROV (As := [.int p1]) (rest := [.int r_19]) ⟨hx, hb, hml, hown, hts⟩ hK hP (cw_X12_156 hts ⟨Nat.le_of_ble_eq_true rfl, Nat.le_of_ble_eq_true rfl⟩) 0 (ci := 12) rfl rfl rfl (c_X12_earliest l D cy qmo mo p1 r_21 hc_20) rfl hl.1 (Nat.le_of_ble_eq_true rfl) ⟨Nat.le_refl _, Nat.le_refl _⟩ dX12_exchange_58 ?_
            refine lv_icmp_ge (tgt := 67) hx hb dX12_exchange_61 (by decide) (fun c_22 => ?_) (fun c_22 => ?_)
            · have hp := ite_p hp c_22
              refine lv_aload_n hx hb dX12_exchange_67 rfl (lv_at hl 0 rfl) ?_
              obtain ⟨r_24, hc_23, hp⟩ := bn1_s hp
              refine k_ROV (As := []) (rest := []) ⟨hx, hb, hml, hown, hts⟩ hK hP (cw_X12_210 hts ⟨Nat.le_of_ble_eq_true rfl, Nat.le_of_ble_eq_true rfl⟩) 0 (ci := 12) rfl rfl rfl (c_X12_allCost l D cy qmo mo r_24 hc_23) rfl hl.1 (Nat.le_of_ble_eq_true rfl) ⟨Nat.le_refl _, Nat.le_refl _⟩ dX12_exchange_68 ?_
              refine lv_istore_n (lv' := [(3, .int r_24), (0, .ref (qmo 0)), (1, .int p1), (2, .int p2)]) hx hb dX12_exchange_71 rfl hl (by decide) rfl (fun ls hl => ?_)
              refine lv_aload_n hx hb dX12_exchange_72 rfl (lv_at hl 1 rfl) ?_
              refine lv_iload_n hx hb dX12_exchange_73 rfl (lv_at hl 2 rfl) ?_
              refine lv_iload_n hx hb dX12_exchange_74 rfl (lv_at hl 3 rfl) ?_
              obtain ⟨mo_26, hc_25, hp⟩ := bn1_s hp
              refine k_RVV (As := [.int p1, .int p2]) (rest := []) ⟨hx, hb, hml, hown, hts⟩ hK hP hD hS hA FrS_rf (cw_X12_213 hts ⟨Nat.le_of_ble_eq_true rfl, Nat.le_of_ble_eq_true rfl⟩) 0 (ci := 12) rfl rfl rfl (c_X12_swaps l D cy qmo mo p1 p2 mo_26 hc_25) rfl hl.1 (Nat.le_of_ble_eq_true rfl) ⟨Nat.le_refl _, Nat.le_refl _⟩ dX12_exchange_75 (fun H locs hP hD hS => ?_)
              refine lv_iload_n hx hb dX12_exchange_78 rfl (lv_at hl 0 rfl) ?_
              refine lv_aload_n hx hb dX12_exchange_79 rfl (lv_at hl 1 rfl) ?_
              obtain ⟨r_28, hc_27, hp⟩ := bn1_s hp
              refine k_ROV (As := []) (rest := [.int r_24]) ⟨hx, hb, hml, hown, hts⟩ hK hP (cw_X12_210 hts ⟨Nat.le_of_ble_eq_true rfl, Nat.le_of_ble_eq_true rfl⟩) 0 (ci := 12) rfl rfl rfl (c_X12_allCost l D cy qmo mo_26 r_28 hc_27) rfl hl.1 (Nat.le_of_ble_eq_true rfl) ⟨Nat.le_refl _, Nat.le_refl _⟩ dX12_exchange_80 ?_
              refine lv_isub hx hb dX12_exchange_83 ?_
              simp only [Option.some.injEq, Prod.mk.injEq] at hp
              obtain ⟨h0, rfl⟩ := hp
              exact e_RIi hx hb hr hk hP hD hS dX12_exchange_84 h0
            · have hp := ite_n hp c_22
              refine lc_X12_209 hx hb hts hown dX12_exchange_64 ?_
              simp only [Option.some.injEq, Prod.mk.injEq] at hp
              obtain ⟨h0, rfl⟩ := hp
              exact e_RIi hx hb hr hk hP hD hS dX12_exchange_66 h0
/-! StormSlotsModel.move(II)I -/
def Mo_move (mo : Mem) (p1 : Int32) (p2 : Int32) : Option (Int32 × Mem) :=
  bn1 (Mo_isFlight mo p1) (fun r_2 => if r_2 = 0 then some ((-1), mo) else bn1 (Mo_isMinute p2) (fun r_5 => if r_5 = 0 then some ((-1), mo) else bn1 (Mo_isGround mo p1) (fun r_8 => if r_8 = 0 then some ((-2), mo) else ckI (252 + p2) 1452 (bn1 (Mo_of mo p1 0) (fun r_12 => if (mo 0 (252 + p2).toNatClampNeg) = (r_12 + 1) then bn1 (Mo_earliest mo p1) (fun r_15 => if r_15 ≤ p2 then bn1 (Mo_of mo p1 4) (fun r_18 => stk (upm mo 0 (252 + p2).toNatClampNeg 0) (fun mo_19 => bn1 (Mo_of mo_19 p1 0) (fun r_21 => ckI (252 + r_18) 1452 (stk (upm mo_19 0 (252 + r_18).toNatClampNeg (r_21 + 1)) (fun mo_23 => bn1 (Mo_gives mo_23 p1 p2) (fun mo_25 => some (r_18, mo_25))))))) else some ((-2), mo)) else some ((-2), mo))))))
set_option maxHeartbeats 4000000 in
set_option maxRecDepth 100000 in
theorem c_X12_move (l : Launch) (D : va_G) (cy : Nat → ClassId) (qmo : Nat → Nat) (mo : Mem) (p1 p2 : Int32) (r : Int32) (mo' : Mem) (hp : Mo_move mo p1 p2 = some (r, mo')) : RI l yX12_move cX12_move 4 (some .int) 4 D cy [.ref (qmo 0), .int p1, .int p2] (w_Mo cy qmo mo) (w_Mo cy qmo mo') r := by
  refine RI_of RX12 rfl (by decide) (Nat.le_of_ble_eq_true rfl) ?_
  intro p e s m below meth c A C0 hK hP hD hS hA ls hl
  obtain ⟨hx, hb, hr, hml, hown, hts, hk⟩ := id C0
  unfold Mo_move at hp
  have hl : lv_has ls 4 [(0, .ref (qmo 0)), (1, .int p1), (2, .int p2)] := hl
  refine lv_aload_n hx hb dX12_move_0 rfl (lv_at hl 0 rfl) ?_
  refine lv_iload_n hx hb dX12_move_1 rfl (lv_at hl 1 rfl) ?_
  obtain ⟨r_2, hc_1, hp⟩ := bn1_s hp
  refine k_ROV (As := [.int p1]) (rest := []) ⟨hx, hb, hml, hown, hts⟩ hK hP (cw_X12_153 hts ⟨Nat.le_of_ble_eq_true rfl, Nat.le_of_ble_eq_true rfl⟩) 0 (ci := 12) rfl rfl rfl (c_X12_isFlight l D cy qmo mo p1 r_2 hc_1) rfl hl.1 (Nat.le_of_ble_eq_true rfl) ⟨Nat.le_refl _, Nat.le_refl _⟩ dX12_move_2 ?_
  refine lv_if_eq (tgt := 15) hx hb dX12_move_5 (by decide) (fun c_3 => ?_) (fun c_3 => ?_)
  · have hp := ite_p hp c_3
    refine lv_iconst (v := (-1)) hx hb dX12_move_15 (by decide) ?_
    simp only [Option.some.injEq, Prod.mk.injEq] at hp
    obtain ⟨h0, rfl⟩ := hp
    exact e_RIi hx hb hr hk hP hD hS dX12_move_16 h0
  · have hp := ite_n hp c_3
    refine lv_iload_n hx hb dX12_move_8 rfl (lv_at hl 2 rfl) ?_
    obtain ⟨r_5, hc_4, hp⟩ := bn1_s hp
    refine k_ROS (As := [.int p2]) (rest := []) ⟨hx, hb, hml, hown, hts⟩ hK (show va_P D vwCl [] _ from fun k q h => by simp at h) (cw_X12_162 hts ⟨Nat.le_of_ble_eq_true rfl, Nat.le_of_ble_eq_true rfl⟩) (c_X12_isMinute l D cy p2 r_5 hc_4) rfl hl.1 (Nat.le_of_ble_eq_true rfl) ⟨Nat.le_refl _, Nat.le_refl _⟩ dX12_move_9 ?_
    refine lv_if_ne (tgt := 17) hx hb dX12_move_12 (by decide) (fun c_6 => ?_) (fun c_6 => ?_)
    · have hp := ite_n hp c_6
      refine lv_aload_n hx hb dX12_move_17 rfl (lv_at hl 0 rfl) ?_
      refine lv_iload_n hx hb dX12_move_18 rfl (lv_at hl 1 rfl) ?_
      obtain ⟨r_8, hc_7, hp⟩ := bn1_s hp
      refine k_ROV (As := [.int p1]) (rest := []) ⟨hx, hb, hml, hown, hts⟩ hK hP (cw_X12_203 hts ⟨Nat.le_of_ble_eq_true rfl, Nat.le_of_ble_eq_true rfl⟩) 0 (ci := 12) rfl rfl rfl (c_X12_isGround l D cy qmo mo p1 r_8 hc_7) rfl hl.1 (Nat.le_of_ble_eq_true rfl) ⟨Nat.le_refl _, Nat.le_refl _⟩ dX12_move_19 ?_
      refine lv_if_eq (tgt := 55) hx hb dX12_move_22 (by decide) (fun c_9 => ?_) (fun c_9 => ?_)
      · have hp := ite_p hp c_9
        refine lv_bipush (v := (-2)) hx hb dX12_move_55 (by decide) ?_
        simp only [Option.some.injEq, Prod.mk.injEq] at hp
        obtain ⟨h0, rfl⟩ := hp
        exact e_RIi hx hb hr hk hP hD hS dX12_move_57 h0
      · have hp := ite_n hp c_9
        refine lv_aload_n hx hb dX12_move_25 rfl (lv_at hl 0 rfl) ?_
        refine gf_X12_7 hx hb hts hown hK hP 0 rfl rfl dX12_move_26 ?_
        refine lv_sipush (v := 252) hx hb dX12_move_29 (by decide) ?_
        refine lv_iload_n hx hb dX12_move_32 rfl (lv_at hl 2 rfl) ?_
        refine lv_iadd hx hb dX12_move_33 ?_
        obtain ⟨hi_10, hp⟩ := ckI_s hp
        refine r_ild hx hb hK hP 1 rfl hi_10 dX12_move_34 ?_
        refine lv_aload_n hx hb dX12_move_35 rfl (lv_at hl 0 rfl) ?_
        refine lv_iload_n hx hb dX12_move_36 rfl (lv_at hl 1 rfl) ?_
        refine lv_iconst (v := 0) hx hb dX12_move_37 (by decide) ?_
        obtain ⟨r_12, hc_11, hp⟩ := bn1_s hp
        refine k_ROV (As := [.int p1, .int 0]) (rest := [.int (mo 0 (252 + p2).toNatClampNeg)]) ⟨hx, hb, hml, hown, hts⟩ hK hP (cw_X12_128 hts ⟨Nat.le_of_ble_eq_true rfl, Nat.le_of_ble_eq_true rfl⟩) 0 (ci := 12) rfl rfl rfl (c_X12_of l D cy qmo mo p1 0 r_12 hc_11) rfl hl.1 (Nat.le_of_ble_eq_true rfl) ⟨Nat.le_refl _, Nat.le_refl _⟩ dX12_move_38 ?_
        refine lv_iconst (v := 1) hx hb dX12_move_41 (by decide) ?_
        refine lv_iadd hx hb dX12_move_42 ?_
        refine lv_icmp_ne (tgt := 55) hx hb dX12_move_43 (by decide) (fun c_13 => ?_) (fun c_13 => ?_)
        · have hp := ite_n hp c_13
          refine lv_bipush (v := (-2)) hx hb dX12_move_55 (by decide) ?_
          simp only [Option.some.injEq, Prod.mk.injEq] at hp
          obtain ⟨h0, rfl⟩ := hp
          exact e_RIi hx hb hr hk hP hD hS dX12_move_57 h0
        · have hp := ite_p hp c_13
          refine lv_iload_n hx hb dX12_move_46 rfl (lv_at hl 2 rfl) ?_
          refine lv_aload_n hx hb dX12_move_47 rfl (lv_at hl 0 rfl) ?_
          refine lv_iload_n hx hb dX12_move_48 rfl (lv_at hl 1 rfl) ?_
          obtain ⟨r_15, hc_14, hp⟩ := bn1_s hp
          refine k_ROV (As := [.int p1]) (rest := [.int p2]) ⟨hx, hb, hml, hown, hts⟩ hK hP (cw_X12_156 hts ⟨Nat.le_of_ble_eq_true rfl, Nat.le_of_ble_eq_true rfl⟩) 0 (ci := 12) rfl rfl rfl (c_X12_earliest l D cy qmo mo p1 r_15 hc_14) rfl hl.1 (Nat.le_of_ble_eq_true rfl) ⟨Nat.le_refl _, Nat.le_refl _⟩ dX12_move_49 ?_
          refine lv_icmp_ge (tgt := 58) hx hb dX12_move_52 (by decide) (fun c_16 => ?_) (fun c_16 => ?_)
          · have hp := ite_p hp c_16
            refine lv_aload_n hx hb dX12_move_58 rfl (lv_at hl 0 rfl) ?_
            refine lv_iload_n hx hb dX12_move_59 rfl (lv_at hl 1 rfl) ?_
            refine lv_iconst (v := 4) hx hb dX12_move_60 (by decide) ?_
            obtain ⟨r_18, hc_17, hp⟩ := bn1_s hp
            refine k_ROV (As := [.int p1, .int 4]) (rest := []) ⟨hx, hb, hml, hown, hts⟩ hK hP (cw_X12_128 hts ⟨Nat.le_of_ble_eq_true rfl, Nat.le_of_ble_eq_true rfl⟩) 0 (ci := 12) rfl rfl rfl (c_X12_of l D cy qmo mo p1 4 r_18 hc_17) rfl hl.1 (Nat.le_of_ble_eq_true rfl) ⟨Nat.le_refl _, Nat.le_refl _⟩ dX12_move_61 ?_
            refine lv_istore_n (lv' := [(3, .int r_18), (0, .ref (qmo 0)), (1, .int p1), (2, .int p2)]) hx hb dX12_move_64 rfl hl (by decide) rfl (fun ls hl => ?_)
            refine lv_aload_n hx hb dX12_move_65 rfl (lv_at hl 1 rfl) ?_
            refine gf_X12_7 hx hb hts hown hK hP 0 rfl rfl dX12_move_66 ?_
            refine lv_sipush (v := 252) hx hb dX12_move_69 (by decide) ?_
            refine lv_iload_n hx hb dX12_move_72 rfl (lv_at hl 3 rfl) ?_
            refine lv_iadd hx hb dX12_move_73 ?_
            refine lv_iconst (v := 0) hx hb dX12_move_74 (by decide) ?_
            obtain ⟨mo_19, emo_19⟩ : ∃ y : Mem, y = upm mo 0 (252 + p2).toNatClampNeg 0 := ⟨_, rfl⟩
            have hp := stk_e hp emo_19
            refine r_ist hx hb hK hP hD hS (wn := (w_Mo cy qmo mo_19)) 1 rfl hi_10 (by subst emo_19; rfl) dX12_move_75 (fun H locs hP hD hS => ?_)
            refine lv_aload_n hx hb dX12_move_76 rfl (lv_at hl 1 rfl) ?_
            refine gf_X12_7 hx hb hts hown hK hP 0 rfl rfl dX12_move_77 ?_
            refine lv_sipush (v := 252) hx hb dX12_move_80 (by decide) ?_
            refine lv_iload_n hx hb dX12_move_83 rfl (lv_at hl 0 rfl) ?_
            refine lv_iadd hx hb dX12_move_84 ?_
            refine lv_aload_n hx hb dX12_move_85 rfl (lv_at hl 1 rfl) ?_
            refine lv_iload_n hx hb dX12_move_86 rfl (lv_at hl 2 rfl) ?_
            refine lv_iconst (v := 0) hx hb dX12_move_87 (by decide) ?_
            obtain ⟨r_21, hc_20, hp⟩ := bn1_s hp
            refine k_ROV (As := [.int p1, .int 0]) (rest := [.int (252 + r_18), .ref (qmo 1)]) ⟨hx, hb, hml, hown, hts⟩ hK hP (cw_X12_128 hts ⟨Nat.le_of_ble_eq_true rfl, Nat.le_of_ble_eq_true rfl⟩) 0 (ci := 12) rfl rfl rfl (c_X12_of l D cy qmo mo_19 p1 0 r_21 hc_20) rfl hl.1 (Nat.le_of_ble_eq_true rfl) ⟨Nat.le_refl _, Nat.le_refl _⟩ dX12_move_88 ?_
            refine lv_iconst (v := 1) hx hb dX12_move_91 (by decide) ?_
            refine lv_iadd hx hb dX12_move_92 ?_
            obtain ⟨hi_22, hp⟩ := ckI_s hp
            obtain ⟨mo_23, emo_23⟩ : ∃ y : Mem, y = upm mo_19 0 (252 + r_18).toNatClampNeg (r_21 + 1) := ⟨_, rfl⟩
            have hp := stk_e hp emo_23
            refine r_ist hx hb hK hP hD hS (wn := (w_Mo cy qmo mo_23)) 1 rfl hi_22 (by subst emo_23; rfl) dX12_move_93 (fun H locs hP hD hS => ?_)
            refine lv_aload_n hx hb dX12_move_94 rfl (lv_at hl 1 rfl) ?_
            refine lv_iload_n hx hb dX12_move_95 rfl (lv_at hl 2 rfl) ?_
            refine lv_iload_n hx hb dX12_move_96 rfl (lv_at hl 3 rfl) ?_
            obtain ⟨mo_25, hc_24, hp⟩ := bn1_s hp
            refine k_RVV (As := [.int p1, .int p2]) (rest := []) ⟨hx, hb, hml, hown, hts⟩ hK hP hD hS hA FrS_rf (cw_X12_174 hts ⟨Nat.le_of_ble_eq_true rfl, Nat.le_of_ble_eq_true rfl⟩) 0 (ci := 12) rfl rfl rfl (c_X12_gives l D cy qmo mo_23 p1 p2 mo_25 hc_24) rfl hl.1 (Nat.le_of_ble_eq_true rfl) ⟨Nat.le_refl _, Nat.le_refl _⟩ dX12_move_97 (fun H locs hP hD hS => ?_)
            refine lv_iload_n hx hb dX12_move_100 rfl (lv_at hl 0 rfl) ?_
            simp only [Option.some.injEq, Prod.mk.injEq] at hp
            obtain ⟨h0, rfl⟩ := hp
            exact e_RIi hx hb hr hk hP hD hS dX12_move_101 h0
          · have hp := ite_n hp c_16
            refine lv_bipush (v := (-2)) hx hb dX12_move_55 (by decide) ?_
            simp only [Option.some.injEq, Prod.mk.injEq] at hp
            obtain ⟨h0, rfl⟩ := hp
            exact e_RIi hx hb hr hk hP hD hS dX12_move_57 h0
    · have hp := ite_p hp c_6
      refine lv_iconst (v := (-1)) hx hb dX12_move_15 (by decide) ?_
      simp only [Option.some.injEq, Prod.mk.injEq] at hp
      obtain ⟨h0, rfl⟩ := hp
      exact e_RIi hx hb hr hk hP hD hS dX12_move_16 h0
/-! StormSlotsModel.fillerOf(II)I -/
def Mo_fillerOf_b43 (mo : Mem) (p1 : Int32) (p2 : Int32) (k5 : Int32 → Int32 → Option (Int32)) (x3 : Int32) (x4 : Int32) : Option (Int32) :=
  bn1 (Mo_of mo x4 4) (fun r_13 => if r_13 ≤ p1 then stk (x4 + 1) (fun x4_15 => k5 x3 x4_15) else bn1 (Mo_earliest mo x4) (fun r_17 => if r_17 ≤ p1 then if x3 = (-1) then stk (x4 + 1) (fun x4_20 => k5 x4 x4_20) else bn1 (Mo_of mo x4 4) (fun r_22 => bn1 (Mo_of mo x3 4) (fun r_24 => if r_24 ≤ r_22 then stk (x4 + 1) (fun x4_26 => k5 x3 x4_26) else stk (x4 + 1) (fun x4_27 => k5 x4 x4_27))) else stk (x4 + 1) (fun x4_28 => k5 x3 x4_28)))
def Mo_fillerOf_b5B (mo : Mem) (p1 : Int32) (p2 : Int32) (k5 : Int32 → Int32 → Option (Int32)) (x3 : Int32) (x4 : Int32) : Option (Int32) :=
  ckI 173 1452 (if (mo 0 (173 : Int32).toNatClampNeg) ≤ x4 then some x3 else bn1 (Mo_isGround mo x4) (fun r_4 => if r_4 = 0 then stk (x4 + 1) (fun x4_6 => k5 x3 x4_6) else if p2 = (-1) then Mo_fillerOf_b43 mo p1 p2 k5 x3 x4 else bn1 (Mo_of mo x4 0) (fun r_9 => if r_9 = p2 then Mo_fillerOf_b43 mo p1 p2 k5 x3 x4 else stk (x4 + 1) (fun x4_11 => k5 x3 x4_11))))
def Mo_fillerOf_b5 (mo : Mem) (p1 : Int32) (p2 : Int32) : Nat → Int32 → Int32 → Option (Int32)
  | 0 => fun _ _ => none
  | n + 1 => Mo_fillerOf_b5B mo p1 p2 (Mo_fillerOf_b5 mo p1 p2 n)
def Mo_fillerOf (mo : Mem) (p1 : Int32) (p2 : Int32) : Option (Int32) :=
  Mo_fillerOf_b5 mo p1 p2 fl (-1) 0
set_option maxHeartbeats 4000000 in
set_option maxRecDepth 100000 in
theorem Mo_fillerOf_b43_w (C0 : cX RX12 cX12_fillerOf (some .int) 5 p s m args meth c) (hK : kN D cy s) {qmo : Nat → Nat} {mo : Mem} {p1 p2 : Int32} {r : Int32} (hP : va_P D vwCl (w_Mo cy qmo mo) s.heap) {k5 : Int32 → Int32 → Option (Int32)} (hk5 : ∀ (x3 x4 : Int32) (ls : Array Slot), lv_has ls 5 [(0, .ref (qmo 0)), (1, .int p1), (2, .int p2), (3, .int x3), (4, .int x4)] → k5 x3 x4 = some r → W p l e (rmD 4) s m args below meth c s.heap [] 0 0 (qRO below args s r) (F0 m 5 ls [])) {x3 : Int32} {x4 : Int32} {ls : Array Slot} (hl : lv_has ls 5 [(0, .ref (qmo 0)), (1, .int p1), (2, .int p2), (3, .int x3), (4, .int x4)]) (hp : Mo_fillerOf_b43 mo p1 p2 k5 x3 x4 = some r) : W p l e (rmD 4) s m args below meth c s.heap [] 0 0 (qRO below args s r) (F0 m 43 ls []) := by
  obtain ⟨hx, hb, hr, hml, hown, hts, hk⟩ := id C0
  unfold Mo_fillerOf_b43 at hp
  refine lv_aload_n hx hb dX12_fillerOf_43 rfl (lv_at hl 0 rfl) ?_
  refine lv_iload hx hb dX12_fillerOf_44 (lv_at hl 4 rfl) ?_
  refine lv_iconst (v := 4) hx hb dX12_fillerOf_46 (by decide) ?_
  obtain ⟨r_13, hc_12, hp⟩ := bn1_s hp
  refine k_ROV (As := [.int x4, .int 4]) (rest := []) ⟨hx, hb, hml, hown, hts⟩ hK hP (cw_X12_128 hts ⟨Nat.le_of_ble_eq_true rfl, Nat.le_of_ble_eq_true rfl⟩) 0 (ci := 12) rfl rfl rfl (c_X12_of l D cy qmo mo x4 4 r_13 hc_12) rfl hl.1 (Nat.le_of_ble_eq_true rfl) ⟨Nat.le_refl _, Nat.le_refl _⟩ dX12_fillerOf_47 ?_
  refine lv_iload_n hx hb dX12_fillerOf_50 rfl (lv_at hl 1 rfl) ?_
  refine lv_icmp_le (tgt := 91) hx hb dX12_fillerOf_51 (by decide) (fun c_14 => ?_) (fun c_14 => ?_)
  · have hp := ite_p hp c_14
    obtain ⟨x4_15, ex4_15⟩ : ∃ y : Int32, y = x4 + 1 := ⟨_, rfl⟩
    have hp := stk_e hp ex4_15
    refine lv_iinc (v := x4_15) (lv' := [(4, .int x4_15), (0, .ref (qmo 0)), (1, .int p1), (2, .int p2), (3, .int x3)]) hx hb dX12_fillerOf_91 hl (k := 4) rfl (by rw [ex4_15]; rfl) (by decide) rfl (fun ls hl => ?_)
    refine lv_goto (tgt := 5) hx hb dX12_fillerOf_94 (by decide) ?_
    exact hk5 x3 x4_15 _ (lv_sub hl [1, 2, 3, 4, 0] rfl) hp
  · have hp := ite_n hp c_14
    refine lv_aload_n hx hb dX12_fillerOf_54 rfl (lv_at hl 0 rfl) ?_
    refine lv_iload hx hb dX12_fillerOf_55 (lv_at hl 4 rfl) ?_
    obtain ⟨r_17, hc_16, hp⟩ := bn1_s hp
    refine k_ROV (As := [.int x4]) (rest := []) ⟨hx, hb, hml, hown, hts⟩ hK hP (cw_X12_156 hts ⟨Nat.le_of_ble_eq_true rfl, Nat.le_of_ble_eq_true rfl⟩) 0 (ci := 12) rfl rfl rfl (c_X12_earliest l D cy qmo mo x4 r_17 hc_16) rfl hl.1 (Nat.le_of_ble_eq_true rfl) ⟨Nat.le_refl _, Nat.le_refl _⟩ dX12_fillerOf_57 ?_
    refine lv_iload_n hx hb dX12_fillerOf_60 rfl (lv_at hl 1 rfl) ?_
    refine lv_icmp_le (tgt := 67) hx hb dX12_fillerOf_61 (by decide) (fun c_18 => ?_) (fun c_18 => ?_)
    · have hp := ite_p hp c_18
      refine lv_iload_n hx hb dX12_fillerOf_67 rfl (lv_at hl 3 rfl) ?_
      refine lv_iconst (v := (-1)) hx hb dX12_fillerOf_68 (by decide) ?_
      refine lv_icmp_eq (tgt := 88) hx hb dX12_fillerOf_69 (by decide) (fun c_19 => ?_) (fun c_19 => ?_)
      · have hp := ite_p hp c_19
        refine lv_iload hx hb dX12_fillerOf_88 (lv_at hl 4 rfl) ?_
        refine lv_istore_n (lv' := [(3, .int x4), (0, .ref (qmo 0)), (1, .int p1), (2, .int p2), (4, .int x4)]) hx hb dX12_fillerOf_90 rfl hl (by decide) rfl (fun ls hl => ?_)
        obtain ⟨x4_20, ex4_20⟩ : ∃ y : Int32, y = x4 + 1 := ⟨_, rfl⟩
        have hp := stk_e hp ex4_20
        refine lv_iinc (v := x4_20) (lv' := [(4, .int x4_20), (3, .int x4), (0, .ref (qmo 0)), (1, .int p1), (2, .int p2)]) hx hb dX12_fillerOf_91 hl (k := 4) rfl (by rw [ex4_20]; rfl) (by decide) rfl (fun ls hl => ?_)
        refine lv_goto (tgt := 5) hx hb dX12_fillerOf_94 (by decide) ?_
        exact hk5 x4 x4_20 _ (lv_sub hl [2, 3, 4, 1, 0] rfl) hp
      · have hp := ite_n hp c_19
        refine lv_aload_n hx hb dX12_fillerOf_72 rfl (lv_at hl 0 rfl) ?_
        refine lv_iload hx hb dX12_fillerOf_73 (lv_at hl 4 rfl) ?_
        refine lv_iconst (v := 4) hx hb dX12_fillerOf_75 (by decide) ?_
        obtain ⟨r_22, hc_21, hp⟩ := bn1_s hp
        refine k_ROV (As := [.int x4, .int 4]) (rest := []) ⟨hx, hb, hml, hown, hts⟩ hK hP (cw_X12_128 hts ⟨Nat.le_of_ble_eq_true rfl, Nat.le_of_ble_eq_true rfl⟩) 0 (ci := 12) rfl rfl rfl (c_X12_of l D cy qmo mo x4 4 r_22 hc_21) rfl hl.1 (Nat.le_of_ble_eq_true rfl) ⟨Nat.le_refl _, Nat.le_refl _⟩ dX12_fillerOf_76 ?_
        refine lv_aload_n hx hb dX12_fillerOf_79 rfl (lv_at hl 0 rfl) ?_
        refine lv_iload_n hx hb dX12_fillerOf_80 rfl (lv_at hl 3 rfl) ?_
        refine lv_iconst (v := 4) hx hb dX12_fillerOf_81 (by decide) ?_
        obtain ⟨r_24, hc_23, hp⟩ := bn1_s hp
        refine k_ROV (As := [.int x3, .int 4]) (rest := [.int r_22]) ⟨hx, hb, hml, hown, hts⟩ hK hP (cw_X12_128 hts ⟨Nat.le_of_ble_eq_true rfl, Nat.le_of_ble_eq_true rfl⟩) 0 (ci := 12) rfl rfl rfl (c_X12_of l D cy qmo mo x3 4 r_24 hc_23) rfl hl.1 (Nat.le_of_ble_eq_true rfl) ⟨Nat.le_refl _, Nat.le_refl _⟩ dX12_fillerOf_82 ?_
        refine lv_icmp_ge (tgt := 91) hx hb dX12_fillerOf_85 (by decide) (fun c_25 => ?_) (fun c_25 => ?_)
        · have hp := ite_p hp c_25
          obtain ⟨x4_26, ex4_26⟩ : ∃ y : Int32, y = x4 + 1 := ⟨_, rfl⟩
          have hp := stk_e hp ex4_26
          refine lv_iinc (v := x4_26) (lv' := [(4, .int x4_26), (0, .ref (qmo 0)), (1, .int p1), (2, .int p2), (3, .int x3)]) hx hb dX12_fillerOf_91 hl (k := 4) rfl (by rw [ex4_26]; rfl) (by decide) rfl (fun ls hl => ?_)
          refine lv_goto (tgt := 5) hx hb dX12_fillerOf_94 (by decide) ?_
          exact hk5 x3 x4_26 _ (lv_sub hl [1, 2, 3, 4, 0] rfl) hp
        · have hp := ite_n hp c_25
          refine lv_iload hx hb dX12_fillerOf_88 (lv_at hl 4 rfl) ?_
          refine lv_istore_n (lv' := [(3, .int x4), (0, .ref (qmo 0)), (1, .int p1), (2, .int p2), (4, .int x4)]) hx hb dX12_fillerOf_90 rfl hl (by decide) rfl (fun ls hl => ?_)
          obtain ⟨x4_27, ex4_27⟩ : ∃ y : Int32, y = x4 + 1 := ⟨_, rfl⟩
          have hp := stk_e hp ex4_27
          refine lv_iinc (v := x4_27) (lv' := [(4, .int x4_27), (3, .int x4), (0, .ref (qmo 0)), (1, .int p1), (2, .int p2)]) hx hb dX12_fillerOf_91 hl (k := 4) rfl (by rw [ex4_27]; rfl) (by decide) rfl (fun ls hl => ?_)
          refine lv_goto (tgt := 5) hx hb dX12_fillerOf_94 (by decide) ?_
          exact hk5 x4 x4_27 _ (lv_sub hl [2, 3, 4, 1, 0] rfl) hp
    · have hp := ite_n hp c_18
      refine lv_goto (tgt := 91) hx hb dX12_fillerOf_64 (by decide) ?_
      obtain ⟨x4_28, ex4_28⟩ : ∃ y : Int32, y = x4 + 1 := ⟨_, rfl⟩
      have hp := stk_e hp ex4_28
      refine lv_iinc (v := x4_28) (lv' := [(4, .int x4_28), (0, .ref (qmo 0)), (1, .int p1), (2, .int p2), (3, .int x3)]) hx hb dX12_fillerOf_91 hl (k := 4) rfl (by rw [ex4_28]; rfl) (by decide) rfl (fun ls hl => ?_)
      refine lv_goto (tgt := 5) hx hb dX12_fillerOf_94 (by decide) ?_
      exact hk5 x3 x4_28 _ (lv_sub hl [1, 2, 3, 4, 0] rfl) hp
set_option maxHeartbeats 4000000 in
set_option maxRecDepth 100000 in
theorem Mo_fillerOf_b5B_w (C0 : cX RX12 cX12_fillerOf (some .int) 5 p s m args meth c) (hK : kN D cy s) {qmo : Nat → Nat} {mo : Mem} {p1 p2 : Int32} {r : Int32} (hP : va_P D vwCl (w_Mo cy qmo mo) s.heap) {k5 : Int32 → Int32 → Option (Int32)} (hk5 : ∀ (x3 x4 : Int32) (ls : Array Slot), lv_has ls 5 [(0, .ref (qmo 0)), (1, .int p1), (2, .int p2), (3, .int x3), (4, .int x4)] → k5 x3 x4 = some r → W p l e (rmD 4) s m args below meth c s.heap [] 0 0 (qRO below args s r) (F0 m 5 ls [])) {x3 : Int32} {x4 : Int32} {ls : Array Slot} (hl : lv_has ls 5 [(0, .ref (qmo 0)), (1, .int p1), (2, .int p2), (3, .int x3), (4, .int x4)]) (hp : Mo_fillerOf_b5B mo p1 p2 k5 x3 x4 = some r) : W p l e (rmD 4) s m args below meth c s.heap [] 0 0 (qRO below args s r) (F0 m 5 ls []) := by
  obtain ⟨hx, hb, hr, hml, hown, hts, hk⟩ := id C0
  unfold Mo_fillerOf_b5B at hp
  refine lv_iload hx hb dX12_fillerOf_5 (lv_at hl 4 rfl) ?_
  refine lv_aload_n hx hb dX12_fillerOf_7 rfl (lv_at hl 0 rfl) ?_
  refine gf_X12_7 hx hb hts hown hK hP 0 rfl rfl dX12_fillerOf_8 ?_
  refine lv_sipush (v := 173) hx hb dX12_fillerOf_11 (by decide) ?_
  obtain ⟨hi_1, hp⟩ := ckI_s hp
  refine r_ild hx hb hK hP 1 rfl hi_1 dX12_fillerOf_14 ?_
  refine lv_icmp_ge (tgt := 97) hx hb dX12_fillerOf_15 (by decide) (fun c_2 => ?_) (fun c_2 => ?_)
  · have hp := ite_p hp c_2
    refine lv_iload_n hx hb dX12_fillerOf_97 rfl (lv_at hl 3 rfl) ?_
    exact e_ROi hx hb hr hk dX12_fillerOf_98 (Option.some.inj hp)
  · have hp := ite_n hp c_2
    refine lv_aload_n hx hb dX12_fillerOf_18 rfl (lv_at hl 0 rfl) ?_
    refine lv_iload hx hb dX12_fillerOf_19 (lv_at hl 4 rfl) ?_
    obtain ⟨r_4, hc_3, hp⟩ := bn1_s hp
    refine k_ROV (As := [.int x4]) (rest := []) ⟨hx, hb, hml, hown, hts⟩ hK hP (cw_X12_203 hts ⟨Nat.le_of_ble_eq_true rfl, Nat.le_of_ble_eq_true rfl⟩) 0 (ci := 12) rfl rfl rfl (c_X12_isGround l D cy qmo mo x4 r_4 hc_3) rfl hl.1 (Nat.le_of_ble_eq_true rfl) ⟨Nat.le_refl _, Nat.le_refl _⟩ dX12_fillerOf_21 ?_
    refine lv_if_eq (tgt := 91) hx hb dX12_fillerOf_24 (by decide) (fun c_5 => ?_) (fun c_5 => ?_)
    · have hp := ite_p hp c_5
      obtain ⟨x4_6, ex4_6⟩ : ∃ y : Int32, y = x4 + 1 := ⟨_, rfl⟩
      have hp := stk_e hp ex4_6
      refine lv_iinc (v := x4_6) (lv' := [(4, .int x4_6), (0, .ref (qmo 0)), (1, .int p1), (2, .int p2), (3, .int x3)]) hx hb dX12_fillerOf_91 hl (k := 4) rfl (by rw [ex4_6]; rfl) (by decide) rfl (fun ls hl => ?_)
      refine lv_goto (tgt := 5) hx hb dX12_fillerOf_94 (by decide) ?_
      exact hk5 x3 x4_6 _ (lv_sub hl [1, 2, 3, 4, 0] rfl) hp
    · have hp := ite_n hp c_5
      refine lv_iload_n hx hb dX12_fillerOf_27 rfl (lv_at hl 2 rfl) ?_
      refine lv_iconst (v := (-1)) hx hb dX12_fillerOf_28 (by decide) ?_
      refine lv_icmp_eq (tgt := 43) hx hb dX12_fillerOf_29 (by decide) (fun c_7 => ?_) (fun c_7 => ?_)
      · have hp := ite_p hp c_7
        exact Mo_fillerOf_b43_w C0 hK hP hk5 hl hp
      · have hp := ite_n hp c_7
        refine lv_aload_n hx hb dX12_fillerOf_32 rfl (lv_at hl 0 rfl) ?_
        refine lv_iload hx hb dX12_fillerOf_33 (lv_at hl 4 rfl) ?_
        refine lv_iconst (v := 0) hx hb dX12_fillerOf_35 (by decide) ?_
        obtain ⟨r_9, hc_8, hp⟩ := bn1_s hp
        refine k_ROV (As := [.int x4, .int 0]) (rest := []) ⟨hx, hb, hml, hown, hts⟩ hK hP (cw_X12_128 hts ⟨Nat.le_of_ble_eq_true rfl, Nat.le_of_ble_eq_true rfl⟩) 0 (ci := 12) rfl rfl rfl (c_X12_of l D cy qmo mo x4 0 r_9 hc_8) rfl hl.1 (Nat.le_of_ble_eq_true rfl) ⟨Nat.le_refl _, Nat.le_refl _⟩ dX12_fillerOf_36 ?_
        refine lv_iload_n hx hb dX12_fillerOf_39 rfl (lv_at hl 2 rfl) ?_
        refine lv_icmp_ne (tgt := 91) hx hb dX12_fillerOf_40 (by decide) (fun c_10 => ?_) (fun c_10 => ?_)
        · have hp := ite_n hp c_10
          obtain ⟨x4_11, ex4_11⟩ : ∃ y : Int32, y = x4 + 1 := ⟨_, rfl⟩
          have hp := stk_e hp ex4_11
          refine lv_iinc (v := x4_11) (lv' := [(4, .int x4_11), (0, .ref (qmo 0)), (1, .int p1), (2, .int p2), (3, .int x3)]) hx hb dX12_fillerOf_91 hl (k := 4) rfl (by rw [ex4_11]; rfl) (by decide) rfl (fun ls hl => ?_)
          refine lv_goto (tgt := 5) hx hb dX12_fillerOf_94 (by decide) ?_
          exact hk5 x3 x4_11 _ (lv_sub hl [1, 2, 3, 4, 0] rfl) hp
        · have hp := ite_p hp c_10
          exact Mo_fillerOf_b43_w C0 hK hP hk5 hl hp
theorem Mo_fillerOf_b5_w (C0 : cX RX12 cX12_fillerOf (some .int) 5 p s m args meth c) (hK : kN D cy s) {qmo : Nat → Nat} {mo : Mem} {p1 p2 : Int32} {r : Int32} (hP : va_P D vwCl (w_Mo cy qmo mo) s.heap) : ∀ (n : Nat) (x3 x4 : Int32) (ls : Array Slot), lv_has ls 5 [(0, .ref (qmo 0)), (1, .int p1), (2, .int p2), (3, .int x3), (4, .int x4)] → Mo_fillerOf_b5 mo p1 p2 n x3 x4 = some r → W p l e (rmD 4) s m args below meth c s.heap [] 0 0 (qRO below args s r) (F0 m 5 ls []) := by
  intro n
  induction n with
  | zero =>
    intro x3 x4 ls hl hp
    cases hp
  | succ n ih =>
    intro x3 x4 ls hl hp
    exact Mo_fillerOf_b5B_w C0 hK hP  (fun x3 x4 ls hl hp => ih x3 x4 ls hl hp) hl hp
set_option maxHeartbeats 4000000 in
set_option maxRecDepth 100000 in
theorem c_X12_fillerOf (l : Launch) (D : va_G) (cy : Nat → ClassId) (qmo : Nat → Nat) (mo : Mem) (p1 p2 : Int32) (r : Int32) (hp : Mo_fillerOf mo p1 p2 = some r) : RO l yX12_fillerOf cX12_fillerOf 5 (some .int) 4 D cy [.ref (qmo 0), .int p1, .int p2] (w_Mo cy qmo mo) r := by
  refine RO_of RX12 rfl (by decide) (Nat.le_of_ble_eq_true rfl) ?_
  intro p e s m below meth c C0 hK hP ls hl
  obtain ⟨hx, hb, hr, hml, hown, hts, hk⟩ := id C0
  unfold Mo_fillerOf at hp
  have hl : lv_has ls 5 [(0, .ref (qmo 0)), (1, .int p1), (2, .int p2)] := hl
  refine lv_iconst (v := (-1)) hx hb dX12_fillerOf_0 (by decide) ?_
  refine lv_istore_n (lv' := [(3, .int (-1)), (0, .ref (qmo 0)), (1, .int p1), (2, .int p2)]) hx hb dX12_fillerOf_1 rfl hl (by decide) rfl (fun ls hl => ?_)
  refine lv_iconst (v := 0) hx hb dX12_fillerOf_2 (by decide) ?_
  refine lv_istore (lv' := [(4, .int 0), (3, .int (-1)), (0, .ref (qmo 0)), (1, .int p1), (2, .int p2)]) hx hb dX12_fillerOf_3 hl (by decide) rfl (fun ls hl => ?_)
  exact Mo_fillerOf_b5_w C0 hK hP  fl (-1) 0 _ (lv_sub hl [2, 3, 4, 1, 0] rfl) hp
/-! StormSlotsModel.fills()I -/
def Mo_fills_b58 (k4 : Mem → Int32 → Int32 → Option (Int32 × Mem)) (mo : Mem) (x1 : Int32) (x2 : Int32) (x3 : Int32) (x4 : Int32) : Option (Int32 × Mem) :=
  if x4 = (-1) then stk (x2 + 1) (fun x2_21 => k4 mo x1 x2_21) else ckI (252 + x2) 1452 (stk (upm mo 0 (252 + x2).toNatClampNeg 0) (fun mo_13 => bn1 (Mo_of mo_13 x4 4) (fun r_15 => ckI (252 + r_15) 1452 (stk (upm mo_13 0 (252 + r_15).toNatClampNeg x3) (fun mo_17 => bn1 (Mo_gives mo_17 x4 x2) (fun mo_19 => stk (x1 + 1) (fun x1_20 => k4 mo_19 x1_20 0)))))))
def Mo_fills_b38 (k4 : Mem → Int32 → Int32 → Option (Int32 × Mem)) (mo : Mem) (x1 : Int32) (x2 : Int32) (x3 : Int32) (y0 : Int32) : Option (Int32 × Mem) :=
  if x3 ≤ 0 then Mo_fills_b58 k4 mo x1 x2 x3 y0 else if y0 = (-1) then bn1 (Mo_fillerOf mo x2 (-1)) (fun r_10 => Mo_fills_b58 k4 mo x1 x2 x3 r_10) else Mo_fills_b58 k4 mo x1 x2 x3 y0
def Mo_fills_b4B (k4 : Mem → Int32 → Int32 → Option (Int32 × Mem)) (mo : Mem) (x1 : Int32) (x2 : Int32) : Option (Int32 × Mem) :=
  if 1200 ≤ x2 then some (x1, mo) else ckI (252 + x2) 1452 (stk (mo 0 (252 + x2).toNatClampNeg) (fun x3_3 => if x3_3 = 0 then Mo_fills_b38 k4 mo x1 x2 x3_3 (-1) else bn1 (Mo_fillerOf mo x2 (x3_3 - 1)) (fun r_6 => Mo_fills_b38 k4 mo x1 x2 x3_3 r_6)))
def Mo_fills_b4 : Nat → Mem → Int32 → Int32 → Option (Int32 × Mem)
  | 0 => fun _ _ _ => none
  | n + 1 => Mo_fills_b4B  (Mo_fills_b4  n)
def Mo_fills (mo : Mem) : Option (Int32 × Mem) :=
  Mo_fills_b4 fl mo 0 0
set_option maxHeartbeats 4000000 in
set_option maxRecDepth 100000 in
theorem Mo_fills_b58_w (C0 : cX RX12 cX12_fills (some .int) 5 p s m args meth c) (hK : kN D cy s) {qmo : Nat → Nat} {r : Int32} {mo' : Mem} (hA : ∀ q, s.heap.size ≤ q → A q) {k4 : Mem → Int32 → Int32 → Option (Int32 × Mem)} (hk4 : ∀ (mo : Mem) (x1 x2 : Int32) (H : Heap) (locs : List Loc) (ls : Array Slot), va_P D vwCl (w_Mo cy qmo mo) H → va_D A (w_Mo cy qmo mo) → va_S A s.heap H locs → lv_has ls 5 [(0, .ref (qmo 0)), (1, .int x1), (2, .int x2)] → k4 mo x1 x2 = some (r, mo') → W p l e (rmD 5) s m args below meth c H locs 0 0 (qRI D below args s A (w_Mo cy qmo mo') r) (F0 m 4 ls [])) {mo : Mem} {x1 : Int32} {x2 : Int32} {x3 : Int32} {x4 : Int32} {H : Heap} {locs : List Loc} (hP : va_P D vwCl (w_Mo cy qmo mo) H) (hD : va_D A (w_Mo cy qmo mo)) (hS : va_S A s.heap H locs) {ls : Array Slot} (hl : lv_has ls 5 [(0, .ref (qmo 0)), (1, .int x1), (2, .int x2), (3, .int x3), (4, .int x4)]) (hp : Mo_fills_b58 k4 mo x1 x2 x3 x4 = some (r, mo')) : W p l e (rmD 5) s m args below meth c H locs 0 0 (qRI D below args s A (w_Mo cy qmo mo') r) (F0 m 58 ls []) := by
  obtain ⟨hx, hb, hr, hml, hown, hts, hk⟩ := id C0
  unfold Mo_fills_b58 at hp
  refine lv_iload hx hb dX12_fills_58 (lv_at hl 4 rfl) ?_
  refine lv_iconst (v := (-1)) hx hb dX12_fills_60 (by decide) ?_
  refine lv_icmp_ne (tgt := 71) hx hb dX12_fills_61 (by decide) (fun c_11 => ?_) (fun c_11 => ?_)
  · have hp := ite_n hp c_11
    refine lv_aload_n hx hb dX12_fills_71 rfl (lv_at hl 0 rfl) ?_
    refine gf_X12_7 hx hb hts hown hK hP 0 rfl rfl dX12_fills_72 ?_
    refine lv_sipush (v := 252) hx hb dX12_fills_75 (by decide) ?_
    refine lv_iload_n hx hb dX12_fills_78 rfl (lv_at hl 2 rfl) ?_
    refine lv_iadd hx hb dX12_fills_79 ?_
    refine lv_iconst (v := 0) hx hb dX12_fills_80 (by decide) ?_
    obtain ⟨hi_12, hp⟩ := ckI_s hp
    obtain ⟨mo_13, emo_13⟩ : ∃ y : Mem, y = upm mo 0 (252 + x2).toNatClampNeg 0 := ⟨_, rfl⟩
    have hp := stk_e hp emo_13
    refine r_ist hx hb hK hP hD hS (wn := (w_Mo cy qmo mo_13)) 1 rfl hi_12 (by subst emo_13; rfl) dX12_fills_81 (fun H locs hP hD hS => ?_)
    refine lv_aload_n hx hb dX12_fills_82 rfl (lv_at hl 0 rfl) ?_
    refine gf_X12_7 hx hb hts hown hK hP 0 rfl rfl dX12_fills_83 ?_
    refine lv_sipush (v := 252) hx hb dX12_fills_86 (by decide) ?_
    refine lv_aload_n hx hb dX12_fills_89 rfl (lv_at hl 0 rfl) ?_
    refine lv_iload hx hb dX12_fills_90 (lv_at hl 4 rfl) ?_
    refine lv_iconst (v := 4) hx hb dX12_fills_92 (by decide) ?_
    obtain ⟨r_15, hc_14, hp⟩ := bn1_s hp
    refine k_ROV (As := [.int x4, .int 4]) (rest := [.int 252, .ref (qmo 1)]) ⟨hx, hb, hml, hown, hts⟩ hK hP (cw_X12_128 hts ⟨Nat.le_of_ble_eq_true rfl, Nat.le_of_ble_eq_true rfl⟩) 0 (ci := 12) rfl rfl rfl (c_X12_of l D cy qmo mo_13 x4 4 r_15 hc_14) rfl hl.1 (Nat.le_of_ble_eq_true rfl) ⟨Nat.le_refl _, Nat.le_refl _⟩ dX12_fills_93 ?_
    refine lv_iadd hx hb dX12_fills_96 ?_
    refine lv_iload_n hx hb dX12_fills_97 rfl (lv_at hl 3 rfl) ?_
    obtain ⟨hi_16, hp⟩ := ckI_s hp
    obtain ⟨mo_17, emo_17⟩ : ∃ y : Mem, y = upm mo_13 0 (252 + r_15).toNatClampNeg x3 := ⟨_, rfl⟩
    have hp := stk_e hp emo_17
    refine r_ist hx hb hK hP hD hS (wn := (w_Mo cy qmo mo_17)) 1 rfl hi_16 (by subst emo_17; rfl) dX12_fills_98 (fun H locs hP hD hS => ?_)
    refine lv_aload_n hx hb dX12_fills_99 rfl (lv_at hl 0 rfl) ?_
    refine lv_iload hx hb dX12_fills_100 (lv_at hl 4 rfl) ?_
    refine lv_iload_n hx hb dX12_fills_102 rfl (lv_at hl 2 rfl) ?_
    obtain ⟨mo_19, hc_18, hp⟩ := bn1_s hp
    refine k_RVV (As := [.int x4, .int x2]) (rest := []) ⟨hx, hb, hml, hown, hts⟩ hK hP hD hS hA FrS_rf (cw_X12_174 hts ⟨Nat.le_of_ble_eq_true rfl, Nat.le_of_ble_eq_true rfl⟩) 0 (ci := 12) rfl rfl rfl (c_X12_gives l D cy qmo mo_17 x4 x2 mo_19 hc_18) rfl hl.1 (Nat.le_of_ble_eq_true rfl) ⟨Nat.le_refl _, Nat.le_refl _⟩ dX12_fills_103 (fun H locs hP hD hS => ?_)
    refine lv_iload_n hx hb dX12_fills_106 rfl (lv_at hl 1 rfl) ?_
    refine lv_iconst (v := 1) hx hb dX12_fills_107 (by decide) ?_
    refine lv_iadd hx hb dX12_fills_108 ?_
    refine lv_topi (fun x1_20 ex1_20 => ?_)
    have hp := stk_e hp ex1_20
    refine lv_istore_n (lv' := [(1, .int x1_20), (0, .ref (qmo 0)), (2, .int x2), (3, .int x3), (4, .int x4)]) hx hb dX12_fills_109 rfl hl (by decide) rfl (fun ls hl => ?_)
    refine lv_iconst (v := 0) hx hb dX12_fills_110 (by decide) ?_
    refine lv_istore_n (lv' := [(2, .int 0), (1, .int x1_20), (0, .ref (qmo 0)), (3, .int x3), (4, .int x4)]) hx hb dX12_fills_111 rfl hl (by decide) rfl (fun ls hl => ?_)
    refine lv_goto (tgt := 4) hx hb dX12_fills_112 (by decide) ?_
    exact hk4 mo_19 x1_20 0 _ _ _ hP hD hS (lv_sub hl [2, 1, 0] rfl) hp
  · have hp := ite_p hp c_11
    refine lv_iload_n hx hb dX12_fills_64 rfl (lv_at hl 2 rfl) ?_
    refine lv_iconst (v := 1) hx hb dX12_fills_65 (by decide) ?_
    refine lv_iadd hx hb dX12_fills_66 ?_
    refine lv_topi (fun x2_21 ex2_21 => ?_)
    have hp := stk_e hp ex2_21
    refine lv_istore_n (lv' := [(2, .int x2_21), (0, .ref (qmo 0)), (1, .int x1), (3, .int x3), (4, .int x4)]) hx hb dX12_fills_67 rfl hl (by decide) rfl (fun ls hl => ?_)
    refine lv_goto (tgt := 4) hx hb dX12_fills_68 (by decide) ?_
    exact hk4 mo x1 x2_21 _ _ _ hP hD hS (lv_sub hl [1, 2, 0] rfl) hp
set_option maxHeartbeats 4000000 in
set_option maxRecDepth 100000 in
theorem Mo_fills_b38_w (C0 : cX RX12 cX12_fills (some .int) 5 p s m args meth c) (hK : kN D cy s) {qmo : Nat → Nat} {r : Int32} {mo' : Mem} (hA : ∀ q, s.heap.size ≤ q → A q) {k4 : Mem → Int32 → Int32 → Option (Int32 × Mem)} (hk4 : ∀ (mo : Mem) (x1 x2 : Int32) (H : Heap) (locs : List Loc) (ls : Array Slot), va_P D vwCl (w_Mo cy qmo mo) H → va_D A (w_Mo cy qmo mo) → va_S A s.heap H locs → lv_has ls 5 [(0, .ref (qmo 0)), (1, .int x1), (2, .int x2)] → k4 mo x1 x2 = some (r, mo') → W p l e (rmD 5) s m args below meth c H locs 0 0 (qRI D below args s A (w_Mo cy qmo mo') r) (F0 m 4 ls [])) {mo : Mem} {x1 : Int32} {x2 : Int32} {x3 : Int32} {y0 : Int32} {H : Heap} {locs : List Loc} (hP : va_P D vwCl (w_Mo cy qmo mo) H) (hD : va_D A (w_Mo cy qmo mo)) (hS : va_S A s.heap H locs) {ls : Array Slot} (hl : lv_has ls 5 [(0, .ref (qmo 0)), (1, .int x1), (2, .int x2), (3, .int x3)]) (hp : Mo_fills_b38 k4 mo x1 x2 x3 y0 = some (r, mo')) : W p l e (rmD 5) s m args below meth c H locs 0 0 (qRI D below args s A (w_Mo cy qmo mo') r) (F0 m 38 ls [.int y0]) := by
  obtain ⟨hx, hb, hr, hml, hown, hts, hk⟩ := id C0
  unfold Mo_fills_b38 at hp
  refine lv_istore (lv' := [(4, .int y0), (0, .ref (qmo 0)), (1, .int x1), (2, .int x2), (3, .int x3)]) hx hb dX12_fills_38 hl (by decide) rfl (fun ls hl => ?_)
  refine lv_iload_n hx hb dX12_fills_40 rfl (lv_at hl 4 rfl) ?_
  refine lv_if_le (tgt := 58) hx hb dX12_fills_41 (by decide) (fun c_7 => ?_) (fun c_7 => ?_)
  · have hp := ite_p hp c_7
    exact Mo_fills_b58_w C0 hK hA hk4 hP hD hS (lv_sub hl [1, 2, 3, 4, 0] rfl) hp
  · have hp := ite_n hp c_7
    refine lv_iload hx hb dX12_fills_44 (lv_at hl 0 rfl) ?_
    refine lv_iconst (v := (-1)) hx hb dX12_fills_46 (by decide) ?_
    refine lv_icmp_ne (tgt := 58) hx hb dX12_fills_47 (by decide) (fun c_8 => ?_) (fun c_8 => ?_)
    · have hp := ite_n hp c_8
      exact Mo_fills_b58_w C0 hK hA hk4 hP hD hS (lv_sub hl [1, 2, 3, 4, 0] rfl) hp
    · have hp := ite_p hp c_8
      refine lv_aload_n hx hb dX12_fills_50 rfl (lv_at hl 1 rfl) ?_
      refine lv_iload_n hx hb dX12_fills_51 rfl (lv_at hl 3 rfl) ?_
      refine lv_iconst (v := (-1)) hx hb dX12_fills_52 (by decide) ?_
      obtain ⟨r_10, hc_9, hp⟩ := bn1_s hp
      refine k_ROV (As := [.int x2, .int (-1)]) (rest := []) ⟨hx, hb, hml, hown, hts⟩ hK hP (cw_X12_216 hts ⟨Nat.le_of_ble_eq_true rfl, Nat.le_of_ble_eq_true rfl⟩) 0 (ci := 12) rfl rfl rfl (c_X12_fillerOf l D cy qmo mo x2 (-1) r_10 hc_9) rfl hl.1 (Nat.le_of_ble_eq_true rfl) ⟨Nat.le_refl _, Nat.le_refl _⟩ dX12_fills_53 ?_
      refine lv_istore (lv' := [(4, .int r_10), (0, .ref (qmo 0)), (1, .int x1), (2, .int x2), (3, .int x3)]) hx hb dX12_fills_56 hl (by decide) rfl (fun ls hl => ?_)
      exact Mo_fills_b58_w C0 hK hA hk4 hP hD hS (lv_sub hl [1, 2, 3, 4, 0] rfl) hp
set_option maxHeartbeats 4000000 in
set_option maxRecDepth 100000 in
theorem Mo_fills_b4B_w (C0 : cX RX12 cX12_fills (some .int) 5 p s m args meth c) (hK : kN D cy s) {qmo : Nat → Nat} {r : Int32} {mo' : Mem} (hA : ∀ q, s.heap.size ≤ q → A q) {k4 : Mem → Int32 → Int32 → Option (Int32 × Mem)} (hk4 : ∀ (mo : Mem) (x1 x2 : Int32) (H : Heap) (locs : List Loc) (ls : Array Slot), va_P D vwCl (w_Mo cy qmo mo) H → va_D A (w_Mo cy qmo mo) → va_S A s.heap H locs → lv_has ls 5 [(0, .ref (qmo 0)), (1, .int x1), (2, .int x2)] → k4 mo x1 x2 = some (r, mo') → W p l e (rmD 5) s m args below meth c H locs 0 0 (qRI D below args s A (w_Mo cy qmo mo') r) (F0 m 4 ls [])) {mo : Mem} {x1 : Int32} {x2 : Int32} {H : Heap} {locs : List Loc} (hP : va_P D vwCl (w_Mo cy qmo mo) H) (hD : va_D A (w_Mo cy qmo mo)) (hS : va_S A s.heap H locs) {ls : Array Slot} (hl : lv_has ls 5 [(0, .ref (qmo 0)), (1, .int x1), (2, .int x2)]) (hp : Mo_fills_b4B k4 mo x1 x2 = some (r, mo')) : W p l e (rmD 5) s m args below meth c H locs 0 0 (qRI D below args s A (w_Mo cy qmo mo') r) (F0 m 4 ls []) := by
  obtain ⟨hx, hb, hr, hml, hown, hts, hk⟩ := id C0
  unfold Mo_fills_b4B at hp
  refine lv_iload_n hx hb dX12_fills_4 rfl (lv_at hl 2 rfl) ?_
  refine lv_sipush (v := 1200) hx hb dX12_fills_5 (by decide) ?_
  refine lv_icmp_ge (tgt := 115) hx hb dX12_fills_8 (by decide) (fun c_1 => ?_) (fun c_1 => ?_)
  · have hp := ite_p hp c_1
    refine lv_iload_n hx hb dX12_fills_115 rfl (lv_at hl 1 rfl) ?_
    simp only [Option.some.injEq, Prod.mk.injEq] at hp
    obtain ⟨h0, rfl⟩ := hp
    exact e_RIi hx hb hr hk hP hD hS dX12_fills_116 h0
  · have hp := ite_n hp c_1
    refine lv_aload_n hx hb dX12_fills_11 rfl (lv_at hl 0 rfl) ?_
    refine gf_X12_7 hx hb hts hown hK hP 0 rfl rfl dX12_fills_12 ?_
    refine lv_sipush (v := 252) hx hb dX12_fills_15 (by decide) ?_
    refine lv_iload_n hx hb dX12_fills_18 rfl (lv_at hl 2 rfl) ?_
    refine lv_iadd hx hb dX12_fills_19 ?_
    obtain ⟨hi_2, hp⟩ := ckI_s hp
    refine r_ild hx hb hK hP 1 rfl hi_2 dX12_fills_20 ?_
    refine lv_topi (fun x3_3 ex3_3 => ?_)
    have hp := stk_e hp ex3_3
    refine lv_istore_n (lv' := [(3, .int x3_3), (0, .ref (qmo 0)), (1, .int x1), (2, .int x2)]) hx hb dX12_fills_21 rfl hl (by decide) rfl (fun ls hl => ?_)
    refine lv_iload_n hx hb dX12_fills_22 rfl (lv_at hl 0 rfl) ?_
    refine lv_if_ne (tgt := 30) hx hb dX12_fills_23 (by decide) (fun c_4 => ?_) (fun c_4 => ?_)
    · have hp := ite_n hp c_4
      refine lv_aload_n hx hb dX12_fills_30 rfl (lv_at hl 1 rfl) ?_
      refine lv_iload_n hx hb dX12_fills_31 rfl (lv_at hl 3 rfl) ?_
      refine lv_iload_n hx hb dX12_fills_32 rfl (lv_at hl 0 rfl) ?_
      refine lv_iconst (v := 1) hx hb dX12_fills_33 (by decide) ?_
      refine lv_isub hx hb dX12_fills_34 ?_
      obtain ⟨r_6, hc_5, hp⟩ := bn1_s hp
      refine k_ROV (As := [.int x2, .int (x3_3 - 1)]) (rest := []) ⟨hx, hb, hml, hown, hts⟩ hK hP (cw_X12_216 hts ⟨Nat.le_of_ble_eq_true rfl, Nat.le_of_ble_eq_true rfl⟩) 0 (ci := 12) rfl rfl rfl (c_X12_fillerOf l D cy qmo mo x2 (x3_3 - 1) r_6 hc_5) rfl hl.1 (Nat.le_of_ble_eq_true rfl) ⟨Nat.le_refl _, Nat.le_refl _⟩ dX12_fills_35 ?_
      exact Mo_fills_b38_w C0 hK hA hk4 hP hD hS (lv_sub hl [1, 2, 3, 0] rfl) hp
    · have hp := ite_p hp c_4
      refine lv_iconst (v := (-1)) hx hb dX12_fills_26 (by decide) ?_
      refine lv_goto (tgt := 38) hx hb dX12_fills_27 (by decide) ?_
      exact Mo_fills_b38_w C0 hK hA hk4 hP hD hS (lv_sub hl [1, 2, 3, 0] rfl) hp
theorem Mo_fills_b4_w (C0 : cX RX12 cX12_fills (some .int) 5 p s m args meth c) (hK : kN D cy s) {qmo : Nat → Nat} {r : Int32} {mo' : Mem} (hA : ∀ q, s.heap.size ≤ q → A q) : ∀ (n : Nat) (mo : Mem) (x1 x2 : Int32) (H : Heap) (locs : List Loc) (ls : Array Slot), va_P D vwCl (w_Mo cy qmo mo) H → va_D A (w_Mo cy qmo mo) → va_S A s.heap H locs → lv_has ls 5 [(0, .ref (qmo 0)), (1, .int x1), (2, .int x2)] → Mo_fills_b4  n mo x1 x2 = some (r, mo') → W p l e (rmD 5) s m args below meth c H locs 0 0 (qRI D below args s A (w_Mo cy qmo mo') r) (F0 m 4 ls []) := by
  intro n
  induction n with
  | zero =>
    intro mo x1 x2 H locs ls hP hD hS hl hp
    cases hp
  | succ n ih =>
    intro mo x1 x2 H locs ls hP hD hS hl hp
    exact Mo_fills_b4B_w C0 hK hA  (fun mo x1 x2 H locs ls hP hD hS hl hp => ih mo x1 x2 H locs ls hP hD hS hl hp) hP hD hS hl hp
set_option maxHeartbeats 4000000 in
set_option maxRecDepth 100000 in
theorem c_X12_fills (l : Launch) (D : va_G) (cy : Nat → ClassId) (qmo : Nat → Nat) (mo : Mem) (r : Int32) (mo' : Mem) (hp : Mo_fills mo = some (r, mo')) : RI l yX12_fills cX12_fills 5 (some .int) 5 D cy [.ref (qmo 0)] (w_Mo cy qmo mo) (w_Mo cy qmo mo') r := by
  refine RI_of RX12 rfl (by decide) (Nat.le_of_ble_eq_true rfl) ?_
  intro p e s m below meth c A C0 hK hP hD hS hA ls hl
  obtain ⟨hx, hb, hr, hml, hown, hts, hk⟩ := id C0
  unfold Mo_fills at hp
  have hl : lv_has ls 5 [(0, .ref (qmo 0))] := hl
  refine lv_iconst (v := 0) hx hb dX12_fills_0 (by decide) ?_
  refine lv_istore_n (lv' := [(1, .int 0), (0, .ref (qmo 0))]) hx hb dX12_fills_1 rfl hl (by decide) rfl (fun ls hl => ?_)
  refine lv_iconst (v := 0) hx hb dX12_fills_2 (by decide) ?_
  refine lv_istore_n (lv' := [(2, .int 0), (1, .int 0), (0, .ref (qmo 0))]) hx hb dX12_fills_3 rfl hl (by decide) rfl (fun ls hl => ?_)
  exact Mo_fills_b4_w C0 hK hA  fl mo 0 0 _ _ _ hP hD hS (lv_sub hl [2, 1, 0] rfl) hp
/-! StormSlotsModel.fill()I -/
def Mo_fill (mo : Mem) : Option (Int32 × Mem) :=
  bn2 (Mo_fills mo) (fun r_2 mo_3 => some (r_2, mo_3))
set_option maxHeartbeats 4000000 in
set_option maxRecDepth 100000 in
theorem c_X12_fill (l : Launch) (D : va_G) (cy : Nat → ClassId) (qmo : Nat → Nat) (mo : Mem) (r : Int32) (mo' : Mem) (hp : Mo_fill mo = some (r, mo')) : RI l yX12_fill cX12_fill 1 (some .int) 6 D cy [.ref (qmo 0)] (w_Mo cy qmo mo) (w_Mo cy qmo mo') r := by
  refine RI_of RX12 rfl (by decide) (Nat.le_of_ble_eq_true rfl) ?_
  intro p e s m below meth c A C0 hK hP hD hS hA ls hl
  obtain ⟨hx, hb, hr, hml, hown, hts, hk⟩ := id C0
  unfold Mo_fill at hp
  have hl : lv_has ls 1 [(0, .ref (qmo 0))] := hl
  refine lv_aload_n hx hb dX12_fill_0 rfl (lv_at hl 0 rfl) ?_
  obtain ⟨r_2, mo_3, hc_1, hp⟩ := bn2_s hp
  refine k_RIV (As := []) (rest := []) ⟨hx, hb, hml, hown, hts⟩ hK hP hD hS hA FrS_rf (cw_X12_219 hts ⟨Nat.le_of_ble_eq_true rfl, Nat.le_of_ble_eq_true rfl⟩) 0 (ci := 12) rfl rfl rfl (c_X12_fills l D cy qmo mo r_2 mo_3 hc_1) rfl hl.1 (Nat.le_of_ble_eq_true rfl) ⟨Nat.le_refl _, Nat.le_refl _⟩ dX12_fill_1 (fun H locs hP hD hS => ?_)
  simp only [Option.some.injEq, Prod.mk.injEq] at hp
  obtain ⟨h0, rfl⟩ := hp
  exact e_RIi hx hb hr hk hP hD hS dX12_fill_4 h0
/-! StormSlotsModel.vacant(II)I -/
def Mo_vacant_b20B (mo : Mem) (p1 : Int32) (p2 : Int32) (k20 : Int32 → Int32 → Option (Int32)) (x3 : Int32) (x4 : Int32) : Option (Int32) :=
  if 1200 ≤ x4 then some (-2) else ckI (252 + x4) 1452 (if (mo 0 (252 + x4).toNatClampNeg) = 0 then stk (x4 + 1) (fun x4_12 => k20 x3 x4_12) else if x3 = 0 then if p2 = 0 then some x4 else some ((mo 0 (252 + x4).toNatClampNeg) - 1) else stk (x3 - 1) (fun x3_9 => stk (x4 + 1) (fun x4_10 => k20 x3_9 x4_10)))
def Mo_vacant_b20 (mo : Mem) (p1 : Int32) (p2 : Int32) : Nat → Int32 → Int32 → Option (Int32)
  | 0 => fun _ _ => none
  | n + 1 => Mo_vacant_b20B mo p1 p2 (Mo_vacant_b20 mo p1 p2 n)
def Mo_vacant (mo : Mem) (p1 : Int32) (p2 : Int32) : Option (Int32) :=
  if p1 < 0 then some (-1) else bn1 (Mo_in p2 0 1) (fun r_3 => if r_3 = 0 then some (-1) else Mo_vacant_b20 mo p1 p2 fl p1 0)
set_option maxHeartbeats 4000000 in
set_option maxRecDepth 100000 in
theorem Mo_vacant_b20B_w (C0 : cX RX12 cX12_vacant (some .int) 5 p s m args meth c) (hK : kN D cy s) {qmo : Nat → Nat} {mo : Mem} {p1 p2 : Int32} {r : Int32} (hP : va_P D vwCl (w_Mo cy qmo mo) s.heap) {k20 : Int32 → Int32 → Option (Int32)} (hk20 : ∀ (x3 x4 : Int32) (ls : Array Slot), lv_has ls 5 [(0, .ref (qmo 0)), (1, .int p1), (2, .int p2), (3, .int x3), (4, .int x4)] → k20 x3 x4 = some r → W p l e (rmD 1) s m args below meth c s.heap [] 0 0 (qRO below args s r) (F0 m 20 ls [])) {x3 : Int32} {x4 : Int32} {ls : Array Slot} (hl : lv_has ls 5 [(0, .ref (qmo 0)), (1, .int p1), (2, .int p2), (3, .int x3), (4, .int x4)]) (hp : Mo_vacant_b20B mo p1 p2 k20 x3 x4 = some r) : W p l e (rmD 1) s m args below meth c s.heap [] 0 0 (qRO below args s r) (F0 m 20 ls []) := by
  obtain ⟨hx, hb, hr, hml, hown, hts, hk⟩ := id C0
  unfold Mo_vacant_b20B at hp
  refine lv_iload hx hb dX12_vacant_20 (lv_at hl 4 rfl) ?_
  refine lv_sipush (v := 1200) hx hb dX12_vacant_22 (by decide) ?_
  refine lv_icmp_ge (tgt := 82) hx hb dX12_vacant_25 (by decide) (fun c_5 => ?_) (fun c_5 => ?_)
  · have hp := ite_p hp c_5
    refine lv_bipush (v := (-2)) hx hb dX12_vacant_82 (by decide) ?_
    exact e_ROi hx hb hr hk dX12_vacant_84 (Option.some.inj hp)
  · have hp := ite_n hp c_5
    refine lv_aload_n hx hb dX12_vacant_28 rfl (lv_at hl 0 rfl) ?_
    refine gf_X12_7 hx hb hts hown hK hP 0 rfl rfl dX12_vacant_29 ?_
    refine lv_sipush (v := 252) hx hb dX12_vacant_32 (by decide) ?_
    refine lv_iload hx hb dX12_vacant_35 (lv_at hl 4 rfl) ?_
    refine lv_iadd hx hb dX12_vacant_37 ?_
    obtain ⟨hi_6, hp⟩ := ckI_s hp
    refine r_ild hx hb hK hP 1 rfl hi_6 dX12_vacant_38 ?_
    refine lv_if_ne (tgt := 45) hx hb dX12_vacant_39 (by decide) (fun c_7 => ?_) (fun c_7 => ?_)
    · have hp := ite_n hp c_7
      refine lv_iload_n hx hb dX12_vacant_45 rfl (lv_at hl 3 rfl) ?_
      refine lv_if_ne (tgt := 72) hx hb dX12_vacant_46 (by decide) (fun c_8 => ?_) (fun c_8 => ?_)
      · have hp := ite_n hp c_8
        refine lv_iload_n hx hb dX12_vacant_72 rfl (lv_at hl 3 rfl) ?_
        refine lv_iconst (v := 1) hx hb dX12_vacant_73 (by decide) ?_
        refine lv_isub hx hb dX12_vacant_74 ?_
        refine lv_topi (fun x3_9 ex3_9 => ?_)
        have hp := stk_e hp ex3_9
        refine lv_istore_n (lv' := [(3, .int x3_9), (0, .ref (qmo 0)), (1, .int p1), (2, .int p2), (4, .int x4)]) hx hb dX12_vacant_75 rfl hl (by decide) rfl (fun ls hl => ?_)
        obtain ⟨x4_10, ex4_10⟩ : ∃ y : Int32, y = x4 + 1 := ⟨_, rfl⟩
        have hp := stk_e hp ex4_10
        refine lv_iinc (v := x4_10) (lv' := [(4, .int x4_10), (3, .int x3_9), (0, .ref (qmo 0)), (1, .int p1), (2, .int p2)]) hx hb dX12_vacant_76 hl (k := 4) rfl (by rw [ex4_10]; rfl) (by decide) rfl (fun ls hl => ?_)
        refine lv_goto (tgt := 20) hx hb dX12_vacant_79 (by decide) ?_
        exact hk20 x3_9 x4_10 _ (lv_sub hl [2, 3, 4, 1, 0] rfl) hp
      · have hp := ite_p hp c_8
        refine lv_iload_n hx hb dX12_vacant_49 rfl (lv_at hl 2 rfl) ?_
        refine lv_if_ne (tgt := 58) hx hb dX12_vacant_50 (by decide) (fun c_11 => ?_) (fun c_11 => ?_)
        · have hp := ite_n hp c_11
          refine lv_aload_n hx hb dX12_vacant_58 rfl (lv_at hl 0 rfl) ?_
          refine gf_X12_7 hx hb hts hown hK hP 0 rfl rfl dX12_vacant_59 ?_
          refine lv_sipush (v := 252) hx hb dX12_vacant_62 (by decide) ?_
          refine lv_iload hx hb dX12_vacant_65 (lv_at hl 4 rfl) ?_
          refine lv_iadd hx hb dX12_vacant_67 ?_
          refine r_ild hx hb hK hP 1 rfl hi_6 dX12_vacant_68 ?_
          refine lv_iconst (v := 1) hx hb dX12_vacant_69 (by decide) ?_
          refine lv_isub hx hb dX12_vacant_70 ?_
          exact e_ROi hx hb hr hk dX12_vacant_71 (Option.some.inj hp)
        · have hp := ite_p hp c_11
          refine lv_iload hx hb dX12_vacant_53 (lv_at hl 4 rfl) ?_
          refine lv_goto (tgt := 71) hx hb dX12_vacant_55 (by decide) ?_
          exact e_ROi hx hb hr hk dX12_vacant_71 (Option.some.inj hp)
    · have hp := ite_p hp c_7
      refine lv_goto (tgt := 76) hx hb dX12_vacant_42 (by decide) ?_
      obtain ⟨x4_12, ex4_12⟩ : ∃ y : Int32, y = x4 + 1 := ⟨_, rfl⟩
      have hp := stk_e hp ex4_12
      refine lv_iinc (v := x4_12) (lv' := [(4, .int x4_12), (0, .ref (qmo 0)), (1, .int p1), (2, .int p2), (3, .int x3)]) hx hb dX12_vacant_76 hl (k := 4) rfl (by rw [ex4_12]; rfl) (by decide) rfl (fun ls hl => ?_)
      refine lv_goto (tgt := 20) hx hb dX12_vacant_79 (by decide) ?_
      exact hk20 x3 x4_12 _ (lv_sub hl [1, 2, 3, 4, 0] rfl) hp
theorem Mo_vacant_b20_w (C0 : cX RX12 cX12_vacant (some .int) 5 p s m args meth c) (hK : kN D cy s) {qmo : Nat → Nat} {mo : Mem} {p1 p2 : Int32} {r : Int32} (hP : va_P D vwCl (w_Mo cy qmo mo) s.heap) : ∀ (n : Nat) (x3 x4 : Int32) (ls : Array Slot), lv_has ls 5 [(0, .ref (qmo 0)), (1, .int p1), (2, .int p2), (3, .int x3), (4, .int x4)] → Mo_vacant_b20 mo p1 p2 n x3 x4 = some r → W p l e (rmD 1) s m args below meth c s.heap [] 0 0 (qRO below args s r) (F0 m 20 ls []) := by
  intro n
  induction n with
  | zero =>
    intro x3 x4 ls hl hp
    cases hp
  | succ n ih =>
    intro x3 x4 ls hl hp
    exact Mo_vacant_b20B_w C0 hK hP  (fun x3 x4 ls hl hp => ih x3 x4 ls hl hp) hl hp
set_option maxHeartbeats 4000000 in
set_option maxRecDepth 100000 in
theorem c_X12_vacant (l : Launch) (D : va_G) (cy : Nat → ClassId) (qmo : Nat → Nat) (mo : Mem) (p1 p2 : Int32) (r : Int32) (hp : Mo_vacant mo p1 p2 = some r) : RO l yX12_vacant cX12_vacant 5 (some .int) 1 D cy [.ref (qmo 0), .int p1, .int p2] (w_Mo cy qmo mo) r := by
  refine RO_of RX12 rfl (by decide) (Nat.le_of_ble_eq_true rfl) ?_
  intro p e s m below meth c C0 hK hP ls hl
  obtain ⟨hx, hb, hr, hml, hown, hts, hk⟩ := id C0
  unfold Mo_vacant at hp
  have hl : lv_has ls 5 [(0, .ref (qmo 0)), (1, .int p1), (2, .int p2)] := hl
  refine lv_iload_n hx hb dX12_vacant_0 rfl (lv_at hl 1 rfl) ?_
  refine lv_if_lt (tgt := 13) hx hb dX12_vacant_1 (by decide) (fun c_1 => ?_) (fun c_1 => ?_)
  · have hp := ite_p hp c_1
    refine lv_iconst (v := (-1)) hx hb dX12_vacant_13 (by decide) ?_
    exact e_ROi hx hb hr hk dX12_vacant_14 (Option.some.inj hp)
  · have hp := ite_n hp c_1
    refine lv_iload_n hx hb dX12_vacant_4 rfl (lv_at hl 2 rfl) ?_
    refine lv_iconst (v := 0) hx hb dX12_vacant_5 (by decide) ?_
    refine lv_iconst (v := 1) hx hb dX12_vacant_6 (by decide) ?_
    obtain ⟨r_3, hc_2, hp⟩ := bn1_s hp
    refine k_ROS (As := [.int p2, .int 0, .int 1]) (rest := []) ⟨hx, hb, hml, hown, hts⟩ hK (show va_P D vwCl [] _ from fun k q h => by simp at h) (cw_X12_45 hts ⟨Nat.le_of_ble_eq_true rfl, Nat.le_of_ble_eq_true rfl⟩) (c_X12_in l D cy p2 0 1 r_3 hc_2) rfl hl.1 (Nat.le_of_ble_eq_true rfl) ⟨Nat.le_refl _, Nat.le_refl _⟩ dX12_vacant_7 ?_
    refine lv_if_ne (tgt := 15) hx hb dX12_vacant_10 (by decide) (fun c_4 => ?_) (fun c_4 => ?_)
    · have hp := ite_n hp c_4
      refine lv_iload_n hx hb dX12_vacant_15 rfl (lv_at hl 1 rfl) ?_
      refine lv_istore_n (lv' := [(3, .int p1), (0, .ref (qmo 0)), (1, .int p1), (2, .int p2)]) hx hb dX12_vacant_16 rfl hl (by decide) rfl (fun ls hl => ?_)
      refine lv_iconst (v := 0) hx hb dX12_vacant_17 (by decide) ?_
      refine lv_istore (lv' := [(4, .int 0), (3, .int p1), (0, .ref (qmo 0)), (1, .int p1), (2, .int p2)]) hx hb dX12_vacant_18 hl (by decide) rfl (fun ls hl => ?_)
      exact Mo_vacant_b20_w C0 hK hP  fl p1 0 _ (lv_sub hl [2, 3, 4, 1, 0] rfl) hp
    · have hp := ite_p hp c_4
      refine lv_iconst (v := (-1)) hx hb dX12_vacant_13 (by decide) ?_
      exact e_ROi hx hb hr hk dX12_vacant_14 (Option.some.inj hp)
/-! StormSlotsModel.isOffer(I)Z -/
def Mo_isOffer (mo : Mem) (p1 : Int32) : Option (Int32) :=
  bn1 (Mo_in p1 0 7) (fun r_2 => if r_2 = 0 then some 0 else ckI ((176 + (5 * p1)) + 4) 1452 (if (mo 0 ((176 + (5 * p1)) + 4).toNatClampNeg) = 1 then some 1 else some 0))
set_option maxHeartbeats 4000000 in
set_option maxRecDepth 100000 in
theorem c_X12_isOffer (l : Launch) (D : va_G) (cy : Nat → ClassId) (qmo : Nat → Nat) (mo : Mem) (p1 : Int32) (r : Int32) (hp : Mo_isOffer mo p1 = some r) : RO l yX12_isOffer cX12_isOffer 2 (some .boolean) 1 D cy [.ref (qmo 0), .int p1] (w_Mo cy qmo mo) r := by
  refine RO_of RX12 rfl (by decide) (Nat.le_of_ble_eq_true rfl) ?_
  intro p e s m below meth c C0 hK hP ls hl
  obtain ⟨hx, hb, hr, hml, hown, hts, hk⟩ := id C0
  unfold Mo_isOffer at hp
  have hl : lv_has ls 2 [(0, .ref (qmo 0)), (1, .int p1)] := hl
  refine lv_iload_n hx hb dX12_isOffer_0 rfl (lv_at hl 1 rfl) ?_
  refine lv_iconst (v := 0) hx hb dX12_isOffer_1 (by decide) ?_
  refine lv_bipush (v := 7) hx hb dX12_isOffer_2 (by decide) ?_
  obtain ⟨r_2, hc_1, hp⟩ := bn1_s hp
  refine k_ROS (As := [.int p1, .int 0, .int 7]) (rest := []) ⟨hx, hb, hml, hown, hts⟩ hK (show va_P D vwCl [] _ from fun k q h => by simp at h) (cw_X12_45 hts ⟨Nat.le_of_ble_eq_true rfl, Nat.le_of_ble_eq_true rfl⟩) (c_X12_in l D cy p1 0 7 r_2 hc_1) rfl hl.1 (Nat.le_of_ble_eq_true rfl) ⟨Nat.le_refl _, Nat.le_refl _⟩ dX12_isOffer_4 ?_
  refine lv_if_eq (tgt := 32) hx hb dX12_isOffer_7 (by decide) (fun c_3 => ?_) (fun c_3 => ?_)
  · have hp := ite_p hp c_3
    refine lv_iconst (v := 0) hx hb dX12_isOffer_32 (by decide) ?_
    exact e_ROz hx hb hr hk (Or.inl rfl) dX12_isOffer_33 (Option.some.inj hp)
  · have hp := ite_n hp c_3
    refine lv_aload_n hx hb dX12_isOffer_10 rfl (lv_at hl 0 rfl) ?_
    refine gf_X12_7 hx hb hts hown hK hP 0 rfl rfl dX12_isOffer_11 ?_
    refine lv_sipush (v := 176) hx hb dX12_isOffer_14 (by decide) ?_
    refine lv_iconst (v := 5) hx hb dX12_isOffer_17 (by decide) ?_
    refine lv_iload_n hx hb dX12_isOffer_18 rfl (lv_at hl 1 rfl) ?_
    refine lv_imul hx hb dX12_isOffer_19 ?_
    refine lv_iadd hx hb dX12_isOffer_20 ?_
    refine lv_iconst (v := 4) hx hb dX12_isOffer_21 (by decide) ?_
    refine lv_iadd hx hb dX12_isOffer_22 ?_
    obtain ⟨hi_4, hp⟩ := ckI_s hp
    refine r_ild hx hb hK hP 1 rfl hi_4 dX12_isOffer_23 ?_
    refine lv_iconst (v := 1) hx hb dX12_isOffer_24 (by decide) ?_
    refine lv_icmp_ne (tgt := 32) hx hb dX12_isOffer_25 (by decide) (fun c_5 => ?_) (fun c_5 => ?_)
    · have hp := ite_n hp c_5
      refine lv_iconst (v := 0) hx hb dX12_isOffer_32 (by decide) ?_
      exact e_ROz hx hb hr hk (Or.inl rfl) dX12_isOffer_33 (Option.some.inj hp)
    · have hp := ite_p hp c_5
      refine lv_iconst (v := 1) hx hb dX12_isOffer_28 (by decide) ?_
      refine lv_goto (tgt := 33) hx hb dX12_isOffer_29 (by decide) ?_
      exact e_ROz hx hb hr hk (Or.inr rfl) dX12_isOffer_33 (Option.some.inj hp)
/-! StormSlotsModel.offer(IIII)I -/
def Mo_offer_b100 (p1 : Int32) (p2 : Int32) (p3 : Int32) (p4 : Int32) (mo : Mem) (x5 : Int32) : Option (Int32 × Mem) :=
  if x5 = 8 then some ((-3), mo) else ckI (176 + (5 * x5)) 1452 (stk (upm mo 0 (176 + (5 * x5)).toNatClampNeg p1) (fun mo_32 => ckI ((176 + (5 * x5)) + 1) 1452 (stk (upm mo_32 0 ((176 + (5 * x5)) + 1).toNatClampNeg p2) (fun mo_34 => ckI ((176 + (5 * x5)) + 2) 1452 (stk (upm mo_34 0 ((176 + (5 * x5)) + 2).toNatClampNeg p3) (fun mo_36 => ckI ((176 + (5 * x5)) + 3) 1452 (stk (upm mo_36 0 ((176 + (5 * x5)) + 3).toNatClampNeg p4) (fun mo_38 => ckI ((176 + (5 * x5)) + 4) 1452 (stk (upm mo_38 0 ((176 + (5 * x5)) + 4).toNatClampNeg 1) (fun mo_40 => some (x5, mo_40)))))))))))
def Mo_offer_b75B (p1 : Int32) (p2 : Int32) (p3 : Int32) (p4 : Int32) (k75 : Mem → Int32 → Option (Int32 × Mem)) (mo : Mem) (x5 : Int32) : Option (Int32 × Mem) :=
  if 8 ≤ x5 then Mo_offer_b100 p1 p2 p3 p4 mo x5 else bn1 (Mo_isOffer mo x5) (fun r_27 => if r_27 = 0 then Mo_offer_b100 p1 p2 p3 p4 mo x5 else stk (x5 + 1) (fun x5_29 => k75 mo x5_29))
def Mo_offer_b75 (p1 : Int32) (p2 : Int32) (p3 : Int32) (p4 : Int32) : Nat → Mem → Int32 → Option (Int32 × Mem)
  | 0 => fun _ _ => none
  | n + 1 => Mo_offer_b75B p1 p2 p3 p4 (Mo_offer_b75 p1 p2 p3 p4 n)
def Mo_offer (mo : Mem) (p1 : Int32) (p2 : Int32) (p3 : Int32) (p4 : Int32) : Option (Int32 × Mem) :=
  bn1 (Mo_isFlight mo p1) (fun r_2 => if r_2 = 0 then some ((-1), mo) else bn1 (Mo_isFlight mo p3) (fun r_5 => if r_5 = 0 then some ((-1), mo) else if p1 = p3 then some ((-1), mo) else bn1 (Mo_isMinute p2) (fun r_9 => if r_9 = 0 then some ((-1), mo) else bn1 (Mo_isMinute p4) (fun r_12 => if r_12 = 0 then some ((-1), mo) else bn1 (Mo_isGround mo p1) (fun r_15 => if r_15 = 0 then some ((-2), mo) else bn1 (Mo_isGround mo p3) (fun r_18 => if r_18 = 0 then some ((-2), mo) else bn1 (Mo_of mo p1 0) (fun r_21 => bn1 (Mo_of mo p3 0) (fun r_23 => if r_21 = r_23 then Mo_offer_b75 p1 p2 p3 p4 fl mo 0 else some ((-2), mo)))))))))
set_option maxHeartbeats 4000000 in
set_option maxRecDepth 100000 in
theorem Mo_offer_b100_w (C0 : cX RX12 cX12_offer (some .int) 6 p s m args meth c) (hK : kN D cy s) {qmo : Nat → Nat} {p1 p2 p3 p4 : Int32} {r : Int32} {mo' : Mem} (hA : ∀ q, s.heap.size ≤ q → A q) {mo : Mem} {x5 : Int32} {H : Heap} {locs : List Loc} (hP : va_P D vwCl (w_Mo cy qmo mo) H) (hD : va_D A (w_Mo cy qmo mo)) (hS : va_S A s.heap H locs) {ls : Array Slot} (hl : lv_has ls 6 [(0, .ref (qmo 0)), (1, .int p1), (2, .int p2), (3, .int p3), (4, .int p4), (5, .int x5)]) (hp : Mo_offer_b100 p1 p2 p3 p4 mo x5 = some (r, mo')) : W p l e (rmD 4) s m args below meth c H locs 0 0 (qRI D below args s A (w_Mo cy qmo mo') r) (F0 m 100 ls []) := by
  obtain ⟨hx, hb, hr, hml, hown, hts, hk⟩ := id C0
  unfold Mo_offer_b100 at hp
  refine lv_iload hx hb dX12_offer_100 (lv_at hl 5 rfl) ?_
  refine lv_bipush (v := 8) hx hb dX12_offer_102 (by decide) ?_
  refine lv_icmp_ne (tgt := 110) hx hb dX12_offer_104 (by decide) (fun c_30 => ?_) (fun c_30 => ?_)
  · have hp := ite_n hp c_30
    refine lv_aload_n hx hb dX12_offer_110 rfl (lv_at hl 0 rfl) ?_
    refine gf_X12_7 hx hb hts hown hK hP 0 rfl rfl dX12_offer_111 ?_
    refine lv_sipush (v := 176) hx hb dX12_offer_114 (by decide) ?_
    refine lv_iconst (v := 5) hx hb dX12_offer_117 (by decide) ?_
    refine lv_iload hx hb dX12_offer_118 (lv_at hl 5 rfl) ?_
    refine lv_imul hx hb dX12_offer_120 ?_
    refine lv_iadd hx hb dX12_offer_121 ?_
    refine lv_iload_n hx hb dX12_offer_122 rfl (lv_at hl 1 rfl) ?_
    obtain ⟨hi_31, hp⟩ := ckI_s hp
    obtain ⟨mo_32, emo_32⟩ : ∃ y : Mem, y = upm mo 0 (176 + (5 * x5)).toNatClampNeg p1 := ⟨_, rfl⟩
    have hp := stk_e hp emo_32
    refine r_ist hx hb hK hP hD hS (wn := (w_Mo cy qmo mo_32)) 1 rfl hi_31 (by subst emo_32; rfl) dX12_offer_123 (fun H locs hP hD hS => ?_)
    refine lv_aload_n hx hb dX12_offer_124 rfl (lv_at hl 0 rfl) ?_
    refine gf_X12_7 hx hb hts hown hK hP 0 rfl rfl dX12_offer_125 ?_
    refine lv_sipush (v := 176) hx hb dX12_offer_128 (by decide) ?_
    refine lv_iconst (v := 5) hx hb dX12_offer_131 (by decide) ?_
    refine lv_iload hx hb dX12_offer_132 (lv_at hl 5 rfl) ?_
    refine lv_imul hx hb dX12_offer_134 ?_
    refine lv_iadd hx hb dX12_offer_135 ?_
    refine lv_iconst (v := 1) hx hb dX12_offer_136 (by decide) ?_
    refine lv_iadd hx hb dX12_offer_137 ?_
    refine lv_iload_n hx hb dX12_offer_138 rfl (lv_at hl 2 rfl) ?_
    obtain ⟨hi_33, hp⟩ := ckI_s hp
    obtain ⟨mo_34, emo_34⟩ : ∃ y : Mem, y = upm mo_32 0 ((176 + (5 * x5)) + 1).toNatClampNeg p2 := ⟨_, rfl⟩
    have hp := stk_e hp emo_34
    refine r_ist hx hb hK hP hD hS (wn := (w_Mo cy qmo mo_34)) 1 rfl hi_33 (by subst emo_34; rfl) dX12_offer_139 (fun H locs hP hD hS => ?_)
    refine lv_aload_n hx hb dX12_offer_140 rfl (lv_at hl 0 rfl) ?_
    refine gf_X12_7 hx hb hts hown hK hP 0 rfl rfl dX12_offer_141 ?_
    refine lv_sipush (v := 176) hx hb dX12_offer_144 (by decide) ?_
    refine lv_iconst (v := 5) hx hb dX12_offer_147 (by decide) ?_
    refine lv_iload hx hb dX12_offer_148 (lv_at hl 5 rfl) ?_
    refine lv_imul hx hb dX12_offer_150 ?_
    refine lv_iadd hx hb dX12_offer_151 ?_
    refine lv_iconst (v := 2) hx hb dX12_offer_152 (by decide) ?_
    refine lv_iadd hx hb dX12_offer_153 ?_
    refine lv_iload_n hx hb dX12_offer_154 rfl (lv_at hl 3 rfl) ?_
    obtain ⟨hi_35, hp⟩ := ckI_s hp
    obtain ⟨mo_36, emo_36⟩ : ∃ y : Mem, y = upm mo_34 0 ((176 + (5 * x5)) + 2).toNatClampNeg p3 := ⟨_, rfl⟩
    have hp := stk_e hp emo_36
    refine r_ist hx hb hK hP hD hS (wn := (w_Mo cy qmo mo_36)) 1 rfl hi_35 (by subst emo_36; rfl) dX12_offer_155 (fun H locs hP hD hS => ?_)
    refine lv_aload_n hx hb dX12_offer_156 rfl (lv_at hl 0 rfl) ?_
    refine gf_X12_7 hx hb hts hown hK hP 0 rfl rfl dX12_offer_157 ?_
    refine lv_sipush (v := 176) hx hb dX12_offer_160 (by decide) ?_
    refine lv_iconst (v := 5) hx hb dX12_offer_163 (by decide) ?_
    refine lv_iload hx hb dX12_offer_164 (lv_at hl 5 rfl) ?_
    refine lv_imul hx hb dX12_offer_166 ?_
    refine lv_iadd hx hb dX12_offer_167 ?_
    refine lv_iconst (v := 3) hx hb dX12_offer_168 (by decide) ?_
    refine lv_iadd hx hb dX12_offer_169 ?_
    refine lv_iload hx hb dX12_offer_170 (lv_at hl 4 rfl) ?_
    obtain ⟨hi_37, hp⟩ := ckI_s hp
    obtain ⟨mo_38, emo_38⟩ : ∃ y : Mem, y = upm mo_36 0 ((176 + (5 * x5)) + 3).toNatClampNeg p4 := ⟨_, rfl⟩
    have hp := stk_e hp emo_38
    refine r_ist hx hb hK hP hD hS (wn := (w_Mo cy qmo mo_38)) 1 rfl hi_37 (by subst emo_38; rfl) dX12_offer_172 (fun H locs hP hD hS => ?_)
    refine lv_aload_n hx hb dX12_offer_173 rfl (lv_at hl 0 rfl) ?_
    refine gf_X12_7 hx hb hts hown hK hP 0 rfl rfl dX12_offer_174 ?_
    refine lv_sipush (v := 176) hx hb dX12_offer_177 (by decide) ?_
    refine lv_iconst (v := 5) hx hb dX12_offer_180 (by decide) ?_
    refine lv_iload hx hb dX12_offer_181 (lv_at hl 5 rfl) ?_
    refine lv_imul hx hb dX12_offer_183 ?_
    refine lv_iadd hx hb dX12_offer_184 ?_
    refine lv_iconst (v := 4) hx hb dX12_offer_185 (by decide) ?_
    refine lv_iadd hx hb dX12_offer_186 ?_
    refine lv_iconst (v := 1) hx hb dX12_offer_187 (by decide) ?_
    obtain ⟨hi_39, hp⟩ := ckI_s hp
    obtain ⟨mo_40, emo_40⟩ : ∃ y : Mem, y = upm mo_38 0 ((176 + (5 * x5)) + 4).toNatClampNeg 1 := ⟨_, rfl⟩
    have hp := stk_e hp emo_40
    refine r_ist hx hb hK hP hD hS (wn := (w_Mo cy qmo mo_40)) 1 rfl hi_39 (by subst emo_40; rfl) dX12_offer_188 (fun H locs hP hD hS => ?_)
    refine lv_iload hx hb dX12_offer_189 (lv_at hl 5 rfl) ?_
    simp only [Option.some.injEq, Prod.mk.injEq] at hp
    obtain ⟨h0, rfl⟩ := hp
    exact e_RIi hx hb hr hk hP hD hS dX12_offer_191 h0
  · have hp := ite_p hp c_30
    refine lv_bipush (v := (-3)) hx hb dX12_offer_107 (by decide) ?_
    simp only [Option.some.injEq, Prod.mk.injEq] at hp
    obtain ⟨h0, rfl⟩ := hp
    exact e_RIi hx hb hr hk hP hD hS dX12_offer_109 h0
set_option maxHeartbeats 4000000 in
set_option maxRecDepth 100000 in
theorem Mo_offer_b75B_w (C0 : cX RX12 cX12_offer (some .int) 6 p s m args meth c) (hK : kN D cy s) {qmo : Nat → Nat} {p1 p2 p3 p4 : Int32} {r : Int32} {mo' : Mem} (hA : ∀ q, s.heap.size ≤ q → A q) {k75 : Mem → Int32 → Option (Int32 × Mem)} (hk75 : ∀ (mo : Mem) (x5 : Int32) (H : Heap) (locs : List Loc) (ls : Array Slot), va_P D vwCl (w_Mo cy qmo mo) H → va_D A (w_Mo cy qmo mo) → va_S A s.heap H locs → lv_has ls 6 [(0, .ref (qmo 0)), (1, .int p1), (2, .int p2), (3, .int p3), (4, .int p4), (5, .int x5)] → k75 mo x5 = some (r, mo') → W p l e (rmD 4) s m args below meth c H locs 0 0 (qRI D below args s A (w_Mo cy qmo mo') r) (F0 m 75 ls [])) {mo : Mem} {x5 : Int32} {H : Heap} {locs : List Loc} (hP : va_P D vwCl (w_Mo cy qmo mo) H) (hD : va_D A (w_Mo cy qmo mo)) (hS : va_S A s.heap H locs) {ls : Array Slot} (hl : lv_has ls 6 [(0, .ref (qmo 0)), (1, .int p1), (2, .int p2), (3, .int p3), (4, .int p4), (5, .int x5)]) (hp : Mo_offer_b75B p1 p2 p3 p4 k75 mo x5 = some (r, mo')) : W p l e (rmD 4) s m args below meth c H locs 0 0 (qRI D below args s A (w_Mo cy qmo mo') r) (F0 m 75 ls []) := by
  obtain ⟨hx, hb, hr, hml, hown, hts, hk⟩ := id C0
  unfold Mo_offer_b75B at hp
  refine lv_iload hx hb dX12_offer_75 (lv_at hl 5 rfl) ?_
  refine lv_bipush (v := 8) hx hb dX12_offer_77 (by decide) ?_
  refine lv_icmp_ge (tgt := 100) hx hb dX12_offer_79 (by decide) (fun c_25 => ?_) (fun c_25 => ?_)
  · have hp := ite_p hp c_25
    exact Mo_offer_b100_w C0 hK hA  hP hD hS hl hp
  · have hp := ite_n hp c_25
    refine lv_aload_n hx hb dX12_offer_82 rfl (lv_at hl 0 rfl) ?_
    refine lv_iload hx hb dX12_offer_83 (lv_at hl 5 rfl) ?_
    obtain ⟨r_27, hc_26, hp⟩ := bn1_s hp
    refine k_ROV (As := [.int x5]) (rest := []) ⟨hx, hb, hml, hown, hts⟩ hK hP (cw_X12_222 hts ⟨Nat.le_of_ble_eq_true rfl, Nat.le_of_ble_eq_true rfl⟩) 0 (ci := 12) rfl rfl rfl (c_X12_isOffer l D cy qmo mo x5 r_27 hc_26) rfl hl.1 (Nat.le_of_ble_eq_true rfl) ⟨Nat.le_refl _, Nat.le_refl _⟩ dX12_offer_85 ?_
    refine lv_if_eq (tgt := 100) hx hb dX12_offer_88 (by decide) (fun c_28 => ?_) (fun c_28 => ?_)
    · have hp := ite_p hp c_28
      exact Mo_offer_b100_w C0 hK hA  hP hD hS hl hp
    · have hp := ite_n hp c_28
      refine lv_iload hx hb dX12_offer_91 (lv_at hl 5 rfl) ?_
      refine lv_iconst (v := 1) hx hb dX12_offer_93 (by decide) ?_
      refine lv_iadd hx hb dX12_offer_94 ?_
      refine lv_topi (fun x5_29 ex5_29 => ?_)
      have hp := stk_e hp ex5_29
      refine lv_istore (lv' := [(5, .int x5_29), (0, .ref (qmo 0)), (1, .int p1), (2, .int p2), (3, .int p3), (4, .int p4)]) hx hb dX12_offer_95 hl (by decide) rfl (fun ls hl => ?_)
      refine lv_goto (tgt := 75) hx hb dX12_offer_97 (by decide) ?_
      exact hk75 mo x5_29 _ _ _ hP hD hS (lv_sub hl [1, 2, 3, 4, 5, 0] rfl) hp
theorem Mo_offer_b75_w (C0 : cX RX12 cX12_offer (some .int) 6 p s m args meth c) (hK : kN D cy s) {qmo : Nat → Nat} {p1 p2 p3 p4 : Int32} {r : Int32} {mo' : Mem} (hA : ∀ q, s.heap.size ≤ q → A q) : ∀ (n : Nat) (mo : Mem) (x5 : Int32) (H : Heap) (locs : List Loc) (ls : Array Slot), va_P D vwCl (w_Mo cy qmo mo) H → va_D A (w_Mo cy qmo mo) → va_S A s.heap H locs → lv_has ls 6 [(0, .ref (qmo 0)), (1, .int p1), (2, .int p2), (3, .int p3), (4, .int p4), (5, .int x5)] → Mo_offer_b75 p1 p2 p3 p4 n mo x5 = some (r, mo') → W p l e (rmD 4) s m args below meth c H locs 0 0 (qRI D below args s A (w_Mo cy qmo mo') r) (F0 m 75 ls []) := by
  intro n
  induction n with
  | zero =>
    intro mo x5 H locs ls hP hD hS hl hp
    cases hp
  | succ n ih =>
    intro mo x5 H locs ls hP hD hS hl hp
    exact Mo_offer_b75B_w C0 hK hA  (fun mo x5 H locs ls hP hD hS hl hp => ih mo x5 H locs ls hP hD hS hl hp) hP hD hS hl hp
set_option maxHeartbeats 4000000 in
set_option maxRecDepth 100000 in
theorem c_X12_offer (l : Launch) (D : va_G) (cy : Nat → ClassId) (qmo : Nat → Nat) (mo : Mem) (p1 p2 p3 p4 : Int32) (r : Int32) (mo' : Mem) (hp : Mo_offer mo p1 p2 p3 p4 = some (r, mo')) : RI l yX12_offer cX12_offer 6 (some .int) 4 D cy [.ref (qmo 0), .int p1, .int p2, .int p3, .int p4] (w_Mo cy qmo mo) (w_Mo cy qmo mo') r := by
  refine RI_of RX12 rfl (by decide) (Nat.le_of_ble_eq_true rfl) ?_
  intro p e s m below meth c A C0 hK hP hD hS hA ls hl
  obtain ⟨hx, hb, hr, hml, hown, hts, hk⟩ := id C0
  unfold Mo_offer at hp
  have hl : lv_has ls 6 [(0, .ref (qmo 0)), (1, .int p1), (2, .int p2), (3, .int p3), (4, .int p4)] := hl
  refine lv_aload_n hx hb dX12_offer_0 rfl (lv_at hl 0 rfl) ?_
  refine lv_iload_n hx hb dX12_offer_1 rfl (lv_at hl 1 rfl) ?_
  obtain ⟨r_2, hc_1, hp⟩ := bn1_s hp
  refine k_ROV (As := [.int p1]) (rest := []) ⟨hx, hb, hml, hown, hts⟩ hK hP (cw_X12_153 hts ⟨Nat.le_of_ble_eq_true rfl, Nat.le_of_ble_eq_true rfl⟩) 0 (ci := 12) rfl rfl rfl (c_X12_isFlight l D cy qmo mo p1 r_2 hc_1) rfl hl.1 (Nat.le_of_ble_eq_true rfl) ⟨Nat.le_refl _, Nat.le_refl _⟩ dX12_offer_2 ?_
  refine lv_if_eq (tgt := 36) hx hb dX12_offer_5 (by decide) (fun c_3 => ?_) (fun c_3 => ?_)
  · have hp := ite_p hp c_3
    refine lv_iconst (v := (-1)) hx hb dX12_offer_36 (by decide) ?_
    simp only [Option.some.injEq, Prod.mk.injEq] at hp
    obtain ⟨h0, rfl⟩ := hp
    exact e_RIi hx hb hr hk hP hD hS dX12_offer_37 h0
  · have hp := ite_n hp c_3
    refine lv_aload_n hx hb dX12_offer_8 rfl (lv_at hl 0 rfl) ?_
    refine lv_iload_n hx hb dX12_offer_9 rfl (lv_at hl 3 rfl) ?_
    obtain ⟨r_5, hc_4, hp⟩ := bn1_s hp
    refine k_ROV (As := [.int p3]) (rest := []) ⟨hx, hb, hml, hown, hts⟩ hK hP (cw_X12_153 hts ⟨Nat.le_of_ble_eq_true rfl, Nat.le_of_ble_eq_true rfl⟩) 0 (ci := 12) rfl rfl rfl (c_X12_isFlight l D cy qmo mo p3 r_5 hc_4) rfl hl.1 (Nat.le_of_ble_eq_true rfl) ⟨Nat.le_refl _, Nat.le_refl _⟩ dX12_offer_10 ?_
    refine lv_if_eq (tgt := 36) hx hb dX12_offer_13 (by decide) (fun c_6 => ?_) (fun c_6 => ?_)
    · have hp := ite_p hp c_6
      refine lv_iconst (v := (-1)) hx hb dX12_offer_36 (by decide) ?_
      simp only [Option.some.injEq, Prod.mk.injEq] at hp
      obtain ⟨h0, rfl⟩ := hp
      exact e_RIi hx hb hr hk hP hD hS dX12_offer_37 h0
    · have hp := ite_n hp c_6
      refine lv_iload_n hx hb dX12_offer_16 rfl (lv_at hl 1 rfl) ?_
      refine lv_iload_n hx hb dX12_offer_17 rfl (lv_at hl 3 rfl) ?_
      refine lv_icmp_eq (tgt := 36) hx hb dX12_offer_18 (by decide) (fun c_7 => ?_) (fun c_7 => ?_)
      · have hp := ite_p hp c_7
        refine lv_iconst (v := (-1)) hx hb dX12_offer_36 (by decide) ?_
        simp only [Option.some.injEq, Prod.mk.injEq] at hp
        obtain ⟨h0, rfl⟩ := hp
        exact e_RIi hx hb hr hk hP hD hS dX12_offer_37 h0
      · have hp := ite_n hp c_7
        refine lv_iload_n hx hb dX12_offer_21 rfl (lv_at hl 2 rfl) ?_
        obtain ⟨r_9, hc_8, hp⟩ := bn1_s hp
        refine k_ROS (As := [.int p2]) (rest := []) ⟨hx, hb, hml, hown, hts⟩ hK (show va_P D vwCl [] _ from fun k q h => by simp at h) (cw_X12_162 hts ⟨Nat.le_of_ble_eq_true rfl, Nat.le_of_ble_eq_true rfl⟩) (c_X12_isMinute l D cy p2 r_9 hc_8) rfl hl.1 (Nat.le_of_ble_eq_true rfl) ⟨Nat.le_refl _, Nat.le_refl _⟩ dX12_offer_22 ?_
        refine lv_if_eq (tgt := 36) hx hb dX12_offer_25 (by decide) (fun c_10 => ?_) (fun c_10 => ?_)
        · have hp := ite_p hp c_10
          refine lv_iconst (v := (-1)) hx hb dX12_offer_36 (by decide) ?_
          simp only [Option.some.injEq, Prod.mk.injEq] at hp
          obtain ⟨h0, rfl⟩ := hp
          exact e_RIi hx hb hr hk hP hD hS dX12_offer_37 h0
        · have hp := ite_n hp c_10
          refine lv_iload hx hb dX12_offer_28 (lv_at hl 4 rfl) ?_
          obtain ⟨r_12, hc_11, hp⟩ := bn1_s hp
          refine k_ROS (As := [.int p4]) (rest := []) ⟨hx, hb, hml, hown, hts⟩ hK (show va_P D vwCl [] _ from fun k q h => by simp at h) (cw_X12_162 hts ⟨Nat.le_of_ble_eq_true rfl, Nat.le_of_ble_eq_true rfl⟩) (c_X12_isMinute l D cy p4 r_12 hc_11) rfl hl.1 (Nat.le_of_ble_eq_true rfl) ⟨Nat.le_refl _, Nat.le_refl _⟩ dX12_offer_30 ?_
          refine lv_if_ne (tgt := 38) hx hb dX12_offer_33 (by decide) (fun c_13 => ?_) (fun c_13 => ?_)
          · have hp := ite_n hp c_13
            refine lv_aload_n hx hb dX12_offer_38 rfl (lv_at hl 0 rfl) ?_
            refine lv_iload_n hx hb dX12_offer_39 rfl (lv_at hl 1 rfl) ?_
            obtain ⟨r_15, hc_14, hp⟩ := bn1_s hp
            refine k_ROV (As := [.int p1]) (rest := []) ⟨hx, hb, hml, hown, hts⟩ hK hP (cw_X12_203 hts ⟨Nat.le_of_ble_eq_true rfl, Nat.le_of_ble_eq_true rfl⟩) 0 (ci := 12) rfl rfl rfl (c_X12_isGround l D cy qmo mo p1 r_15 hc_14) rfl hl.1 (Nat.le_of_ble_eq_true rfl) ⟨Nat.le_refl _, Nat.le_refl _⟩ dX12_offer_40 ?_
            refine lv_if_eq (tgt := 69) hx hb dX12_offer_43 (by decide) (fun c_16 => ?_) (fun c_16 => ?_)
            · have hp := ite_p hp c_16
              refine lv_bipush (v := (-2)) hx hb dX12_offer_69 (by decide) ?_
              simp only [Option.some.injEq, Prod.mk.injEq] at hp
              obtain ⟨h0, rfl⟩ := hp
              exact e_RIi hx hb hr hk hP hD hS dX12_offer_71 h0
            · have hp := ite_n hp c_16
              refine lv_aload_n hx hb dX12_offer_46 rfl (lv_at hl 0 rfl) ?_
              refine lv_iload_n hx hb dX12_offer_47 rfl (lv_at hl 3 rfl) ?_
              obtain ⟨r_18, hc_17, hp⟩ := bn1_s hp
              refine k_ROV (As := [.int p3]) (rest := []) ⟨hx, hb, hml, hown, hts⟩ hK hP (cw_X12_203 hts ⟨Nat.le_of_ble_eq_true rfl, Nat.le_of_ble_eq_true rfl⟩) 0 (ci := 12) rfl rfl rfl (c_X12_isGround l D cy qmo mo p3 r_18 hc_17) rfl hl.1 (Nat.le_of_ble_eq_true rfl) ⟨Nat.le_refl _, Nat.le_refl _⟩ dX12_offer_48 ?_
              refine lv_if_eq (tgt := 69) hx hb dX12_offer_51 (by decide) (fun c_19 => ?_) (fun c_19 => ?_)
              · have hp := ite_p hp c_19
                refine lv_bipush (v := (-2)) hx hb dX12_offer_69 (by decide) ?_
                simp only [Option.some.injEq, Prod.mk.injEq] at hp
                obtain ⟨h0, rfl⟩ := hp
                exact e_RIi hx hb hr hk hP hD hS dX12_offer_71 h0
              · have hp := ite_n hp c_19
                refine lv_aload_n hx hb dX12_offer_54 rfl (lv_at hl 0 rfl) ?_
                refine lv_iload_n hx hb dX12_offer_55 rfl (lv_at hl 1 rfl) ?_
                refine lv_iconst (v := 0) hx hb dX12_offer_56 (by decide) ?_
                obtain ⟨r_21, hc_20, hp⟩ := bn1_s hp
                refine k_ROV (As := [.int p1, .int 0]) (rest := []) ⟨hx, hb, hml, hown, hts⟩ hK hP (cw_X12_128 hts ⟨Nat.le_of_ble_eq_true rfl, Nat.le_of_ble_eq_true rfl⟩) 0 (ci := 12) rfl rfl rfl (c_X12_of l D cy qmo mo p1 0 r_21 hc_20) rfl hl.1 (Nat.le_of_ble_eq_true rfl) ⟨Nat.le_refl _, Nat.le_refl _⟩ dX12_offer_57 ?_
                refine lv_aload_n hx hb dX12_offer_60 rfl (lv_at hl 0 rfl) ?_
                refine lv_iload_n hx hb dX12_offer_61 rfl (lv_at hl 3 rfl) ?_
                refine lv_iconst (v := 0) hx hb dX12_offer_62 (by decide) ?_
                obtain ⟨r_23, hc_22, hp⟩ := bn1_s hp
                refine k_ROV (As := [.int p3, .int 0]) (rest := [.int r_21]) ⟨hx, hb, hml, hown, hts⟩ hK hP (cw_X12_128 hts ⟨Nat.le_of_ble_eq_true rfl, Nat.le_of_ble_eq_true rfl⟩) 0 (ci := 12) rfl rfl rfl (c_X12_of l D cy qmo mo p3 0 r_23 hc_22) rfl hl.1 (Nat.le_of_ble_eq_true rfl) ⟨Nat.le_refl _, Nat.le_refl _⟩ dX12_offer_63 ?_
                refine lv_icmp_eq (tgt := 72) hx hb dX12_offer_66 (by decide) (fun c_24 => ?_) (fun c_24 => ?_)
                · have hp := ite_p hp c_24
                  refine lv_iconst (v := 0) hx hb dX12_offer_72 (by decide) ?_
                  refine lv_istore (lv' := [(5, .int 0), (0, .ref (qmo 0)), (1, .int p1), (2, .int p2), (3, .int p3), (4, .int p4)]) hx hb dX12_offer_73 hl (by decide) rfl (fun ls hl => ?_)
                  exact Mo_offer_b75_w C0 hK hA  fl mo 0 _ _ _ hP hD hS (lv_sub hl [1, 2, 3, 4, 5, 0] rfl) hp
                · have hp := ite_n hp c_24
                  refine lv_bipush (v := (-2)) hx hb dX12_offer_69 (by decide) ?_
                  simp only [Option.some.injEq, Prod.mk.injEq] at hp
                  obtain ⟨h0, rfl⟩ := hp
                  exact e_RIi hx hb hr hk hP hD hS dX12_offer_71 h0
          · have hp := ite_p hp c_13
            refine lv_iconst (v := (-1)) hx hb dX12_offer_36 (by decide) ?_
            simp only [Option.some.injEq, Prod.mk.injEq] at hp
            obtain ⟨h0, rfl⟩ := hp
            exact e_RIi hx hb hr hk hP hD hS dX12_offer_37 h0
/-! StormSlotsModel.withdraw(I)Z -/
def Mo_withdraw (mo : Mem) (p1 : Int32) : Option (Int32 × Mem) :=
  bn1 (Mo_isOffer mo p1) (fun r_2 => if r_2 = 0 then some (0, mo) else ckI ((176 + (5 * p1)) + 4) 1452 (stk (upm mo 0 ((176 + (5 * p1)) + 4).toNatClampNeg 0) (fun mo_5 => some (1, mo_5))))
set_option maxHeartbeats 4000000 in
set_option maxRecDepth 100000 in
theorem c_X12_withdraw (l : Launch) (D : va_G) (cy : Nat → ClassId) (qmo : Nat → Nat) (mo : Mem) (p1 : Int32) (r : Int32) (mo' : Mem) (hp : Mo_withdraw mo p1 = some (r, mo')) : RI l yX12_withdraw cX12_withdraw 2 (some .boolean) 2 D cy [.ref (qmo 0), .int p1] (w_Mo cy qmo mo) (w_Mo cy qmo mo') r := by
  refine RI_of RX12 rfl (by decide) (Nat.le_of_ble_eq_true rfl) ?_
  intro p e s m below meth c A C0 hK hP hD hS hA ls hl
  obtain ⟨hx, hb, hr, hml, hown, hts, hk⟩ := id C0
  unfold Mo_withdraw at hp
  have hl : lv_has ls 2 [(0, .ref (qmo 0)), (1, .int p1)] := hl
  refine lv_aload_n hx hb dX12_withdraw_0 rfl (lv_at hl 0 rfl) ?_
  refine lv_iload_n hx hb dX12_withdraw_1 rfl (lv_at hl 1 rfl) ?_
  obtain ⟨r_2, hc_1, hp⟩ := bn1_s hp
  refine k_ROV (As := [.int p1]) (rest := []) ⟨hx, hb, hml, hown, hts⟩ hK hP (cw_X12_222 hts ⟨Nat.le_of_ble_eq_true rfl, Nat.le_of_ble_eq_true rfl⟩) 0 (ci := 12) rfl rfl rfl (c_X12_isOffer l D cy qmo mo p1 r_2 hc_1) rfl hl.1 (Nat.le_of_ble_eq_true rfl) ⟨Nat.le_refl _, Nat.le_refl _⟩ dX12_withdraw_2 ?_
  refine lv_if_ne (tgt := 10) hx hb dX12_withdraw_5 (by decide) (fun c_3 => ?_) (fun c_3 => ?_)
  · have hp := ite_n hp c_3
    refine lv_aload_n hx hb dX12_withdraw_10 rfl (lv_at hl 0 rfl) ?_
    refine gf_X12_7 hx hb hts hown hK hP 0 rfl rfl dX12_withdraw_11 ?_
    refine lv_sipush (v := 176) hx hb dX12_withdraw_14 (by decide) ?_
    refine lv_iconst (v := 5) hx hb dX12_withdraw_17 (by decide) ?_
    refine lv_iload_n hx hb dX12_withdraw_18 rfl (lv_at hl 1 rfl) ?_
    refine lv_imul hx hb dX12_withdraw_19 ?_
    refine lv_iadd hx hb dX12_withdraw_20 ?_
    refine lv_iconst (v := 4) hx hb dX12_withdraw_21 (by decide) ?_
    refine lv_iadd hx hb dX12_withdraw_22 ?_
    refine lv_iconst (v := 0) hx hb dX12_withdraw_23 (by decide) ?_
    obtain ⟨hi_4, hp⟩ := ckI_s hp
    obtain ⟨mo_5, emo_5⟩ : ∃ y : Mem, y = upm mo 0 ((176 + (5 * p1)) + 4).toNatClampNeg 0 := ⟨_, rfl⟩
    have hp := stk_e hp emo_5
    refine r_ist hx hb hK hP hD hS (wn := (w_Mo cy qmo mo_5)) 1 rfl hi_4 (by subst emo_5; rfl) dX12_withdraw_24 (fun H locs hP hD hS => ?_)
    refine lv_iconst (v := 1) hx hb dX12_withdraw_25 (by decide) ?_
    simp only [Option.some.injEq, Prod.mk.injEq] at hp
    obtain ⟨h0, rfl⟩ := hp
    exact e_RIz hx hb hr hk (Or.inr rfl) hP hD hS dX12_withdraw_26 h0
  · have hp := ite_p hp c_3
    refine lv_iconst (v := 0) hx hb dX12_withdraw_8 (by decide) ?_
    simp only [Option.some.injEq, Prod.mk.injEq] at hp
    obtain ⟨h0, rfl⟩ := hp
    exact e_RIz hx hb hr hk (Or.inl rfl) hP hD hS dX12_withdraw_9 h0
/-! StormSlotsModel.asked(II)I -/
def Mo_asked (mo : Mem) (p1 : Int32) (p2 : Int32) : Option (Int32) :=
  ckI ((176 + (5 * p1)) + p2) 1452 (some (mo 0 ((176 + (5 * p1)) + p2).toNatClampNeg))
set_option maxHeartbeats 4000000 in
set_option maxRecDepth 100000 in
theorem c_X12_asked (l : Launch) (D : va_G) (cy : Nat → ClassId) (qmo : Nat → Nat) (mo : Mem) (p1 p2 : Int32) (r : Int32) (hp : Mo_asked mo p1 p2 = some r) : RO l yX12_asked cX12_asked 3 (some .int) 0 D cy [.ref (qmo 0), .int p1, .int p2] (w_Mo cy qmo mo) r := by
  refine RO_of RX12 rfl (by decide) (Nat.le_of_ble_eq_true rfl) ?_
  intro p e s m below meth c C0 hK hP ls hl
  obtain ⟨hx, hb, hr, hml, hown, hts, hk⟩ := id C0
  unfold Mo_asked at hp
  have hl : lv_has ls 3 [(0, .ref (qmo 0)), (1, .int p1), (2, .int p2)] := hl
  refine lv_aload_n hx hb dX12_asked_0 rfl (lv_at hl 0 rfl) ?_
  refine gf_X12_7 hx hb hts hown hK hP 0 rfl rfl dX12_asked_1 ?_
  refine lv_sipush (v := 176) hx hb dX12_asked_4 (by decide) ?_
  refine lv_iconst (v := 5) hx hb dX12_asked_7 (by decide) ?_
  refine lv_iload_n hx hb dX12_asked_8 rfl (lv_at hl 1 rfl) ?_
  refine lv_imul hx hb dX12_asked_9 ?_
  refine lv_iadd hx hb dX12_asked_10 ?_
  refine lv_iload_n hx hb dX12_asked_11 rfl (lv_at hl 2 rfl) ?_
  refine lv_iadd hx hb dX12_asked_12 ?_
  obtain ⟨hi_1, hp⟩ := ckI_s hp
  refine r_ild hx hb hK hP 1 rfl hi_1 dX12_asked_13 ?_
  exact e_ROi hx hb hr hk dX12_asked_14 (Option.some.inj hp)
/-! StormSlotsModel.offered(II)I -/
def Mo_offered (mo : Mem) (p1 : Int32) (p2 : Int32) : Option (Int32) :=
  bn1 (Mo_isOffer mo p1) (fun r_2 => if r_2 = 0 then some (-1) else bn1 (Mo_in p2 0 3) (fun r_5 => if r_5 = 0 then some (-1) else bn1 (Mo_asked mo p1 p2) (fun r_8 => some r_8)))
set_option maxHeartbeats 4000000 in
set_option maxRecDepth 100000 in
theorem c_X12_offered (l : Launch) (D : va_G) (cy : Nat → ClassId) (qmo : Nat → Nat) (mo : Mem) (p1 p2 : Int32) (r : Int32) (hp : Mo_offered mo p1 p2 = some r) : RO l yX12_offered cX12_offered 3 (some .int) 2 D cy [.ref (qmo 0), .int p1, .int p2] (w_Mo cy qmo mo) r := by
  refine RO_of RX12 rfl (by decide) (Nat.le_of_ble_eq_true rfl) ?_
  intro p e s m below meth c C0 hK hP ls hl
  obtain ⟨hx, hb, hr, hml, hown, hts, hk⟩ := id C0
  unfold Mo_offered at hp
  have hl : lv_has ls 3 [(0, .ref (qmo 0)), (1, .int p1), (2, .int p2)] := hl
  refine lv_aload_n hx hb dX12_offered_0 rfl (lv_at hl 0 rfl) ?_
  refine lv_iload_n hx hb dX12_offered_1 rfl (lv_at hl 1 rfl) ?_
  obtain ⟨r_2, hc_1, hp⟩ := bn1_s hp
  refine k_ROV (As := [.int p1]) (rest := []) ⟨hx, hb, hml, hown, hts⟩ hK hP (cw_X12_222 hts ⟨Nat.le_of_ble_eq_true rfl, Nat.le_of_ble_eq_true rfl⟩) 0 (ci := 12) rfl rfl rfl (c_X12_isOffer l D cy qmo mo p1 r_2 hc_1) rfl hl.1 (Nat.le_of_ble_eq_true rfl) ⟨Nat.le_refl _, Nat.le_refl _⟩ dX12_offered_2 ?_
  refine lv_if_eq (tgt := 26) hx hb dX12_offered_5 (by decide) (fun c_3 => ?_) (fun c_3 => ?_)
  · have hp := ite_p hp c_3
    refine lv_iconst (v := (-1)) hx hb dX12_offered_26 (by decide) ?_
    exact e_ROi hx hb hr hk dX12_offered_27 (Option.some.inj hp)
  · have hp := ite_n hp c_3
    refine lv_iload_n hx hb dX12_offered_8 rfl (lv_at hl 2 rfl) ?_
    refine lv_iconst (v := 0) hx hb dX12_offered_9 (by decide) ?_
    refine lv_iconst (v := 3) hx hb dX12_offered_10 (by decide) ?_
    obtain ⟨r_5, hc_4, hp⟩ := bn1_s hp
    refine k_ROS (As := [.int p2, .int 0, .int 3]) (rest := []) ⟨hx, hb, hml, hown, hts⟩ hK (show va_P D vwCl [] _ from fun k q h => by simp at h) (cw_X12_45 hts ⟨Nat.le_of_ble_eq_true rfl, Nat.le_of_ble_eq_true rfl⟩) (c_X12_in l D cy p2 0 3 r_5 hc_4) rfl hl.1 (Nat.le_of_ble_eq_true rfl) ⟨Nat.le_refl _, Nat.le_refl _⟩ dX12_offered_11 ?_
    refine lv_if_eq (tgt := 26) hx hb dX12_offered_14 (by decide) (fun c_6 => ?_) (fun c_6 => ?_)
    · have hp := ite_p hp c_6
      refine lv_iconst (v := (-1)) hx hb dX12_offered_26 (by decide) ?_
      exact e_ROi hx hb hr hk dX12_offered_27 (Option.some.inj hp)
    · have hp := ite_n hp c_6
      refine lv_aload_n hx hb dX12_offered_17 rfl (lv_at hl 0 rfl) ?_
      refine lv_iload_n hx hb dX12_offered_18 rfl (lv_at hl 1 rfl) ?_
      refine lv_iload_n hx hb dX12_offered_19 rfl (lv_at hl 2 rfl) ?_
      obtain ⟨r_8, hc_7, hp⟩ := bn1_s hp
      refine k_ROV (As := [.int p1, .int p2]) (rest := []) ⟨hx, hb, hml, hown, hts⟩ hK hP (cw_X12_225 hts ⟨Nat.le_of_ble_eq_true rfl, Nat.le_of_ble_eq_true rfl⟩) 0 (ci := 12) rfl rfl rfl (c_X12_asked l D cy qmo mo p1 p2 r_8 hc_7) rfl hl.1 (Nat.le_of_ble_eq_true rfl) ⟨Nat.le_refl _, Nat.le_refl _⟩ dX12_offered_20 ?_
      refine lv_goto (tgt := 27) hx hb dX12_offered_23 (by decide) ?_
      exact e_ROi hx hb hr hk dX12_offered_27 (Option.some.inj hp)
/-! StormSlotsModel.stillSo(I)Z -/
def Mo_stillSo (mo : Mem) (p1 : Int32) : Option (Int32) :=
  bn1 (Mo_asked mo p1 0) (fun r_2 => bn1 (Mo_isGround mo r_2) (fun r_4 => if r_4 = 0 then some 0 else bn1 (Mo_asked mo p1 2) (fun r_7 => bn1 (Mo_isGround mo r_7) (fun r_9 => if r_9 = 0 then some 0 else some 1))))
set_option maxHeartbeats 4000000 in
set_option maxRecDepth 100000 in
theorem c_X12_stillSo (l : Launch) (D : va_G) (cy : Nat → ClassId) (qmo : Nat → Nat) (mo : Mem) (p1 : Int32) (r : Int32) (hp : Mo_stillSo mo p1 = some r) : RO l yX12_stillSo cX12_stillSo 2 (some .boolean) 4 D cy [.ref (qmo 0), .int p1] (w_Mo cy qmo mo) r := by
  refine RO_of RX12 rfl (by decide) (Nat.le_of_ble_eq_true rfl) ?_
  intro p e s m below meth c C0 hK hP ls hl
  obtain ⟨hx, hb, hr, hml, hown, hts, hk⟩ := id C0
  unfold Mo_stillSo at hp
  have hl : lv_has ls 2 [(0, .ref (qmo 0)), (1, .int p1)] := hl
  refine lv_aload_n hx hb dX12_stillSo_0 rfl (lv_at hl 0 rfl) ?_
  refine lv_aload_n hx hb dX12_stillSo_1 rfl (lv_at hl 0 rfl) ?_
  refine lv_iload_n hx hb dX12_stillSo_2 rfl (lv_at hl 1 rfl) ?_
  refine lv_iconst (v := 0) hx hb dX12_stillSo_3 (by decide) ?_
  obtain ⟨r_2, hc_1, hp⟩ := bn1_s hp
  refine k_ROV (As := [.int p1, .int 0]) (rest := [.ref (qmo 0)]) ⟨hx, hb, hml, hown, hts⟩ hK hP (cw_X12_225 hts ⟨Nat.le_of_ble_eq_true rfl, Nat.le_of_ble_eq_true rfl⟩) 0 (ci := 12) rfl rfl rfl (c_X12_asked l D cy qmo mo p1 0 r_2 hc_1) rfl hl.1 (Nat.le_of_ble_eq_true rfl) ⟨Nat.le_refl _, Nat.le_refl _⟩ dX12_stillSo_4 ?_
  obtain ⟨r_4, hc_3, hp⟩ := bn1_s hp
  refine k_ROV (As := [.int r_2]) (rest := []) ⟨hx, hb, hml, hown, hts⟩ hK hP (cw_X12_203 hts ⟨Nat.le_of_ble_eq_true rfl, Nat.le_of_ble_eq_true rfl⟩) 0 (ci := 12) rfl rfl rfl (c_X12_isGround l D cy qmo mo r_2 r_4 hc_3) rfl hl.1 (Nat.le_of_ble_eq_true rfl) ⟨Nat.le_refl _, Nat.le_refl _⟩ dX12_stillSo_7 ?_
  refine lv_if_eq (tgt := 30) hx hb dX12_stillSo_10 (by decide) (fun c_5 => ?_) (fun c_5 => ?_)
  · have hp := ite_p hp c_5
    refine lv_iconst (v := 0) hx hb dX12_stillSo_30 (by decide) ?_
    exact e_ROz hx hb hr hk (Or.inl rfl) dX12_stillSo_31 (Option.some.inj hp)
  · have hp := ite_n hp c_5
    refine lv_aload_n hx hb dX12_stillSo_13 rfl (lv_at hl 0 rfl) ?_
    refine lv_aload_n hx hb dX12_stillSo_14 rfl (lv_at hl 0 rfl) ?_
    refine lv_iload_n hx hb dX12_stillSo_15 rfl (lv_at hl 1 rfl) ?_
    refine lv_iconst (v := 2) hx hb dX12_stillSo_16 (by decide) ?_
    obtain ⟨r_7, hc_6, hp⟩ := bn1_s hp
    refine k_ROV (As := [.int p1, .int 2]) (rest := [.ref (qmo 0)]) ⟨hx, hb, hml, hown, hts⟩ hK hP (cw_X12_225 hts ⟨Nat.le_of_ble_eq_true rfl, Nat.le_of_ble_eq_true rfl⟩) 0 (ci := 12) rfl rfl rfl (c_X12_asked l D cy qmo mo p1 2 r_7 hc_6) rfl hl.1 (Nat.le_of_ble_eq_true rfl) ⟨Nat.le_refl _, Nat.le_refl _⟩ dX12_stillSo_17 ?_
    obtain ⟨r_9, hc_8, hp⟩ := bn1_s hp
    refine k_ROV (As := [.int r_7]) (rest := []) ⟨hx, hb, hml, hown, hts⟩ hK hP (cw_X12_203 hts ⟨Nat.le_of_ble_eq_true rfl, Nat.le_of_ble_eq_true rfl⟩) 0 (ci := 12) rfl rfl rfl (c_X12_isGround l D cy qmo mo r_7 r_9 hc_8) rfl hl.1 (Nat.le_of_ble_eq_true rfl) ⟨Nat.le_refl _, Nat.le_refl _⟩ dX12_stillSo_20 ?_
    refine lv_if_eq (tgt := 30) hx hb dX12_stillSo_23 (by decide) (fun c_10 => ?_) (fun c_10 => ?_)
    · have hp := ite_p hp c_10
      refine lv_iconst (v := 0) hx hb dX12_stillSo_30 (by decide) ?_
      exact e_ROz hx hb hr hk (Or.inl rfl) dX12_stillSo_31 (Option.some.inj hp)
    · have hp := ite_n hp c_10
      refine lv_iconst (v := 1) hx hb dX12_stillSo_26 (by decide) ?_
      refine lv_goto (tgt := 31) hx hb dX12_stillSo_27 (by decide) ?_
      exact e_ROz hx hb hr hk (Or.inr rfl) dX12_stillSo_31 (Option.some.inj hp)
/-! StormSlotsModel.canSwap(II)Z -/
def Mo_canSwap (mo : Mem) (p1 : Int32) (p2 : Int32) : Option (Int32) :=
  bn1 (Mo_asked mo p1 2) (fun r_2 => bn1 (Mo_asked mo p2 0) (fun r_4 => bn1 (Mo_of mo r_2 4) (fun r_6 => bn1 (Mo_of mo r_4 4) (fun r_8 => if r_6 ≤ r_8 then some 0 else bn1 (Mo_asked mo p1 3) (fun r_11 => if r_11 < r_8 then some 0 else bn1 (Mo_earliest mo r_2) (fun r_14 => if r_8 < r_14 then some 0 else bn1 (Mo_asked mo p2 1) (fun r_17 => if r_17 < r_6 then some 0 else bn1 (Mo_earliest mo r_4) (fun r_20 => if r_6 < r_20 then some 0 else some 1))))))))
set_option maxHeartbeats 4000000 in
set_option maxRecDepth 100000 in
theorem c_X12_canSwap (l : Launch) (D : va_G) (cy : Nat → ClassId) (qmo : Nat → Nat) (mo : Mem) (p1 p2 : Int32) (r : Int32) (hp : Mo_canSwap mo p1 p2 = some r) : RO l yX12_canSwap cX12_canSwap 7 (some .boolean) 2 D cy [.ref (qmo 0), .int p1, .int p2] (w_Mo cy qmo mo) r := by
  refine RO_of RX12 rfl (by decide) (Nat.le_of_ble_eq_true rfl) ?_
  intro p e s m below meth c C0 hK hP ls hl
  obtain ⟨hx, hb, hr, hml, hown, hts, hk⟩ := id C0
  unfold Mo_canSwap at hp
  have hl : lv_has ls 7 [(0, .ref (qmo 0)), (1, .int p1), (2, .int p2)] := hl
  refine lv_aload_n hx hb dX12_canSwap_0 rfl (lv_at hl 0 rfl) ?_
  refine lv_iload_n hx hb dX12_canSwap_1 rfl (lv_at hl 1 rfl) ?_
  refine lv_iconst (v := 2) hx hb dX12_canSwap_2 (by decide) ?_
  obtain ⟨r_2, hc_1, hp⟩ := bn1_s hp
  refine k_ROV (As := [.int p1, .int 2]) (rest := []) ⟨hx, hb, hml, hown, hts⟩ hK hP (cw_X12_225 hts ⟨Nat.le_of_ble_eq_true rfl, Nat.le_of_ble_eq_true rfl⟩) 0 (ci := 12) rfl rfl rfl (c_X12_asked l D cy qmo mo p1 2 r_2 hc_1) rfl hl.1 (Nat.le_of_ble_eq_true rfl) ⟨Nat.le_refl _, Nat.le_refl _⟩ dX12_canSwap_3 ?_
  refine lv_istore_n (lv' := [(3, .int r_2), (0, .ref (qmo 0)), (1, .int p1), (2, .int p2)]) hx hb dX12_canSwap_6 rfl hl (by decide) rfl (fun ls hl => ?_)
  refine lv_aload_n hx hb dX12_canSwap_7 rfl (lv_at hl 1 rfl) ?_
  refine lv_iload_n hx hb dX12_canSwap_8 rfl (lv_at hl 3 rfl) ?_
  refine lv_iconst (v := 0) hx hb dX12_canSwap_9 (by decide) ?_
  obtain ⟨r_4, hc_3, hp⟩ := bn1_s hp
  refine k_ROV (As := [.int p2, .int 0]) (rest := []) ⟨hx, hb, hml, hown, hts⟩ hK hP (cw_X12_225 hts ⟨Nat.le_of_ble_eq_true rfl, Nat.le_of_ble_eq_true rfl⟩) 0 (ci := 12) rfl rfl rfl (c_X12_asked l D cy qmo mo p2 0 r_4 hc_3) rfl hl.1 (Nat.le_of_ble_eq_true rfl) ⟨Nat.le_refl _, Nat.le_refl _⟩ dX12_canSwap_10 ?_
  refine lv_istore (lv' := [(4, .int r_4), (3, .int r_2), (0, .ref (qmo 0)), (1, .int p1), (2, .int p2)]) hx hb dX12_canSwap_13 hl (by decide) rfl (fun ls hl => ?_)
  refine lv_aload_n hx hb dX12_canSwap_15 rfl (lv_at hl 2 rfl) ?_
  refine lv_iload_n hx hb dX12_canSwap_16 rfl (lv_at hl 1 rfl) ?_
  refine lv_iconst (v := 4) hx hb dX12_canSwap_17 (by decide) ?_
  obtain ⟨r_6, hc_5, hp⟩ := bn1_s hp
  refine k_ROV (As := [.int r_2, .int 4]) (rest := []) ⟨hx, hb, hml, hown, hts⟩ hK hP (cw_X12_128 hts ⟨Nat.le_of_ble_eq_true rfl, Nat.le_of_ble_eq_true rfl⟩) 0 (ci := 12) rfl rfl rfl (c_X12_of l D cy qmo mo r_2 4 r_6 hc_5) rfl hl.1 (Nat.le_of_ble_eq_true rfl) ⟨Nat.le_refl _, Nat.le_refl _⟩ dX12_canSwap_18 ?_
  refine lv_istore (lv' := [(5, .int r_6), (4, .int r_4), (3, .int r_2), (0, .ref (qmo 0)), (1, .int p1), (2, .int p2)]) hx hb dX12_canSwap_21 hl (by decide) rfl (fun ls hl => ?_)
  refine lv_aload_n hx hb dX12_canSwap_23 rfl (lv_at hl 3 rfl) ?_
  refine lv_iload hx hb dX12_canSwap_24 (lv_at hl 1 rfl) ?_
  refine lv_iconst (v := 4) hx hb dX12_canSwap_26 (by decide) ?_
  obtain ⟨r_8, hc_7, hp⟩ := bn1_s hp
  refine k_ROV (As := [.int r_4, .int 4]) (rest := []) ⟨hx, hb, hml, hown, hts⟩ hK hP (cw_X12_128 hts ⟨Nat.le_of_ble_eq_true rfl, Nat.le_of_ble_eq_true rfl⟩) 0 (ci := 12) rfl rfl rfl (c_X12_of l D cy qmo mo r_4 4 r_8 hc_7) rfl hl.1 (Nat.le_of_ble_eq_true rfl) ⟨Nat.le_refl _, Nat.le_refl _⟩ dX12_canSwap_27 ?_
  refine lv_istore (lv' := [(6, .int r_8), (5, .int r_6), (4, .int r_4), (3, .int r_2), (0, .ref (qmo 0)), (1, .int p1), (2, .int p2)]) hx hb dX12_canSwap_30 hl (by decide) rfl (fun ls hl => ?_)
  refine lv_iload hx hb dX12_canSwap_32 (lv_at hl 0 rfl) ?_
  refine lv_iload hx hb dX12_canSwap_34 (lv_at hl 1 rfl) ?_
  refine lv_icmp_ge (tgt := 86) hx hb dX12_canSwap_36 (by decide) (fun c_9 => ?_) (fun c_9 => ?_)
  · have hp := ite_p hp c_9
    refine lv_iconst (v := 0) hx hb dX12_canSwap_86 (by decide) ?_
    exact e_ROz hx hb hr hk (Or.inl rfl) dX12_canSwap_87 (Option.some.inj hp)
  · have hp := ite_n hp c_9
    refine lv_iload hx hb dX12_canSwap_39 (lv_at hl 0 rfl) ?_
    refine lv_aload_n hx hb dX12_canSwap_41 rfl (lv_at hl 4 rfl) ?_
    refine lv_iload_n hx hb dX12_canSwap_42 rfl (lv_at hl 5 rfl) ?_
    refine lv_iconst (v := 3) hx hb dX12_canSwap_43 (by decide) ?_
    obtain ⟨r_11, hc_10, hp⟩ := bn1_s hp
    refine k_ROV (As := [.int p1, .int 3]) (rest := [.int r_8]) ⟨hx, hb, hml, hown, hts⟩ hK hP (cw_X12_225 hts ⟨Nat.le_of_ble_eq_true rfl, Nat.le_of_ble_eq_true rfl⟩) 0 (ci := 12) rfl rfl rfl (c_X12_asked l D cy qmo mo p1 3 r_11 hc_10) rfl hl.1 (Nat.le_of_ble_eq_true rfl) ⟨Nat.le_refl _, Nat.le_refl _⟩ dX12_canSwap_44 ?_
    refine lv_icmp_gt (tgt := 86) hx hb dX12_canSwap_47 (by decide) (fun c_12 => ?_) (fun c_12 => ?_)
    · have hp := ite_p hp c_12
      refine lv_iconst (v := 0) hx hb dX12_canSwap_86 (by decide) ?_
      exact e_ROz hx hb hr hk (Or.inl rfl) dX12_canSwap_87 (Option.some.inj hp)
    · have hp := ite_n hp c_12
      refine lv_iload hx hb dX12_canSwap_50 (lv_at hl 0 rfl) ?_
      refine lv_aload_n hx hb dX12_canSwap_52 rfl (lv_at hl 4 rfl) ?_
      refine lv_iload_n hx hb dX12_canSwap_53 rfl (lv_at hl 3 rfl) ?_
      obtain ⟨r_14, hc_13, hp⟩ := bn1_s hp
      refine k_ROV (As := [.int r_2]) (rest := [.int r_8]) ⟨hx, hb, hml, hown, hts⟩ hK hP (cw_X12_156 hts ⟨Nat.le_of_ble_eq_true rfl, Nat.le_of_ble_eq_true rfl⟩) 0 (ci := 12) rfl rfl rfl (c_X12_earliest l D cy qmo mo r_2 r_14 hc_13) rfl hl.1 (Nat.le_of_ble_eq_true rfl) ⟨Nat.le_refl _, Nat.le_refl _⟩ dX12_canSwap_54 ?_
      refine lv_icmp_lt (tgt := 86) hx hb dX12_canSwap_57 (by decide) (fun c_15 => ?_) (fun c_15 => ?_)
      · have hp := ite_p hp c_15
        refine lv_iconst (v := 0) hx hb dX12_canSwap_86 (by decide) ?_
        exact e_ROz hx hb hr hk (Or.inl rfl) dX12_canSwap_87 (Option.some.inj hp)
      · have hp := ite_n hp c_15
        refine lv_iload hx hb dX12_canSwap_60 (lv_at hl 1 rfl) ?_
        refine lv_aload_n hx hb dX12_canSwap_62 rfl (lv_at hl 4 rfl) ?_
        refine lv_iload_n hx hb dX12_canSwap_63 rfl (lv_at hl 6 rfl) ?_
        refine lv_iconst (v := 1) hx hb dX12_canSwap_64 (by decide) ?_
        obtain ⟨r_17, hc_16, hp⟩ := bn1_s hp
        refine k_ROV (As := [.int p2, .int 1]) (rest := [.int r_6]) ⟨hx, hb, hml, hown, hts⟩ hK hP (cw_X12_225 hts ⟨Nat.le_of_ble_eq_true rfl, Nat.le_of_ble_eq_true rfl⟩) 0 (ci := 12) rfl rfl rfl (c_X12_asked l D cy qmo mo p2 1 r_17 hc_16) rfl hl.1 (Nat.le_of_ble_eq_true rfl) ⟨Nat.le_refl _, Nat.le_refl _⟩ dX12_canSwap_65 ?_
        refine lv_icmp_gt (tgt := 86) hx hb dX12_canSwap_68 (by decide) (fun c_18 => ?_) (fun c_18 => ?_)
        · have hp := ite_p hp c_18
          refine lv_iconst (v := 0) hx hb dX12_canSwap_86 (by decide) ?_
          exact e_ROz hx hb hr hk (Or.inl rfl) dX12_canSwap_87 (Option.some.inj hp)
        · have hp := ite_n hp c_18
          refine lv_iload hx hb dX12_canSwap_71 (lv_at hl 1 rfl) ?_
          refine lv_aload_n hx hb dX12_canSwap_73 rfl (lv_at hl 4 rfl) ?_
          refine lv_iload hx hb dX12_canSwap_74 (lv_at hl 2 rfl) ?_
          obtain ⟨r_20, hc_19, hp⟩ := bn1_s hp
          refine k_ROV (As := [.int r_4]) (rest := [.int r_6]) ⟨hx, hb, hml, hown, hts⟩ hK hP (cw_X12_156 hts ⟨Nat.le_of_ble_eq_true rfl, Nat.le_of_ble_eq_true rfl⟩) 0 (ci := 12) rfl rfl rfl (c_X12_earliest l D cy qmo mo r_4 r_20 hc_19) rfl hl.1 (Nat.le_of_ble_eq_true rfl) ⟨Nat.le_refl _, Nat.le_refl _⟩ dX12_canSwap_76 ?_
          refine lv_icmp_lt (tgt := 86) hx hb dX12_canSwap_79 (by decide) (fun c_21 => ?_) (fun c_21 => ?_)
          · have hp := ite_p hp c_21
            refine lv_iconst (v := 0) hx hb dX12_canSwap_86 (by decide) ?_
            exact e_ROz hx hb hr hk (Or.inl rfl) dX12_canSwap_87 (Option.some.inj hp)
          · have hp := ite_n hp c_21
            refine lv_iconst (v := 1) hx hb dX12_canSwap_82 (by decide) ?_
            refine lv_goto (tgt := 87) hx hb dX12_canSwap_83 (by decide) ?_
            exact e_ROz hx hb hr hk (Or.inr rfl) dX12_canSwap_87 (Option.some.inj hp)
/-! StormSlotsModel.lineOf(I)I -/
def Mo_lineOf (mo : Mem) (p1 : Int32) : Option (Int32) :=
  bn1 (Mo_asked mo p1 0) (fun r_2 => bn1 (Mo_of mo r_2 0) (fun r_4 => some r_4))
set_option maxHeartbeats 4000000 in
set_option maxRecDepth 100000 in
theorem c_X12_lineOf (l : Launch) (D : va_G) (cy : Nat → ClassId) (qmo : Nat → Nat) (mo : Mem) (p1 : Int32) (r : Int32) (hp : Mo_lineOf mo p1 = some r) : RO l yX12_lineOf cX12_lineOf 2 (some .int) 1 D cy [.ref (qmo 0), .int p1] (w_Mo cy qmo mo) r := by
  refine RO_of RX12 rfl (by decide) (Nat.le_of_ble_eq_true rfl) ?_
  intro p e s m below meth c C0 hK hP ls hl
  obtain ⟨hx, hb, hr, hml, hown, hts, hk⟩ := id C0
  unfold Mo_lineOf at hp
  have hl : lv_has ls 2 [(0, .ref (qmo 0)), (1, .int p1)] := hl
  refine lv_aload_n hx hb dX12_lineOf_0 rfl (lv_at hl 0 rfl) ?_
  refine lv_aload_n hx hb dX12_lineOf_1 rfl (lv_at hl 0 rfl) ?_
  refine lv_iload_n hx hb dX12_lineOf_2 rfl (lv_at hl 1 rfl) ?_
  refine lv_iconst (v := 0) hx hb dX12_lineOf_3 (by decide) ?_
  obtain ⟨r_2, hc_1, hp⟩ := bn1_s hp
  refine k_ROV (As := [.int p1, .int 0]) (rest := [.ref (qmo 0)]) ⟨hx, hb, hml, hown, hts⟩ hK hP (cw_X12_225 hts ⟨Nat.le_of_ble_eq_true rfl, Nat.le_of_ble_eq_true rfl⟩) 0 (ci := 12) rfl rfl rfl (c_X12_asked l D cy qmo mo p1 0 r_2 hc_1) rfl hl.1 (Nat.le_of_ble_eq_true rfl) ⟨Nat.le_refl _, Nat.le_refl _⟩ dX12_lineOf_4 ?_
  refine lv_iconst (v := 0) hx hb dX12_lineOf_7 (by decide) ?_
  obtain ⟨r_4, hc_3, hp⟩ := bn1_s hp
  refine k_ROV (As := [.int r_2, .int 0]) (rest := []) ⟨hx, hb, hml, hown, hts⟩ hK hP (cw_X12_128 hts ⟨Nat.le_of_ble_eq_true rfl, Nat.le_of_ble_eq_true rfl⟩) 0 (ci := 12) rfl rfl rfl (c_X12_of l D cy qmo mo r_2 0 r_4 hc_3) rfl hl.1 (Nat.le_of_ble_eq_true rfl) ⟨Nat.le_refl _, Nat.le_refl _⟩ dX12_lineOf_8 ?_
  exact e_ROi hx hb hr hk dX12_lineOf_11 (Option.some.inj hp)
/-! StormSlotsModel.canDeal(II)Z -/
def Mo_canDeal (mo : Mem) (p1 : Int32) (p2 : Int32) : Option (Int32) :=
  bn1 (Mo_isOffer mo p1) (fun r_2 => if r_2 = 0 then some 0 else bn1 (Mo_isOffer mo p2) (fun r_5 => if r_5 = 0 then some 0 else bn1 (Mo_lineOf mo p1) (fun r_8 => bn1 (Mo_lineOf mo p2) (fun r_10 => if r_8 = r_10 then some 0 else bn1 (Mo_stillSo mo p1) (fun r_13 => if r_13 = 0 then some 0 else bn1 (Mo_stillSo mo p2) (fun r_16 => if r_16 = 0 then some 0 else bn1 (Mo_canSwap mo p1 p2) (fun r_19 => if r_19 = 0 then some 0 else bn1 (Mo_canSwap mo p2 p1) (fun r_22 => if r_22 = 0 then some 0 else some 1))))))))
set_option maxHeartbeats 4000000 in
set_option maxRecDepth 100000 in
theorem c_X12_canDeal (l : Launch) (D : va_G) (cy : Nat → ClassId) (qmo : Nat → Nat) (mo : Mem) (p1 p2 : Int32) (r : Int32) (hp : Mo_canDeal mo p1 p2 = some r) : RO l yX12_canDeal cX12_canDeal 3 (some .boolean) 5 D cy [.ref (qmo 0), .int p1, .int p2] (w_Mo cy qmo mo) r := by
  refine RO_of RX12 rfl (by decide) (Nat.le_of_ble_eq_true rfl) ?_
  intro p e s m below meth c C0 hK hP ls hl
  obtain ⟨hx, hb, hr, hml, hown, hts, hk⟩ := id C0
  unfold Mo_canDeal at hp
  have hl : lv_has ls 3 [(0, .ref (qmo 0)), (1, .int p1), (2, .int p2)] := hl
  refine lv_aload_n hx hb dX12_canDeal_0 rfl (lv_at hl 0 rfl) ?_
  refine lv_iload_n hx hb dX12_canDeal_1 rfl (lv_at hl 1 rfl) ?_
  obtain ⟨r_2, hc_1, hp⟩ := bn1_s hp
  refine k_ROV (As := [.int p1]) (rest := []) ⟨hx, hb, hml, hown, hts⟩ hK hP (cw_X12_222 hts ⟨Nat.le_of_ble_eq_true rfl, Nat.le_of_ble_eq_true rfl⟩) 0 (ci := 12) rfl rfl rfl (c_X12_isOffer l D cy qmo mo p1 r_2 hc_1) rfl hl.1 (Nat.le_of_ble_eq_true rfl) ⟨Nat.le_refl _, Nat.le_refl _⟩ dX12_canDeal_2 ?_
  refine lv_if_eq (tgt := 67) hx hb dX12_canDeal_5 (by decide) (fun c_3 => ?_) (fun c_3 => ?_)
  · have hp := ite_p hp c_3
    refine lv_iconst (v := 0) hx hb dX12_canDeal_67 (by decide) ?_
    exact e_ROz hx hb hr hk (Or.inl rfl) dX12_canDeal_68 (Option.some.inj hp)
  · have hp := ite_n hp c_3
    refine lv_aload_n hx hb dX12_canDeal_8 rfl (lv_at hl 0 rfl) ?_
    refine lv_iload_n hx hb dX12_canDeal_9 rfl (lv_at hl 2 rfl) ?_
    obtain ⟨r_5, hc_4, hp⟩ := bn1_s hp
    refine k_ROV (As := [.int p2]) (rest := []) ⟨hx, hb, hml, hown, hts⟩ hK hP (cw_X12_222 hts ⟨Nat.le_of_ble_eq_true rfl, Nat.le_of_ble_eq_true rfl⟩) 0 (ci := 12) rfl rfl rfl (c_X12_isOffer l D cy qmo mo p2 r_5 hc_4) rfl hl.1 (Nat.le_of_ble_eq_true rfl) ⟨Nat.le_refl _, Nat.le_refl _⟩ dX12_canDeal_10 ?_
    refine lv_if_eq (tgt := 67) hx hb dX12_canDeal_13 (by decide) (fun c_6 => ?_) (fun c_6 => ?_)
    · have hp := ite_p hp c_6
      refine lv_iconst (v := 0) hx hb dX12_canDeal_67 (by decide) ?_
      exact e_ROz hx hb hr hk (Or.inl rfl) dX12_canDeal_68 (Option.some.inj hp)
    · have hp := ite_n hp c_6
      refine lv_aload_n hx hb dX12_canDeal_16 rfl (lv_at hl 0 rfl) ?_
      refine lv_iload_n hx hb dX12_canDeal_17 rfl (lv_at hl 1 rfl) ?_
      obtain ⟨r_8, hc_7, hp⟩ := bn1_s hp
      refine k_ROV (As := [.int p1]) (rest := []) ⟨hx, hb, hml, hown, hts⟩ hK hP (cw_X12_228 hts ⟨Nat.le_of_ble_eq_true rfl, Nat.le_of_ble_eq_true rfl⟩) 0 (ci := 12) rfl rfl rfl (c_X12_lineOf l D cy qmo mo p1 r_8 hc_7) rfl hl.1 (Nat.le_of_ble_eq_true rfl) ⟨Nat.le_refl _, Nat.le_refl _⟩ dX12_canDeal_18 ?_
      refine lv_aload_n hx hb dX12_canDeal_21 rfl (lv_at hl 0 rfl) ?_
      refine lv_iload_n hx hb dX12_canDeal_22 rfl (lv_at hl 2 rfl) ?_
      obtain ⟨r_10, hc_9, hp⟩ := bn1_s hp
      refine k_ROV (As := [.int p2]) (rest := [.int r_8]) ⟨hx, hb, hml, hown, hts⟩ hK hP (cw_X12_228 hts ⟨Nat.le_of_ble_eq_true rfl, Nat.le_of_ble_eq_true rfl⟩) 0 (ci := 12) rfl rfl rfl (c_X12_lineOf l D cy qmo mo p2 r_10 hc_9) rfl hl.1 (Nat.le_of_ble_eq_true rfl) ⟨Nat.le_refl _, Nat.le_refl _⟩ dX12_canDeal_23 ?_
      refine lv_icmp_eq (tgt := 67) hx hb dX12_canDeal_26 (by decide) (fun c_11 => ?_) (fun c_11 => ?_)
      · have hp := ite_p hp c_11
        refine lv_iconst (v := 0) hx hb dX12_canDeal_67 (by decide) ?_
        exact e_ROz hx hb hr hk (Or.inl rfl) dX12_canDeal_68 (Option.some.inj hp)
      · have hp := ite_n hp c_11
        refine lv_aload_n hx hb dX12_canDeal_29 rfl (lv_at hl 0 rfl) ?_
        refine lv_iload_n hx hb dX12_canDeal_30 rfl (lv_at hl 1 rfl) ?_
        obtain ⟨r_13, hc_12, hp⟩ := bn1_s hp
        refine k_ROV (As := [.int p1]) (rest := []) ⟨hx, hb, hml, hown, hts⟩ hK hP (cw_X12_231 hts ⟨Nat.le_of_ble_eq_true rfl, Nat.le_of_ble_eq_true rfl⟩) 0 (ci := 12) rfl rfl rfl (c_X12_stillSo l D cy qmo mo p1 r_13 hc_12) rfl hl.1 (Nat.le_of_ble_eq_true rfl) ⟨Nat.le_refl _, Nat.le_refl _⟩ dX12_canDeal_31 ?_
        refine lv_if_eq (tgt := 67) hx hb dX12_canDeal_34 (by decide) (fun c_14 => ?_) (fun c_14 => ?_)
        · have hp := ite_p hp c_14
          refine lv_iconst (v := 0) hx hb dX12_canDeal_67 (by decide) ?_
          exact e_ROz hx hb hr hk (Or.inl rfl) dX12_canDeal_68 (Option.some.inj hp)
        · have hp := ite_n hp c_14
          refine lv_aload_n hx hb dX12_canDeal_37 rfl (lv_at hl 0 rfl) ?_
          refine lv_iload_n hx hb dX12_canDeal_38 rfl (lv_at hl 2 rfl) ?_
          obtain ⟨r_16, hc_15, hp⟩ := bn1_s hp
          refine k_ROV (As := [.int p2]) (rest := []) ⟨hx, hb, hml, hown, hts⟩ hK hP (cw_X12_231 hts ⟨Nat.le_of_ble_eq_true rfl, Nat.le_of_ble_eq_true rfl⟩) 0 (ci := 12) rfl rfl rfl (c_X12_stillSo l D cy qmo mo p2 r_16 hc_15) rfl hl.1 (Nat.le_of_ble_eq_true rfl) ⟨Nat.le_refl _, Nat.le_refl _⟩ dX12_canDeal_39 ?_
          refine lv_if_eq (tgt := 67) hx hb dX12_canDeal_42 (by decide) (fun c_17 => ?_) (fun c_17 => ?_)
          · have hp := ite_p hp c_17
            refine lv_iconst (v := 0) hx hb dX12_canDeal_67 (by decide) ?_
            exact e_ROz hx hb hr hk (Or.inl rfl) dX12_canDeal_68 (Option.some.inj hp)
          · have hp := ite_n hp c_17
            refine lv_aload_n hx hb dX12_canDeal_45 rfl (lv_at hl 0 rfl) ?_
            refine lv_iload_n hx hb dX12_canDeal_46 rfl (lv_at hl 1 rfl) ?_
            refine lv_iload_n hx hb dX12_canDeal_47 rfl (lv_at hl 2 rfl) ?_
            obtain ⟨r_19, hc_18, hp⟩ := bn1_s hp
            refine k_ROV (As := [.int p1, .int p2]) (rest := []) ⟨hx, hb, hml, hown, hts⟩ hK hP (cw_X12_234 hts ⟨Nat.le_of_ble_eq_true rfl, Nat.le_of_ble_eq_true rfl⟩) 0 (ci := 12) rfl rfl rfl (c_X12_canSwap l D cy qmo mo p1 p2 r_19 hc_18) rfl hl.1 (Nat.le_of_ble_eq_true rfl) ⟨Nat.le_refl _, Nat.le_refl _⟩ dX12_canDeal_48 ?_
            refine lv_if_eq (tgt := 67) hx hb dX12_canDeal_51 (by decide) (fun c_20 => ?_) (fun c_20 => ?_)
            · have hp := ite_p hp c_20
              refine lv_iconst (v := 0) hx hb dX12_canDeal_67 (by decide) ?_
              exact e_ROz hx hb hr hk (Or.inl rfl) dX12_canDeal_68 (Option.some.inj hp)
            · have hp := ite_n hp c_20
              refine lv_aload_n hx hb dX12_canDeal_54 rfl (lv_at hl 0 rfl) ?_
              refine lv_iload_n hx hb dX12_canDeal_55 rfl (lv_at hl 2 rfl) ?_
              refine lv_iload_n hx hb dX12_canDeal_56 rfl (lv_at hl 1 rfl) ?_
              obtain ⟨r_22, hc_21, hp⟩ := bn1_s hp
              refine k_ROV (As := [.int p2, .int p1]) (rest := []) ⟨hx, hb, hml, hown, hts⟩ hK hP (cw_X12_234 hts ⟨Nat.le_of_ble_eq_true rfl, Nat.le_of_ble_eq_true rfl⟩) 0 (ci := 12) rfl rfl rfl (c_X12_canSwap l D cy qmo mo p2 p1 r_22 hc_21) rfl hl.1 (Nat.le_of_ble_eq_true rfl) ⟨Nat.le_refl _, Nat.le_refl _⟩ dX12_canDeal_57 ?_
              refine lv_if_eq (tgt := 67) hx hb dX12_canDeal_60 (by decide) (fun c_23 => ?_) (fun c_23 => ?_)
              · have hp := ite_p hp c_23
                refine lv_iconst (v := 0) hx hb dX12_canDeal_67 (by decide) ?_
                exact e_ROz hx hb hr hk (Or.inl rfl) dX12_canDeal_68 (Option.some.inj hp)
              · have hp := ite_n hp c_23
                refine lv_iconst (v := 1) hx hb dX12_canDeal_63 (by decide) ?_
                refine lv_goto (tgt := 68) hx hb dX12_canDeal_64 (by decide) ?_
                exact e_ROz hx hb hr hk (Or.inr rfl) dX12_canDeal_68 (Option.some.inj hp)
/-! StormSlotsModel.deals(II)I -/
def Mo_deals (mo : Mem) (p1 : Int32) (p2 : Int32) : Option (Int32 × Mem) :=
  bn1 (Mo_allCost mo) (fun r_2 => bn1 (Mo_asked mo p1 2) (fun r_4 => bn1 (Mo_asked mo p2 0) (fun r_6 => bn1 (Mo_swaps mo r_4 r_6) (fun mo_8 => bn1 (Mo_asked mo_8 p2 2) (fun r_10 => bn1 (Mo_asked mo_8 p1 0) (fun r_12 => bn1 (Mo_swaps mo_8 r_10 r_12) (fun mo_14 => bn1 (Mo_allCost mo_14) (fun r_16 => some ((r_2 - r_16), mo_14)))))))))
set_option maxHeartbeats 4000000 in
set_option maxRecDepth 100000 in
theorem c_X12_deals (l : Launch) (D : va_G) (cy : Nat → ClassId) (qmo : Nat → Nat) (mo : Mem) (p1 p2 : Int32) (r : Int32) (mo' : Mem) (hp : Mo_deals mo p1 p2 = some (r, mo')) : RI l yX12_deals cX12_deals 4 (some .int) 4 D cy [.ref (qmo 0), .int p1, .int p2] (w_Mo cy qmo mo) (w_Mo cy qmo mo') r := by
  refine RI_of RX12 rfl (by decide) (Nat.le_of_ble_eq_true rfl) ?_
  intro p e s m below meth c A C0 hK hP hD hS hA ls hl
  obtain ⟨hx, hb, hr, hml, hown, hts, hk⟩ := id C0
  unfold Mo_deals at hp
  have hl : lv_has ls 4 [(0, .ref (qmo 0)), (1, .int p1), (2, .int p2)] := hl
  refine lv_aload_n hx hb dX12_deals_0 rfl (lv_at hl 0 rfl) ?_
  obtain ⟨r_2, hc_1, hp⟩ := bn1_s hp
  refine k_ROV (As := []) (rest := []) ⟨hx, hb, hml, hown, hts⟩ hK hP (cw_X12_210 hts ⟨Nat.le_of_ble_eq_true rfl, Nat.le_of_ble_eq_true rfl⟩) 0 (ci := 12) rfl rfl rfl (c_X12_allCost l D cy qmo mo r_2 hc_1) rfl hl.1 (Nat.le_of_ble_eq_true rfl) ⟨Nat.le_refl _, Nat.le_refl _⟩ dX12_deals_1 ?_
  refine lv_istore_n (lv' := [(3, .int r_2), (0, .ref (qmo 0)), (1, .int p1), (2, .int p2)]) hx hb dX12_deals_4 rfl hl (by decide) rfl (fun ls hl => ?_)
  refine lv_aload_n hx hb dX12_deals_5 rfl (lv_at hl 1 rfl) ?_
  refine lv_aload_n hx hb dX12_deals_6 rfl (lv_at hl 1 rfl) ?_
  refine lv_iload_n hx hb dX12_deals_7 rfl (lv_at hl 2 rfl) ?_
  refine lv_iconst (v := 2) hx hb dX12_deals_8 (by decide) ?_
  obtain ⟨r_4, hc_3, hp⟩ := bn1_s hp
  refine k_ROV (As := [.int p1, .int 2]) (rest := [.ref (qmo 0)]) ⟨hx, hb, hml, hown, hts⟩ hK hP (cw_X12_225 hts ⟨Nat.le_of_ble_eq_true rfl, Nat.le_of_ble_eq_true rfl⟩) 0 (ci := 12) rfl rfl rfl (c_X12_asked l D cy qmo mo p1 2 r_4 hc_3) rfl hl.1 (Nat.le_of_ble_eq_true rfl) ⟨Nat.le_refl _, Nat.le_refl _⟩ dX12_deals_9 ?_
  refine lv_aload_n hx hb dX12_deals_12 rfl (lv_at hl 1 rfl) ?_
  refine lv_iload_n hx hb dX12_deals_13 rfl (lv_at hl 3 rfl) ?_
  refine lv_iconst (v := 0) hx hb dX12_deals_14 (by decide) ?_
  obtain ⟨r_6, hc_5, hp⟩ := bn1_s hp
  refine k_ROV (As := [.int p2, .int 0]) (rest := [.int r_4, .ref (qmo 0)]) ⟨hx, hb, hml, hown, hts⟩ hK hP (cw_X12_225 hts ⟨Nat.le_of_ble_eq_true rfl, Nat.le_of_ble_eq_true rfl⟩) 0 (ci := 12) rfl rfl rfl (c_X12_asked l D cy qmo mo p2 0 r_6 hc_5) rfl hl.1 (Nat.le_of_ble_eq_true rfl) ⟨Nat.le_refl _, Nat.le_refl _⟩ dX12_deals_15 ?_
  obtain ⟨mo_8, hc_7, hp⟩ := bn1_s hp
  refine k_RVV (As := [.int r_4, .int r_6]) (rest := []) ⟨hx, hb, hml, hown, hts⟩ hK hP hD hS hA FrS_rf (cw_X12_213 hts ⟨Nat.le_of_ble_eq_true rfl, Nat.le_of_ble_eq_true rfl⟩) 0 (ci := 12) rfl rfl rfl (c_X12_swaps l D cy qmo mo r_4 r_6 mo_8 hc_7) rfl hl.1 (Nat.le_of_ble_eq_true rfl) ⟨Nat.le_refl _, Nat.le_refl _⟩ dX12_deals_18 (fun H locs hP hD hS => ?_)
  refine lv_aload_n hx hb dX12_deals_21 rfl (lv_at hl 1 rfl) ?_
  refine lv_aload_n hx hb dX12_deals_22 rfl (lv_at hl 1 rfl) ?_
  refine lv_iload_n hx hb dX12_deals_23 rfl (lv_at hl 3 rfl) ?_
  refine lv_iconst (v := 2) hx hb dX12_deals_24 (by decide) ?_
  obtain ⟨r_10, hc_9, hp⟩ := bn1_s hp
  refine k_ROV (As := [.int p2, .int 2]) (rest := [.ref (qmo 0)]) ⟨hx, hb, hml, hown, hts⟩ hK hP (cw_X12_225 hts ⟨Nat.le_of_ble_eq_true rfl, Nat.le_of_ble_eq_true rfl⟩) 0 (ci := 12) rfl rfl rfl (c_X12_asked l D cy qmo mo_8 p2 2 r_10 hc_9) rfl hl.1 (Nat.le_of_ble_eq_true rfl) ⟨Nat.le_refl _, Nat.le_refl _⟩ dX12_deals_25 ?_
  refine lv_aload_n hx hb dX12_deals_28 rfl (lv_at hl 1 rfl) ?_
  refine lv_iload_n hx hb dX12_deals_29 rfl (lv_at hl 2 rfl) ?_
  refine lv_iconst (v := 0) hx hb dX12_deals_30 (by decide) ?_
  obtain ⟨r_12, hc_11, hp⟩ := bn1_s hp
  refine k_ROV (As := [.int p1, .int 0]) (rest := [.int r_10, .ref (qmo 0)]) ⟨hx, hb, hml, hown, hts⟩ hK hP (cw_X12_225 hts ⟨Nat.le_of_ble_eq_true rfl, Nat.le_of_ble_eq_true rfl⟩) 0 (ci := 12) rfl rfl rfl (c_X12_asked l D cy qmo mo_8 p1 0 r_12 hc_11) rfl hl.1 (Nat.le_of_ble_eq_true rfl) ⟨Nat.le_refl _, Nat.le_refl _⟩ dX12_deals_31 ?_
  obtain ⟨mo_14, hc_13, hp⟩ := bn1_s hp
  refine k_RVV (As := [.int r_10, .int r_12]) (rest := []) ⟨hx, hb, hml, hown, hts⟩ hK hP hD hS hA FrS_rf (cw_X12_213 hts ⟨Nat.le_of_ble_eq_true rfl, Nat.le_of_ble_eq_true rfl⟩) 0 (ci := 12) rfl rfl rfl (c_X12_swaps l D cy qmo mo_8 r_10 r_12 mo_14 hc_13) rfl hl.1 (Nat.le_of_ble_eq_true rfl) ⟨Nat.le_refl _, Nat.le_refl _⟩ dX12_deals_34 (fun H locs hP hD hS => ?_)
  refine lv_iload_n hx hb dX12_deals_37 rfl (lv_at hl 0 rfl) ?_
  refine lv_aload_n hx hb dX12_deals_38 rfl (lv_at hl 1 rfl) ?_
  obtain ⟨r_16, hc_15, hp⟩ := bn1_s hp
  refine k_ROV (As := []) (rest := [.int r_2]) ⟨hx, hb, hml, hown, hts⟩ hK hP (cw_X12_210 hts ⟨Nat.le_of_ble_eq_true rfl, Nat.le_of_ble_eq_true rfl⟩) 0 (ci := 12) rfl rfl rfl (c_X12_allCost l D cy qmo mo_14 r_16 hc_15) rfl hl.1 (Nat.le_of_ble_eq_true rfl) ⟨Nat.le_refl _, Nat.le_refl _⟩ dX12_deals_39 ?_
  refine lv_isub hx hb dX12_deals_42 ?_
  simp only [Option.some.injEq, Prod.mk.injEq] at hp
  obtain ⟨h0, rfl⟩ := hp
  exact e_RIi hx hb hr hk hP hD hS dX12_deals_43 h0
/-! StormSlotsModel.deal(II)I -/
def Mo_deal (mo : Mem) (p1 : Int32) (p2 : Int32) : Option (Int32 × Mem) :=
  bn1 (Mo_canDeal mo p1 p2) (fun r_2 => if r_2 = 0 then some ((-1000000), mo) else bn2 (Mo_deals mo p1 p2) (fun r_5 mo_6 => ckI ((176 + (5 * p1)) + 4) 1452 (stk (upm mo_6 0 ((176 + (5 * p1)) + 4).toNatClampNeg 0) (fun mo_8 => ckI ((176 + (5 * p2)) + 4) 1452 (stk (upm mo_8 0 ((176 + (5 * p2)) + 4).toNatClampNeg 0) (fun mo_10 => some (r_5, mo_10)))))))
set_option maxHeartbeats 4000000 in
set_option maxRecDepth 100000 in
theorem c_X12_deal (l : Launch) (D : va_G) (cy : Nat → ClassId) (qmo : Nat → Nat) (mo : Mem) (p1 p2 : Int32) (r : Int32) (mo' : Mem) (hp : Mo_deal mo p1 p2 = some (r, mo')) : RI l yX12_deal cX12_deal 4 (some .int) 6 D cy [.ref (qmo 0), .int p1, .int p2] (w_Mo cy qmo mo) (w_Mo cy qmo mo') r := by
  refine RI_of RX12 rfl (by decide) (Nat.le_of_ble_eq_true rfl) ?_
  intro p e s m below meth c A C0 hK hP hD hS hA ls hl
  obtain ⟨hx, hb, hr, hml, hown, hts, hk⟩ := id C0
  unfold Mo_deal at hp
  have hl : lv_has ls 4 [(0, .ref (qmo 0)), (1, .int p1), (2, .int p2)] := hl
  refine lv_aload_n hx hb dX12_deal_0 rfl (lv_at hl 0 rfl) ?_
  refine lv_iload_n hx hb dX12_deal_1 rfl (lv_at hl 1 rfl) ?_
  refine lv_iload_n hx hb dX12_deal_2 rfl (lv_at hl 2 rfl) ?_
  obtain ⟨r_2, hc_1, hp⟩ := bn1_s hp
  refine k_ROV (As := [.int p1, .int p2]) (rest := []) ⟨hx, hb, hml, hown, hts⟩ hK hP (cw_X12_237 hts ⟨Nat.le_of_ble_eq_true rfl, Nat.le_of_ble_eq_true rfl⟩) 0 (ci := 12) rfl rfl rfl (c_X12_canDeal l D cy qmo mo p1 p2 r_2 hc_1) rfl hl.1 (Nat.le_of_ble_eq_true rfl) ⟨Nat.le_refl _, Nat.le_refl _⟩ dX12_deal_3 ?_
  refine lv_if_ne (tgt := 12) hx hb dX12_deal_6 (by decide) (fun c_3 => ?_) (fun c_3 => ?_)
  · have hp := ite_n hp c_3
    refine lv_aload_n hx hb dX12_deal_12 rfl (lv_at hl 0 rfl) ?_
    refine lv_iload_n hx hb dX12_deal_13 rfl (lv_at hl 1 rfl) ?_
    refine lv_iload_n hx hb dX12_deal_14 rfl (lv_at hl 2 rfl) ?_
    obtain ⟨r_5, mo_6, hc_4, hp⟩ := bn2_s hp
    refine k_RIV (As := [.int p1, .int p2]) (rest := []) ⟨hx, hb, hml, hown, hts⟩ hK hP hD hS hA FrS_rf (cw_X12_240 hts ⟨Nat.le_of_ble_eq_true rfl, Nat.le_of_ble_eq_true rfl⟩) 0 (ci := 12) rfl rfl rfl (c_X12_deals l D cy qmo mo p1 p2 r_5 mo_6 hc_4) rfl hl.1 (Nat.le_of_ble_eq_true rfl) ⟨Nat.le_refl _, Nat.le_refl _⟩ dX12_deal_15 (fun H locs hP hD hS => ?_)
    refine lv_istore_n (lv' := [(3, .int r_5), (0, .ref (qmo 0)), (1, .int p1), (2, .int p2)]) hx hb dX12_deal_18 rfl hl (by decide) rfl (fun ls hl => ?_)
    refine lv_aload_n hx hb dX12_deal_19 rfl (lv_at hl 1 rfl) ?_
    refine gf_X12_7 hx hb hts hown hK hP 0 rfl rfl dX12_deal_20 ?_
    refine lv_sipush (v := 176) hx hb dX12_deal_23 (by decide) ?_
    refine lv_iconst (v := 5) hx hb dX12_deal_26 (by decide) ?_
    refine lv_iload_n hx hb dX12_deal_27 rfl (lv_at hl 2 rfl) ?_
    refine lv_imul hx hb dX12_deal_28 ?_
    refine lv_iadd hx hb dX12_deal_29 ?_
    refine lv_iconst (v := 4) hx hb dX12_deal_30 (by decide) ?_
    refine lv_iadd hx hb dX12_deal_31 ?_
    refine lv_iconst (v := 0) hx hb dX12_deal_32 (by decide) ?_
    obtain ⟨hi_7, hp⟩ := ckI_s hp
    obtain ⟨mo_8, emo_8⟩ : ∃ y : Mem, y = upm mo_6 0 ((176 + (5 * p1)) + 4).toNatClampNeg 0 := ⟨_, rfl⟩
    have hp := stk_e hp emo_8
    refine r_ist hx hb hK hP hD hS (wn := (w_Mo cy qmo mo_8)) 1 rfl hi_7 (by subst emo_8; rfl) dX12_deal_33 (fun H locs hP hD hS => ?_)
    refine lv_aload_n hx hb dX12_deal_34 rfl (lv_at hl 1 rfl) ?_
    refine gf_X12_7 hx hb hts hown hK hP 0 rfl rfl dX12_deal_35 ?_
    refine lv_sipush (v := 176) hx hb dX12_deal_38 (by decide) ?_
    refine lv_iconst (v := 5) hx hb dX12_deal_41 (by decide) ?_
    refine lv_iload_n hx hb dX12_deal_42 rfl (lv_at hl 3 rfl) ?_
    refine lv_imul hx hb dX12_deal_43 ?_
    refine lv_iadd hx hb dX12_deal_44 ?_
    refine lv_iconst (v := 4) hx hb dX12_deal_45 (by decide) ?_
    refine lv_iadd hx hb dX12_deal_46 ?_
    refine lv_iconst (v := 0) hx hb dX12_deal_47 (by decide) ?_
    obtain ⟨hi_9, hp⟩ := ckI_s hp
    obtain ⟨mo_10, emo_10⟩ : ∃ y : Mem, y = upm mo_8 0 ((176 + (5 * p2)) + 4).toNatClampNeg 0 := ⟨_, rfl⟩
    have hp := stk_e hp emo_10
    refine r_ist hx hb hK hP hD hS (wn := (w_Mo cy qmo mo_10)) 1 rfl hi_9 (by subst emo_10; rfl) dX12_deal_48 (fun H locs hP hD hS => ?_)
    refine lv_iload_n hx hb dX12_deal_49 rfl (lv_at hl 0 rfl) ?_
    simp only [Option.some.injEq, Prod.mk.injEq] at hp
    obtain ⟨h0, rfl⟩ := hp
    exact e_RIi hx hb hr hk hP hD hS dX12_deal_50 h0
  · have hp := ite_p hp c_3
    refine lc_X12_209 hx hb hts hown dX12_deal_9 ?_
    simp only [Option.some.injEq, Prod.mk.injEq] at hp
    obtain ⟨h0, rfl⟩ := hp
    exact e_RIi hx hb hr hk hP hD hS dX12_deal_11 h0
/-! StormSlotsModel.bestDeal(I)I -/
def Mo_bestDeal_b35B (p1 : Int32) (k22 : Mem → Int32 → Int32 → Int32 → Int32 → Option (Int32 × Mem)) (k35 : Mem → Int32 → Int32 → Int32 → Int32 → Int32 → Option (Int32 × Mem)) (mo : Mem) (x2 : Int32) (x3 : Int32) (x4 : Int32) (x5 : Int32) (x6 : Int32) : Option (Int32 × Mem) :=
  if 8 ≤ x6 then stk (x5 + 1) (fun x5_10 => k22 mo x2 x3 x4 x5_10) else bn1 (Mo_canDeal mo x5 x6) (fun r_12 => if r_12 = 0 then stk (x6 + 1) (fun x6_26 => k35 mo x2 x3 x4 x5 x6_26) else bn1 (Mo_lays mo 8) (fun mo_15 => bn2 (Mo_deals mo_15 x5 x6) (fun r_17 mo_18 => bn1 (Mo_takes mo_18 8) (fun mo_20 => if x2 = (-1) then stk (x6 + 1) (fun x6_22 => k35 mo_20 x5 x6 r_17 x5 x6_22) else if x4 < r_17 then stk (x6 + 1) (fun x6_24 => k35 mo_20 x5 x6 r_17 x5 x6_24) else stk (x6 + 1) (fun x6_25 => k35 mo_20 x2 x3 x4 x5 x6_25)))))
def Mo_bestDeal_b35 (p1 : Int32) (k22 : Mem → Int32 → Int32 → Int32 → Int32 → Option (Int32 × Mem)) : Nat → Mem → Int32 → Int32 → Int32 → Int32 → Int32 → Option (Int32 × Mem)
  | 0 => fun _ _ _ _ _ _ => none
  | n + 1 => Mo_bestDeal_b35B p1 k22 (Mo_bestDeal_b35 p1 k22 n)
def Mo_bestDeal_b22B (p1 : Int32) (k22 : Mem → Int32 → Int32 → Int32 → Int32 → Option (Int32 × Mem)) (mo : Mem) (x2 : Int32) (x3 : Int32) (x4 : Int32) (x5 : Int32) : Option (Int32 × Mem) :=
  if 8 ≤ x5 then if x2 = (-1) then some ((-1000000), mo) else if p1 = 0 then some (x2, mo) else if p1 = 1 then some (x3, mo) else some (x4, mo) else stk (x5 + 1) (fun x6_8 => Mo_bestDeal_b35 p1 k22 fl mo x2 x3 x4 x5 x6_8)
def Mo_bestDeal_b22 (p1 : Int32) : Nat → Mem → Int32 → Int32 → Int32 → Int32 → Option (Int32 × Mem)
  | 0 => fun _ _ _ _ _ => none
  | n + 1 => Mo_bestDeal_b22B p1 (Mo_bestDeal_b22 p1 n)
def Mo_bestDeal (mo : Mem) (p1 : Int32) : Option (Int32 × Mem) :=
  bn1 (Mo_in p1 0 2) (fun r_2 => if r_2 = 0 then some ((-1000000), mo) else Mo_bestDeal_b22 p1 fl mo (-1) (-1) 0 0)
set_option maxHeartbeats 4000000 in
set_option maxRecDepth 100000 in
theorem Mo_bestDeal_b35B_w (C0 : cX RX12 cX12_bestDeal (some .int) 8 p s m args meth c) (hK : kN D cy s) {qmo : Nat → Nat} {p1 : Int32} {r : Int32} {mo' : Mem} (hA : ∀ q, s.heap.size ≤ q → A q) {k22 : Mem → Int32 → Int32 → Int32 → Int32 → Option (Int32 × Mem)} (hk22 : ∀ (mo : Mem) (x2 x3 x4 x5 : Int32) (H : Heap) (locs : List Loc) (ls : Array Slot), va_P D vwCl (w_Mo cy qmo mo) H → va_D A (w_Mo cy qmo mo) → va_S A s.heap H locs → lv_has ls 8 [(0, .ref (qmo 0)), (1, .int p1), (2, .int x2), (3, .int x3), (4, .int x4), (5, .int x5)] → k22 mo x2 x3 x4 x5 = some (r, mo') → W p l e (rmD 6) s m args below meth c H locs 0 0 (qRI D below args s A (w_Mo cy qmo mo') r) (F0 m 22 ls [])) {k35 : Mem → Int32 → Int32 → Int32 → Int32 → Int32 → Option (Int32 × Mem)} (hk35 : ∀ (mo : Mem) (x2 x3 x4 x5 x6 : Int32) (H : Heap) (locs : List Loc) (ls : Array Slot), va_P D vwCl (w_Mo cy qmo mo) H → va_D A (w_Mo cy qmo mo) → va_S A s.heap H locs → lv_has ls 8 [(0, .ref (qmo 0)), (1, .int p1), (2, .int x2), (3, .int x3), (4, .int x4), (5, .int x5), (6, .int x6)] → k35 mo x2 x3 x4 x5 x6 = some (r, mo') → W p l e (rmD 6) s m args below meth c H locs 0 0 (qRI D below args s A (w_Mo cy qmo mo') r) (F0 m 35 ls [])) {mo : Mem} {x2 : Int32} {x3 : Int32} {x4 : Int32} {x5 : Int32} {x6 : Int32} {H : Heap} {locs : List Loc} (hP : va_P D vwCl (w_Mo cy qmo mo) H) (hD : va_D A (w_Mo cy qmo mo)) (hS : va_S A s.heap H locs) {ls : Array Slot} (hl : lv_has ls 8 [(0, .ref (qmo 0)), (1, .int p1), (2, .int x2), (3, .int x3), (4, .int x4), (5, .int x5), (6, .int x6)]) (hp : Mo_bestDeal_b35B p1 k22 k35 mo x2 x3 x4 x5 x6 = some (r, mo')) : W p l e (rmD 6) s m args below meth c H locs 0 0 (qRI D below args s A (w_Mo cy qmo mo') r) (F0 m 35 ls []) := by
  obtain ⟨hx, hb, hr, hml, hown, hts, hk⟩ := id C0
  unfold Mo_bestDeal_b35B at hp
  refine lv_iload hx hb dX12_bestDeal_35 (lv_at hl 6 rfl) ?_
  refine lv_bipush (v := 8) hx hb dX12_bestDeal_37 (by decide) ?_
  refine lv_icmp_ge (tgt := 109) hx hb dX12_bestDeal_39 (by decide) (fun c_9 => ?_) (fun c_9 => ?_)
  · have hp := ite_p hp c_9
    obtain ⟨x5_10, ex5_10⟩ : ∃ y : Int32, y = x5 + 1 := ⟨_, rfl⟩
    have hp := stk_e hp ex5_10
    refine lv_iinc (v := x5_10) (lv' := [(5, .int x5_10), (0, .ref (qmo 0)), (1, .int p1), (2, .int x2), (3, .int x3), (4, .int x4), (6, .int x6)]) hx hb dX12_bestDeal_109 hl (k := 5) rfl (by rw [ex5_10]; rfl) (by decide) rfl (fun ls hl => ?_)
    refine lv_goto (tgt := 22) hx hb dX12_bestDeal_112 (by decide) ?_
    exact hk22 mo x2 x3 x4 x5_10 _ _ _ hP hD hS (lv_sub hl [1, 2, 3, 4, 5, 0] rfl) hp
  · have hp := ite_n hp c_9
    refine lv_aload_n hx hb dX12_bestDeal_42 rfl (lv_at hl 0 rfl) ?_
    refine lv_iload hx hb dX12_bestDeal_43 (lv_at hl 5 rfl) ?_
    refine lv_iload hx hb dX12_bestDeal_45 (lv_at hl 6 rfl) ?_
    obtain ⟨r_12, hc_11, hp⟩ := bn1_s hp
    refine k_ROV (As := [.int x5, .int x6]) (rest := []) ⟨hx, hb, hml, hown, hts⟩ hK hP (cw_X12_237 hts ⟨Nat.le_of_ble_eq_true rfl, Nat.le_of_ble_eq_true rfl⟩) 0 (ci := 12) rfl rfl rfl (c_X12_canDeal l D cy qmo mo x5 x6 r_12 hc_11) rfl hl.1 (Nat.le_of_ble_eq_true rfl) ⟨Nat.le_refl _, Nat.le_refl _⟩ dX12_bestDeal_47 ?_
    refine lv_if_ne (tgt := 56) hx hb dX12_bestDeal_50 (by decide) (fun c_13 => ?_) (fun c_13 => ?_)
    · have hp := ite_n hp c_13
      refine lv_aload_n hx hb dX12_bestDeal_56 rfl (lv_at hl 0 rfl) ?_
      refine lv_bipush (v := 8) hx hb dX12_bestDeal_57 (by decide) ?_
      obtain ⟨mo_15, hc_14, hp⟩ := bn1_s hp
      refine k_RVV (As := [.int 8]) (rest := []) ⟨hx, hb, hml, hown, hts⟩ hK hP hD hS hA FrS_rf (cw_X12_243 hts ⟨Nat.le_of_ble_eq_true rfl, Nat.le_of_ble_eq_true rfl⟩) 0 (ci := 12) rfl rfl rfl (c_X12_lays l D cy qmo mo 8 mo_15 hc_14) rfl hl.1 (Nat.le_of_ble_eq_true rfl) ⟨Nat.le_refl _, Nat.le_refl _⟩ dX12_bestDeal_59 (fun H locs hP hD hS => ?_)
      refine lv_aload_n hx hb dX12_bestDeal_62 rfl (lv_at hl 0 rfl) ?_
      refine lv_iload hx hb dX12_bestDeal_63 (lv_at hl 5 rfl) ?_
      refine lv_iload hx hb dX12_bestDeal_65 (lv_at hl 6 rfl) ?_
      obtain ⟨r_17, mo_18, hc_16, hp⟩ := bn2_s hp
      refine k_RIV (As := [.int x5, .int x6]) (rest := []) ⟨hx, hb, hml, hown, hts⟩ hK hP hD hS hA FrS_rf (cw_X12_240 hts ⟨Nat.le_of_ble_eq_true rfl, Nat.le_of_ble_eq_true rfl⟩) 0 (ci := 12) rfl rfl rfl (c_X12_deals l D cy qmo mo_15 x5 x6 r_17 mo_18 hc_16) rfl hl.1 (Nat.le_of_ble_eq_true rfl) ⟨Nat.le_refl _, Nat.le_refl _⟩ dX12_bestDeal_67 (fun H locs hP hD hS => ?_)
      refine lv_istore (lv' := [(7, .int r_17), (0, .ref (qmo 0)), (1, .int p1), (2, .int x2), (3, .int x3), (4, .int x4), (5, .int x5), (6, .int x6)]) hx hb dX12_bestDeal_70 hl (by decide) rfl (fun ls hl => ?_)
      refine lv_aload_n hx hb dX12_bestDeal_72 rfl (lv_at hl 1 rfl) ?_
      refine lv_bipush (v := 8) hx hb dX12_bestDeal_73 (by decide) ?_
      obtain ⟨mo_20, hc_19, hp⟩ := bn1_s hp
      refine k_RVV (As := [.int 8]) (rest := []) ⟨hx, hb, hml, hown, hts⟩ hK hP hD hS hA FrS_rf (cw_X12_246 hts ⟨Nat.le_of_ble_eq_true rfl, Nat.le_of_ble_eq_true rfl⟩) 0 (ci := 12) rfl rfl rfl (c_X12_takes l D cy qmo mo_18 8 mo_20 hc_19) rfl hl.1 (Nat.le_of_ble_eq_true rfl) ⟨Nat.le_refl _, Nat.le_refl _⟩ dX12_bestDeal_75 (fun H locs hP hD hS => ?_)
      refine lv_iload_n hx hb dX12_bestDeal_78 rfl (lv_at hl 3 rfl) ?_
      refine lv_iconst (v := (-1)) hx hb dX12_bestDeal_79 (by decide) ?_
      refine lv_icmp_eq (tgt := 93) hx hb dX12_bestDeal_80 (by decide) (fun c_21 => ?_) (fun c_21 => ?_)
      · have hp := ite_p hp c_21
        refine lv_iload hx hb dX12_bestDeal_93 (lv_at hl 6 rfl) ?_
        refine lv_istore_n (lv' := [(2, .int x5), (7, .int r_17), (0, .ref (qmo 0)), (1, .int p1), (3, .int x3), (4, .int x4), (5, .int x5), (6, .int x6)]) hx hb dX12_bestDeal_95 rfl hl (by decide) rfl (fun ls hl => ?_)
        refine lv_iload hx hb dX12_bestDeal_96 (lv_at hl 7 rfl) ?_
        refine lv_istore_n (lv' := [(3, .int x6), (2, .int x5), (7, .int r_17), (0, .ref (qmo 0)), (1, .int p1), (4, .int x4), (5, .int x5), (6, .int x6)]) hx hb dX12_bestDeal_98 rfl hl (by decide) rfl (fun ls hl => ?_)
        refine lv_iload hx hb dX12_bestDeal_99 (lv_at hl 2 rfl) ?_
        refine lv_istore (lv' := [(4, .int r_17), (3, .int x6), (2, .int x5), (7, .int r_17), (0, .ref (qmo 0)), (1, .int p1), (5, .int x5), (6, .int x6)]) hx hb dX12_bestDeal_101 hl (by decide) rfl (fun ls hl => ?_)
        obtain ⟨x6_22, ex6_22⟩ : ∃ y : Int32, y = x6 + 1 := ⟨_, rfl⟩
        have hp := stk_e hp ex6_22
        refine lv_iinc (v := x6_22) (lv' := [(6, .int x6_22), (4, .int r_17), (3, .int x6), (2, .int x5), (7, .int r_17), (0, .ref (qmo 0)), (1, .int p1), (5, .int x5)]) hx hb dX12_bestDeal_103 hl (k := 7) rfl (by rw [ex6_22]; rfl) (by decide) rfl (fun ls hl => ?_)
        refine lv_goto (tgt := 35) hx hb dX12_bestDeal_106 (by decide) ?_
        exact hk35 mo_20 x5 x6 r_17 x5 x6_22 _ _ _ hP hD hS (lv_sub hl [5, 6, 3, 2, 1, 7, 0] rfl) hp
      · have hp := ite_n hp c_21
        refine lv_iload hx hb dX12_bestDeal_83 (lv_at hl 0 rfl) ?_
        refine lv_iload hx hb dX12_bestDeal_85 (lv_at hl 5 rfl) ?_
        refine lv_icmp_gt (tgt := 93) hx hb dX12_bestDeal_87 (by decide) (fun c_23 => ?_) (fun c_23 => ?_)
        · have hp := ite_p hp c_23
          refine lv_iload hx hb dX12_bestDeal_93 (lv_at hl 6 rfl) ?_
          refine lv_istore_n (lv' := [(2, .int x5), (7, .int r_17), (0, .ref (qmo 0)), (1, .int p1), (3, .int x3), (4, .int x4), (5, .int x5), (6, .int x6)]) hx hb dX12_bestDeal_95 rfl hl (by decide) rfl (fun ls hl => ?_)
          refine lv_iload hx hb dX12_bestDeal_96 (lv_at hl 7 rfl) ?_
          refine lv_istore_n (lv' := [(3, .int x6), (2, .int x5), (7, .int r_17), (0, .ref (qmo 0)), (1, .int p1), (4, .int x4), (5, .int x5), (6, .int x6)]) hx hb dX12_bestDeal_98 rfl hl (by decide) rfl (fun ls hl => ?_)
          refine lv_iload hx hb dX12_bestDeal_99 (lv_at hl 2 rfl) ?_
          refine lv_istore (lv' := [(4, .int r_17), (3, .int x6), (2, .int x5), (7, .int r_17), (0, .ref (qmo 0)), (1, .int p1), (5, .int x5), (6, .int x6)]) hx hb dX12_bestDeal_101 hl (by decide) rfl (fun ls hl => ?_)
          obtain ⟨x6_24, ex6_24⟩ : ∃ y : Int32, y = x6 + 1 := ⟨_, rfl⟩
          have hp := stk_e hp ex6_24
          refine lv_iinc (v := x6_24) (lv' := [(6, .int x6_24), (4, .int r_17), (3, .int x6), (2, .int x5), (7, .int r_17), (0, .ref (qmo 0)), (1, .int p1), (5, .int x5)]) hx hb dX12_bestDeal_103 hl (k := 7) rfl (by rw [ex6_24]; rfl) (by decide) rfl (fun ls hl => ?_)
          refine lv_goto (tgt := 35) hx hb dX12_bestDeal_106 (by decide) ?_
          exact hk35 mo_20 x5 x6 r_17 x5 x6_24 _ _ _ hP hD hS (lv_sub hl [5, 6, 3, 2, 1, 7, 0] rfl) hp
        · have hp := ite_n hp c_23
          refine lv_goto (tgt := 103) hx hb dX12_bestDeal_90 (by decide) ?_
          obtain ⟨x6_25, ex6_25⟩ : ∃ y : Int32, y = x6 + 1 := ⟨_, rfl⟩
          have hp := stk_e hp ex6_25
          refine lv_iinc (v := x6_25) (lv' := [(6, .int x6_25), (7, .int r_17), (0, .ref (qmo 0)), (1, .int p1), (2, .int x2), (3, .int x3), (4, .int x4), (5, .int x5)]) hx hb dX12_bestDeal_103 hl (k := 7) rfl (by rw [ex6_25]; rfl) (by decide) rfl (fun ls hl => ?_)
          refine lv_goto (tgt := 35) hx hb dX12_bestDeal_106 (by decide) ?_
          exact hk35 mo_20 x2 x3 x4 x5 x6_25 _ _ _ hP hD hS (lv_sub hl [2, 3, 4, 5, 6, 7, 0] rfl) hp
    · have hp := ite_p hp c_13
      refine lv_goto (tgt := 103) hx hb dX12_bestDeal_53 (by decide) ?_
      obtain ⟨x6_26, ex6_26⟩ : ∃ y : Int32, y = x6 + 1 := ⟨_, rfl⟩
      have hp := stk_e hp ex6_26
      refine lv_iinc (v := x6_26) (lv' := [(6, .int x6_26), (0, .ref (qmo 0)), (1, .int p1), (2, .int x2), (3, .int x3), (4, .int x4), (5, .int x5)]) hx hb dX12_bestDeal_103 hl (k := 6) rfl (by rw [ex6_26]; rfl) (by decide) rfl (fun ls hl => ?_)
      refine lv_goto (tgt := 35) hx hb dX12_bestDeal_106 (by decide) ?_
      exact hk35 mo x2 x3 x4 x5 x6_26 _ _ _ hP hD hS (lv_sub hl [1, 2, 3, 4, 5, 6, 0] rfl) hp
theorem Mo_bestDeal_b35_w (C0 : cX RX12 cX12_bestDeal (some .int) 8 p s m args meth c) (hK : kN D cy s) {qmo : Nat → Nat} {p1 : Int32} {r : Int32} {mo' : Mem} (hA : ∀ q, s.heap.size ≤ q → A q) {k22 : Mem → Int32 → Int32 → Int32 → Int32 → Option (Int32 × Mem)} (hk22 : ∀ (mo : Mem) (x2 x3 x4 x5 : Int32) (H : Heap) (locs : List Loc) (ls : Array Slot), va_P D vwCl (w_Mo cy qmo mo) H → va_D A (w_Mo cy qmo mo) → va_S A s.heap H locs → lv_has ls 8 [(0, .ref (qmo 0)), (1, .int p1), (2, .int x2), (3, .int x3), (4, .int x4), (5, .int x5)] → k22 mo x2 x3 x4 x5 = some (r, mo') → W p l e (rmD 6) s m args below meth c H locs 0 0 (qRI D below args s A (w_Mo cy qmo mo') r) (F0 m 22 ls [])) : ∀ (n : Nat) (mo : Mem) (x2 x3 x4 x5 x6 : Int32) (H : Heap) (locs : List Loc) (ls : Array Slot), va_P D vwCl (w_Mo cy qmo mo) H → va_D A (w_Mo cy qmo mo) → va_S A s.heap H locs → lv_has ls 8 [(0, .ref (qmo 0)), (1, .int p1), (2, .int x2), (3, .int x3), (4, .int x4), (5, .int x5), (6, .int x6)] → Mo_bestDeal_b35 p1 k22 n mo x2 x3 x4 x5 x6 = some (r, mo') → W p l e (rmD 6) s m args below meth c H locs 0 0 (qRI D below args s A (w_Mo cy qmo mo') r) (F0 m 35 ls []) := by
  intro n
  induction n with
  | zero =>
    intro mo x2 x3 x4 x5 x6 H locs ls hP hD hS hl hp
    cases hp
  | succ n ih =>
    intro mo x2 x3 x4 x5 x6 H locs ls hP hD hS hl hp
    exact Mo_bestDeal_b35B_w C0 hK hA hk22 (fun mo x2 x3 x4 x5 x6 H locs ls hP hD hS hl hp => ih mo x2 x3 x4 x5 x6 H locs ls hP hD hS hl hp) hP hD hS hl hp
set_option maxHeartbeats 4000000 in
set_option maxRecDepth 100000 in
theorem Mo_bestDeal_b22B_w (C0 : cX RX12 cX12_bestDeal (some .int) 8 p s m args meth c) (hK : kN D cy s) {qmo : Nat → Nat} {p1 : Int32} {r : Int32} {mo' : Mem} (hA : ∀ q, s.heap.size ≤ q → A q) {k22 : Mem → Int32 → Int32 → Int32 → Int32 → Option (Int32 × Mem)} (hk22 : ∀ (mo : Mem) (x2 x3 x4 x5 : Int32) (H : Heap) (locs : List Loc) (ls : Array Slot), va_P D vwCl (w_Mo cy qmo mo) H → va_D A (w_Mo cy qmo mo) → va_S A s.heap H locs → lv_has ls 8 [(0, .ref (qmo 0)), (1, .int p1), (2, .int x2), (3, .int x3), (4, .int x4), (5, .int x5)] → k22 mo x2 x3 x4 x5 = some (r, mo') → W p l e (rmD 6) s m args below meth c H locs 0 0 (qRI D below args s A (w_Mo cy qmo mo') r) (F0 m 22 ls [])) {mo : Mem} {x2 : Int32} {x3 : Int32} {x4 : Int32} {x5 : Int32} {H : Heap} {locs : List Loc} (hP : va_P D vwCl (w_Mo cy qmo mo) H) (hD : va_D A (w_Mo cy qmo mo)) (hS : va_S A s.heap H locs) {ls : Array Slot} (hl : lv_has ls 8 [(0, .ref (qmo 0)), (1, .int p1), (2, .int x2), (3, .int x3), (4, .int x4), (5, .int x5)]) (hp : Mo_bestDeal_b22B p1 k22 mo x2 x3 x4 x5 = some (r, mo')) : W p l e (rmD 6) s m args below meth c H locs 0 0 (qRI D below args s A (w_Mo cy qmo mo') r) (F0 m 22 ls []) := by
  obtain ⟨hx, hb, hr, hml, hown, hts, hk⟩ := id C0
  unfold Mo_bestDeal_b22B at hp
  refine lv_iload hx hb dX12_bestDeal_22 (lv_at hl 5 rfl) ?_
  refine lv_bipush (v := 8) hx hb dX12_bestDeal_24 (by decide) ?_
  refine lv_icmp_ge (tgt := 115) hx hb dX12_bestDeal_26 (by decide) (fun c_4 => ?_) (fun c_4 => ?_)
  · have hp := ite_p hp c_4
    refine lv_iload_n hx hb dX12_bestDeal_115 rfl (lv_at hl 2 rfl) ?_
    refine lv_iconst (v := (-1)) hx hb dX12_bestDeal_116 (by decide) ?_
    refine lv_icmp_ne (tgt := 125) hx hb dX12_bestDeal_117 (by decide) (fun c_5 => ?_) (fun c_5 => ?_)
    · have hp := ite_n hp c_5
      refine lv_iload_n hx hb dX12_bestDeal_125 rfl (lv_at hl 1 rfl) ?_
      refine lv_if_ne (tgt := 133) hx hb dX12_bestDeal_126 (by decide) (fun c_6 => ?_) (fun c_6 => ?_)
      · have hp := ite_n hp c_6
        refine lv_iload_n hx hb dX12_bestDeal_133 rfl (lv_at hl 1 rfl) ?_
        refine lv_iconst (v := 1) hx hb dX12_bestDeal_134 (by decide) ?_
        refine lv_icmp_ne (tgt := 142) hx hb dX12_bestDeal_135 (by decide) (fun c_7 => ?_) (fun c_7 => ?_)
        · have hp := ite_n hp c_7
          refine lv_iload hx hb dX12_bestDeal_142 (lv_at hl 4 rfl) ?_
          simp only [Option.some.injEq, Prod.mk.injEq] at hp
          obtain ⟨h0, rfl⟩ := hp
          exact e_RIi hx hb hr hk hP hD hS dX12_bestDeal_144 h0
        · have hp := ite_p hp c_7
          refine lv_iload_n hx hb dX12_bestDeal_138 rfl (lv_at hl 3 rfl) ?_
          refine lv_goto (tgt := 144) hx hb dX12_bestDeal_139 (by decide) ?_
          simp only [Option.some.injEq, Prod.mk.injEq] at hp
          obtain ⟨h0, rfl⟩ := hp
          exact e_RIi hx hb hr hk hP hD hS dX12_bestDeal_144 h0
      · have hp := ite_p hp c_6
        refine lv_iload_n hx hb dX12_bestDeal_129 rfl (lv_at hl 2 rfl) ?_
        refine lv_goto (tgt := 144) hx hb dX12_bestDeal_130 (by decide) ?_
        simp only [Option.some.injEq, Prod.mk.injEq] at hp
        obtain ⟨h0, rfl⟩ := hp
        exact e_RIi hx hb hr hk hP hD hS dX12_bestDeal_144 h0
    · have hp := ite_p hp c_5
      refine lc_X12_209 hx hb hts hown dX12_bestDeal_120 ?_
      refine lv_goto (tgt := 144) hx hb dX12_bestDeal_122 (by decide) ?_
      simp only [Option.some.injEq, Prod.mk.injEq] at hp
      obtain ⟨h0, rfl⟩ := hp
      exact e_RIi hx hb hr hk hP hD hS dX12_bestDeal_144 h0
  · have hp := ite_n hp c_4
    refine lv_iload hx hb dX12_bestDeal_29 (lv_at hl 5 rfl) ?_
    refine lv_iconst (v := 1) hx hb dX12_bestDeal_31 (by decide) ?_
    refine lv_iadd hx hb dX12_bestDeal_32 ?_
    refine lv_topi (fun x6_8 ex6_8 => ?_)
    have hp := stk_e hp ex6_8
    refine lv_istore (lv' := [(6, .int x6_8), (0, .ref (qmo 0)), (1, .int p1), (2, .int x2), (3, .int x3), (4, .int x4), (5, .int x5)]) hx hb dX12_bestDeal_33 hl (by decide) rfl (fun ls hl => ?_)
    exact Mo_bestDeal_b35_w C0 hK hA hk22 fl mo x2 x3 x4 x5 x6_8 _ _ _ hP hD hS (lv_sub hl [1, 2, 3, 4, 5, 6, 0] rfl) hp
theorem Mo_bestDeal_b22_w (C0 : cX RX12 cX12_bestDeal (some .int) 8 p s m args meth c) (hK : kN D cy s) {qmo : Nat → Nat} {p1 : Int32} {r : Int32} {mo' : Mem} (hA : ∀ q, s.heap.size ≤ q → A q) : ∀ (n : Nat) (mo : Mem) (x2 x3 x4 x5 : Int32) (H : Heap) (locs : List Loc) (ls : Array Slot), va_P D vwCl (w_Mo cy qmo mo) H → va_D A (w_Mo cy qmo mo) → va_S A s.heap H locs → lv_has ls 8 [(0, .ref (qmo 0)), (1, .int p1), (2, .int x2), (3, .int x3), (4, .int x4), (5, .int x5)] → Mo_bestDeal_b22 p1 n mo x2 x3 x4 x5 = some (r, mo') → W p l e (rmD 6) s m args below meth c H locs 0 0 (qRI D below args s A (w_Mo cy qmo mo') r) (F0 m 22 ls []) := by
  intro n
  induction n with
  | zero =>
    intro mo x2 x3 x4 x5 H locs ls hP hD hS hl hp
    cases hp
  | succ n ih =>
    intro mo x2 x3 x4 x5 H locs ls hP hD hS hl hp
    exact Mo_bestDeal_b22B_w C0 hK hA  (fun mo x2 x3 x4 x5 H locs ls hP hD hS hl hp => ih mo x2 x3 x4 x5 H locs ls hP hD hS hl hp) hP hD hS hl hp
set_option maxHeartbeats 4000000 in
set_option maxRecDepth 100000 in
theorem c_X12_bestDeal (l : Launch) (D : va_G) (cy : Nat → ClassId) (qmo : Nat → Nat) (mo : Mem) (p1 : Int32) (r : Int32) (mo' : Mem) (hp : Mo_bestDeal mo p1 = some (r, mo')) : RI l yX12_bestDeal cX12_bestDeal 8 (some .int) 6 D cy [.ref (qmo 0), .int p1] (w_Mo cy qmo mo) (w_Mo cy qmo mo') r := by
  refine RI_of RX12 rfl (by decide) (Nat.le_of_ble_eq_true rfl) ?_
  intro p e s m below meth c A C0 hK hP hD hS hA ls hl
  obtain ⟨hx, hb, hr, hml, hown, hts, hk⟩ := id C0
  unfold Mo_bestDeal at hp
  have hl : lv_has ls 8 [(0, .ref (qmo 0)), (1, .int p1)] := hl
  refine lv_iload_n hx hb dX12_bestDeal_0 rfl (lv_at hl 1 rfl) ?_
  refine lv_iconst (v := 0) hx hb dX12_bestDeal_1 (by decide) ?_
  refine lv_iconst (v := 2) hx hb dX12_bestDeal_2 (by decide) ?_
  obtain ⟨r_2, hc_1, hp⟩ := bn1_s hp
  refine k_ROS (As := [.int p1, .int 0, .int 2]) (rest := []) ⟨hx, hb, hml, hown, hts⟩ hK (show va_P D vwCl [] _ from fun k q h => by simp at h) (cw_X12_45 hts ⟨Nat.le_of_ble_eq_true rfl, Nat.le_of_ble_eq_true rfl⟩) (c_X12_in l D cy p1 0 2 r_2 hc_1) rfl hl.1 (Nat.le_of_ble_eq_true rfl) ⟨Nat.le_refl _, Nat.le_refl _⟩ dX12_bestDeal_3 ?_
  refine lv_if_ne (tgt := 12) hx hb dX12_bestDeal_6 (by decide) (fun c_3 => ?_) (fun c_3 => ?_)
  · have hp := ite_n hp c_3
    refine lv_iconst (v := (-1)) hx hb dX12_bestDeal_12 (by decide) ?_
    refine lv_istore_n (lv' := [(2, .int (-1)), (0, .ref (qmo 0)), (1, .int p1)]) hx hb dX12_bestDeal_13 rfl hl (by decide) rfl (fun ls hl => ?_)
    refine lv_iconst (v := (-1)) hx hb dX12_bestDeal_14 (by decide) ?_
    refine lv_istore_n (lv' := [(3, .int (-1)), (2, .int (-1)), (0, .ref (qmo 0)), (1, .int p1)]) hx hb dX12_bestDeal_15 rfl hl (by decide) rfl (fun ls hl => ?_)
    refine lv_iconst (v := 0) hx hb dX12_bestDeal_16 (by decide) ?_
    refine lv_istore (lv' := [(4, .int 0), (3, .int (-1)), (2, .int (-1)), (0, .ref (qmo 0)), (1, .int p1)]) hx hb dX12_bestDeal_17 hl (by decide) rfl (fun ls hl => ?_)
    refine lv_iconst (v := 0) hx hb dX12_bestDeal_19 (by decide) ?_
    refine lv_istore (lv' := [(5, .int 0), (4, .int 0), (3, .int (-1)), (2, .int (-1)), (0, .ref (qmo 0)), (1, .int p1)]) hx hb dX12_bestDeal_20 hl (by decide) rfl (fun ls hl => ?_)
    exact Mo_bestDeal_b22_w C0 hK hA  fl mo (-1) (-1) 0 0 _ _ _ hP hD hS (lv_sub hl [4, 5, 3, 2, 1, 0] rfl) hp
  · have hp := ite_p hp c_3
    refine lc_X12_209 hx hb hts hown dX12_bestDeal_9 ?_
    simp only [Option.some.injEq, Prod.mk.injEq] at hp
    obtain ⟨h0, rfl⟩ := hp
    exact e_RIi hx hb hr hk hP hD hS dX12_bestDeal_11 h0
/-! StormSlotsModel.round(III)I -/
def Mo_round (mo : Mem) (p1 : Int32) (p2 : Int32) (p3 : Int32) : Option (Int32 × Mem) :=
  bn1 (Mo_isOffer mo p1) (fun r_2 => if r_2 = 0 then some ((-1000000), mo) else bn1 (Mo_isOffer mo p2) (fun r_5 => if r_5 = 0 then some ((-1000000), mo) else bn1 (Mo_isOffer mo p3) (fun r_8 => if r_8 = 0 then some ((-1000000), mo) else bn1 (Mo_lineOf mo p1) (fun r_11 => bn1 (Mo_lineOf mo p2) (fun r_13 => if r_11 = r_13 then some ((-1000000), mo) else bn1 (Mo_lineOf mo p2) (fun r_16 => bn1 (Mo_lineOf mo p3) (fun r_18 => if r_16 = r_18 then some ((-1000000), mo) else bn1 (Mo_lineOf mo p1) (fun r_21 => bn1 (Mo_lineOf mo p3) (fun r_23 => if r_21 = r_23 then some ((-1000000), mo) else bn1 (Mo_stillSo mo p1) (fun r_26 => if r_26 = 0 then some ((-1000000), mo) else bn1 (Mo_stillSo mo p2) (fun r_29 => if r_29 = 0 then some ((-1000000), mo) else bn1 (Mo_stillSo mo p3) (fun r_32 => if r_32 = 0 then some ((-1000000), mo) else bn1 (Mo_canSwap mo p1 p2) (fun r_35 => if r_35 = 0 then some ((-1000000), mo) else bn1 (Mo_canSwap mo p2 p3) (fun r_38 => if r_38 = 0 then some ((-1000000), mo) else bn1 (Mo_canSwap mo p3 p1) (fun r_41 => if r_41 = 0 then some ((-1000000), mo) else bn1 (Mo_allCost mo) (fun r_44 => bn1 (Mo_asked mo p1 2) (fun r_46 => bn1 (Mo_asked mo p2 0) (fun r_48 => bn1 (Mo_swaps mo r_46 r_48) (fun mo_50 => bn1 (Mo_asked mo_50 p2 2) (fun r_52 => bn1 (Mo_asked mo_50 p3 0) (fun r_54 => bn1 (Mo_swaps mo_50 r_52 r_54) (fun mo_56 => bn1 (Mo_asked mo_56 p3 2) (fun r_58 => bn1 (Mo_asked mo_56 p1 0) (fun r_60 => bn1 (Mo_swaps mo_56 r_58 r_60) (fun mo_62 => ckI ((176 + (5 * p1)) + 4) 1452 (stk (upm mo_62 0 ((176 + (5 * p1)) + 4).toNatClampNeg 0) (fun mo_64 => ckI ((176 + (5 * p2)) + 4) 1452 (stk (upm mo_64 0 ((176 + (5 * p2)) + 4).toNatClampNeg 0) (fun mo_66 => ckI ((176 + (5 * p3)) + 4) 1452 (stk (upm mo_66 0 ((176 + (5 * p3)) + 4).toNatClampNeg 0) (fun mo_68 => bn1 (Mo_allCost mo_68) (fun r_70 => some ((r_44 - r_70), mo_68)))))))))))))))))))))))))))))))))
set_option maxHeartbeats 4000000 in
set_option maxRecDepth 100000 in
theorem c_X12_round (l : Launch) (D : va_G) (cy : Nat → ClassId) (qmo : Nat → Nat) (mo : Mem) (p1 p2 p3 : Int32) (r : Int32) (mo' : Mem) (hp : Mo_round mo p1 p2 p3 = some (r, mo')) : RI l yX12_round cX12_round 5 (some .int) 5 D cy [.ref (qmo 0), .int p1, .int p2, .int p3] (w_Mo cy qmo mo) (w_Mo cy qmo mo') r := by
  refine RI_of RX12 rfl (by decide) (Nat.le_of_ble_eq_true rfl) ?_
  intro p e s m below meth c A C0 hK hP hD hS hA ls hl
  obtain ⟨hx, hb, hr, hml, hown, hts, hk⟩ := id C0
  unfold Mo_round at hp
  have hl : lv_has ls 5 [(0, .ref (qmo 0)), (1, .int p1), (2, .int p2), (3, .int p3)] := hl
  refine lv_aload_n hx hb dX12_round_0 rfl (lv_at hl 0 rfl) ?_
  refine lv_iload_n hx hb dX12_round_1 rfl (lv_at hl 1 rfl) ?_
  obtain ⟨r_2, hc_1, hp⟩ := bn1_s hp
  refine k_ROV (As := [.int p1]) (rest := []) ⟨hx, hb, hml, hown, hts⟩ hK hP (cw_X12_222 hts ⟨Nat.le_of_ble_eq_true rfl, Nat.le_of_ble_eq_true rfl⟩) 0 (ci := 12) rfl rfl rfl (c_X12_isOffer l D cy qmo mo p1 r_2 hc_1) rfl hl.1 (Nat.le_of_ble_eq_true rfl) ⟨Nat.le_refl _, Nat.le_refl _⟩ dX12_round_2 ?_
  refine lv_if_eq (tgt := 63) hx hb dX12_round_5 (by decide) (fun c_3 => ?_) (fun c_3 => ?_)
  · have hp := ite_p hp c_3
    refine lc_X12_209 hx hb hts hown dX12_round_63 ?_
    simp only [Option.some.injEq, Prod.mk.injEq] at hp
    obtain ⟨h0, rfl⟩ := hp
    exact e_RIi hx hb hr hk hP hD hS dX12_round_65 h0
  · have hp := ite_n hp c_3
    refine lv_aload_n hx hb dX12_round_8 rfl (lv_at hl 0 rfl) ?_
    refine lv_iload_n hx hb dX12_round_9 rfl (lv_at hl 2 rfl) ?_
    obtain ⟨r_5, hc_4, hp⟩ := bn1_s hp
    refine k_ROV (As := [.int p2]) (rest := []) ⟨hx, hb, hml, hown, hts⟩ hK hP (cw_X12_222 hts ⟨Nat.le_of_ble_eq_true rfl, Nat.le_of_ble_eq_true rfl⟩) 0 (ci := 12) rfl rfl rfl (c_X12_isOffer l D cy qmo mo p2 r_5 hc_4) rfl hl.1 (Nat.le_of_ble_eq_true rfl) ⟨Nat.le_refl _, Nat.le_refl _⟩ dX12_round_10 ?_
    refine lv_if_eq (tgt := 63) hx hb dX12_round_13 (by decide) (fun c_6 => ?_) (fun c_6 => ?_)
    · have hp := ite_p hp c_6
      refine lc_X12_209 hx hb hts hown dX12_round_63 ?_
      simp only [Option.some.injEq, Prod.mk.injEq] at hp
      obtain ⟨h0, rfl⟩ := hp
      exact e_RIi hx hb hr hk hP hD hS dX12_round_65 h0
    · have hp := ite_n hp c_6
      refine lv_aload_n hx hb dX12_round_16 rfl (lv_at hl 0 rfl) ?_
      refine lv_iload_n hx hb dX12_round_17 rfl (lv_at hl 3 rfl) ?_
      obtain ⟨r_8, hc_7, hp⟩ := bn1_s hp
      refine k_ROV (As := [.int p3]) (rest := []) ⟨hx, hb, hml, hown, hts⟩ hK hP (cw_X12_222 hts ⟨Nat.le_of_ble_eq_true rfl, Nat.le_of_ble_eq_true rfl⟩) 0 (ci := 12) rfl rfl rfl (c_X12_isOffer l D cy qmo mo p3 r_8 hc_7) rfl hl.1 (Nat.le_of_ble_eq_true rfl) ⟨Nat.le_refl _, Nat.le_refl _⟩ dX12_round_18 ?_
      refine lv_if_eq (tgt := 63) hx hb dX12_round_21 (by decide) (fun c_9 => ?_) (fun c_9 => ?_)
      · have hp := ite_p hp c_9
        refine lc_X12_209 hx hb hts hown dX12_round_63 ?_
        simp only [Option.some.injEq, Prod.mk.injEq] at hp
        obtain ⟨h0, rfl⟩ := hp
        exact e_RIi hx hb hr hk hP hD hS dX12_round_65 h0
      · have hp := ite_n hp c_9
        refine lv_aload_n hx hb dX12_round_24 rfl (lv_at hl 0 rfl) ?_
        refine lv_iload_n hx hb dX12_round_25 rfl (lv_at hl 1 rfl) ?_
        obtain ⟨r_11, hc_10, hp⟩ := bn1_s hp
        refine k_ROV (As := [.int p1]) (rest := []) ⟨hx, hb, hml, hown, hts⟩ hK hP (cw_X12_228 hts ⟨Nat.le_of_ble_eq_true rfl, Nat.le_of_ble_eq_true rfl⟩) 0 (ci := 12) rfl rfl rfl (c_X12_lineOf l D cy qmo mo p1 r_11 hc_10) rfl hl.1 (Nat.le_of_ble_eq_true rfl) ⟨Nat.le_refl _, Nat.le_refl _⟩ dX12_round_26 ?_
        refine lv_aload_n hx hb dX12_round_29 rfl (lv_at hl 0 rfl) ?_
        refine lv_iload_n hx hb dX12_round_30 rfl (lv_at hl 2 rfl) ?_
        obtain ⟨r_13, hc_12, hp⟩ := bn1_s hp
        refine k_ROV (As := [.int p2]) (rest := [.int r_11]) ⟨hx, hb, hml, hown, hts⟩ hK hP (cw_X12_228 hts ⟨Nat.le_of_ble_eq_true rfl, Nat.le_of_ble_eq_true rfl⟩) 0 (ci := 12) rfl rfl rfl (c_X12_lineOf l D cy qmo mo p2 r_13 hc_12) rfl hl.1 (Nat.le_of_ble_eq_true rfl) ⟨Nat.le_refl _, Nat.le_refl _⟩ dX12_round_31 ?_
        refine lv_icmp_eq (tgt := 63) hx hb dX12_round_34 (by decide) (fun c_14 => ?_) (fun c_14 => ?_)
        · have hp := ite_p hp c_14
          refine lc_X12_209 hx hb hts hown dX12_round_63 ?_
          simp only [Option.some.injEq, Prod.mk.injEq] at hp
          obtain ⟨h0, rfl⟩ := hp
          exact e_RIi hx hb hr hk hP hD hS dX12_round_65 h0
        · have hp := ite_n hp c_14
          refine lv_aload_n hx hb dX12_round_37 rfl (lv_at hl 0 rfl) ?_
          refine lv_iload_n hx hb dX12_round_38 rfl (lv_at hl 2 rfl) ?_
          obtain ⟨r_16, hc_15, hp⟩ := bn1_s hp
          refine k_ROV (As := [.int p2]) (rest := []) ⟨hx, hb, hml, hown, hts⟩ hK hP (cw_X12_228 hts ⟨Nat.le_of_ble_eq_true rfl, Nat.le_of_ble_eq_true rfl⟩) 0 (ci := 12) rfl rfl rfl (c_X12_lineOf l D cy qmo mo p2 r_16 hc_15) rfl hl.1 (Nat.le_of_ble_eq_true rfl) ⟨Nat.le_refl _, Nat.le_refl _⟩ dX12_round_39 ?_
          refine lv_aload_n hx hb dX12_round_42 rfl (lv_at hl 0 rfl) ?_
          refine lv_iload_n hx hb dX12_round_43 rfl (lv_at hl 3 rfl) ?_
          obtain ⟨r_18, hc_17, hp⟩ := bn1_s hp
          refine k_ROV (As := [.int p3]) (rest := [.int r_16]) ⟨hx, hb, hml, hown, hts⟩ hK hP (cw_X12_228 hts ⟨Nat.le_of_ble_eq_true rfl, Nat.le_of_ble_eq_true rfl⟩) 0 (ci := 12) rfl rfl rfl (c_X12_lineOf l D cy qmo mo p3 r_18 hc_17) rfl hl.1 (Nat.le_of_ble_eq_true rfl) ⟨Nat.le_refl _, Nat.le_refl _⟩ dX12_round_44 ?_
          refine lv_icmp_eq (tgt := 63) hx hb dX12_round_47 (by decide) (fun c_19 => ?_) (fun c_19 => ?_)
          · have hp := ite_p hp c_19
            refine lc_X12_209 hx hb hts hown dX12_round_63 ?_
            simp only [Option.some.injEq, Prod.mk.injEq] at hp
            obtain ⟨h0, rfl⟩ := hp
            exact e_RIi hx hb hr hk hP hD hS dX12_round_65 h0
          · have hp := ite_n hp c_19
            refine lv_aload_n hx hb dX12_round_50 rfl (lv_at hl 0 rfl) ?_
            refine lv_iload_n hx hb dX12_round_51 rfl (lv_at hl 1 rfl) ?_
            obtain ⟨r_21, hc_20, hp⟩ := bn1_s hp
            refine k_ROV (As := [.int p1]) (rest := []) ⟨hx, hb, hml, hown, hts⟩ hK hP (cw_X12_228 hts ⟨Nat.le_of_ble_eq_true rfl, Nat.le_of_ble_eq_true rfl⟩) 0 (ci := 12) rfl rfl rfl (c_X12_lineOf l D cy qmo mo p1 r_21 hc_20) rfl hl.1 (Nat.le_of_ble_eq_true rfl) ⟨Nat.le_refl _, Nat.le_refl _⟩ dX12_round_52 ?_
            refine lv_aload_n hx hb dX12_round_55 rfl (lv_at hl 0 rfl) ?_
            refine lv_iload_n hx hb dX12_round_56 rfl (lv_at hl 3 rfl) ?_
            obtain ⟨r_23, hc_22, hp⟩ := bn1_s hp
            refine k_ROV (As := [.int p3]) (rest := [.int r_21]) ⟨hx, hb, hml, hown, hts⟩ hK hP (cw_X12_228 hts ⟨Nat.le_of_ble_eq_true rfl, Nat.le_of_ble_eq_true rfl⟩) 0 (ci := 12) rfl rfl rfl (c_X12_lineOf l D cy qmo mo p3 r_23 hc_22) rfl hl.1 (Nat.le_of_ble_eq_true rfl) ⟨Nat.le_refl _, Nat.le_refl _⟩ dX12_round_57 ?_
            refine lv_icmp_ne (tgt := 66) hx hb dX12_round_60 (by decide) (fun c_24 => ?_) (fun c_24 => ?_)
            · have hp := ite_n hp c_24
              refine lv_aload_n hx hb dX12_round_66 rfl (lv_at hl 0 rfl) ?_
              refine lv_iload_n hx hb dX12_round_67 rfl (lv_at hl 1 rfl) ?_
              obtain ⟨r_26, hc_25, hp⟩ := bn1_s hp
              refine k_ROV (As := [.int p1]) (rest := []) ⟨hx, hb, hml, hown, hts⟩ hK hP (cw_X12_231 hts ⟨Nat.le_of_ble_eq_true rfl, Nat.le_of_ble_eq_true rfl⟩) 0 (ci := 12) rfl rfl rfl (c_X12_stillSo l D cy qmo mo p1 r_26 hc_25) rfl hl.1 (Nat.le_of_ble_eq_true rfl) ⟨Nat.le_refl _, Nat.le_refl _⟩ dX12_round_68 ?_
              refine lv_if_eq (tgt := 117) hx hb dX12_round_71 (by decide) (fun c_27 => ?_) (fun c_27 => ?_)
              · have hp := ite_p hp c_27
                refine lc_X12_209 hx hb hts hown dX12_round_117 ?_
                simp only [Option.some.injEq, Prod.mk.injEq] at hp
                obtain ⟨h0, rfl⟩ := hp
                exact e_RIi hx hb hr hk hP hD hS dX12_round_119 h0
              · have hp := ite_n hp c_27
                refine lv_aload_n hx hb dX12_round_74 rfl (lv_at hl 0 rfl) ?_
                refine lv_iload_n hx hb dX12_round_75 rfl (lv_at hl 2 rfl) ?_
                obtain ⟨r_29, hc_28, hp⟩ := bn1_s hp
                refine k_ROV (As := [.int p2]) (rest := []) ⟨hx, hb, hml, hown, hts⟩ hK hP (cw_X12_231 hts ⟨Nat.le_of_ble_eq_true rfl, Nat.le_of_ble_eq_true rfl⟩) 0 (ci := 12) rfl rfl rfl (c_X12_stillSo l D cy qmo mo p2 r_29 hc_28) rfl hl.1 (Nat.le_of_ble_eq_true rfl) ⟨Nat.le_refl _, Nat.le_refl _⟩ dX12_round_76 ?_
                refine lv_if_eq (tgt := 117) hx hb dX12_round_79 (by decide) (fun c_30 => ?_) (fun c_30 => ?_)
                · have hp := ite_p hp c_30
                  refine lc_X12_209 hx hb hts hown dX12_round_117 ?_
                  simp only [Option.some.injEq, Prod.mk.injEq] at hp
                  obtain ⟨h0, rfl⟩ := hp
                  exact e_RIi hx hb hr hk hP hD hS dX12_round_119 h0
                · have hp := ite_n hp c_30
                  refine lv_aload_n hx hb dX12_round_82 rfl (lv_at hl 0 rfl) ?_
                  refine lv_iload_n hx hb dX12_round_83 rfl (lv_at hl 3 rfl) ?_
                  obtain ⟨r_32, hc_31, hp⟩ := bn1_s hp
                  refine k_ROV (As := [.int p3]) (rest := []) ⟨hx, hb, hml, hown, hts⟩ hK hP (cw_X12_231 hts ⟨Nat.le_of_ble_eq_true rfl, Nat.le_of_ble_eq_true rfl⟩) 0 (ci := 12) rfl rfl rfl (c_X12_stillSo l D cy qmo mo p3 r_32 hc_31) rfl hl.1 (Nat.le_of_ble_eq_true rfl) ⟨Nat.le_refl _, Nat.le_refl _⟩ dX12_round_84 ?_
                  refine lv_if_eq (tgt := 117) hx hb dX12_round_87 (by decide) (fun c_33 => ?_) (fun c_33 => ?_)
                  · have hp := ite_p hp c_33
                    refine lc_X12_209 hx hb hts hown dX12_round_117 ?_
                    simp only [Option.some.injEq, Prod.mk.injEq] at hp
                    obtain ⟨h0, rfl⟩ := hp
                    exact e_RIi hx hb hr hk hP hD hS dX12_round_119 h0
                  · have hp := ite_n hp c_33
                    refine lv_aload_n hx hb dX12_round_90 rfl (lv_at hl 0 rfl) ?_
                    refine lv_iload_n hx hb dX12_round_91 rfl (lv_at hl 1 rfl) ?_
                    refine lv_iload_n hx hb dX12_round_92 rfl (lv_at hl 2 rfl) ?_
                    obtain ⟨r_35, hc_34, hp⟩ := bn1_s hp
                    refine k_ROV (As := [.int p1, .int p2]) (rest := []) ⟨hx, hb, hml, hown, hts⟩ hK hP (cw_X12_234 hts ⟨Nat.le_of_ble_eq_true rfl, Nat.le_of_ble_eq_true rfl⟩) 0 (ci := 12) rfl rfl rfl (c_X12_canSwap l D cy qmo mo p1 p2 r_35 hc_34) rfl hl.1 (Nat.le_of_ble_eq_true rfl) ⟨Nat.le_refl _, Nat.le_refl _⟩ dX12_round_93 ?_
                    refine lv_if_eq (tgt := 117) hx hb dX12_round_96 (by decide) (fun c_36 => ?_) (fun c_36 => ?_)
                    · have hp := ite_p hp c_36
                      refine lc_X12_209 hx hb hts hown dX12_round_117 ?_
                      simp only [Option.some.injEq, Prod.mk.injEq] at hp
                      obtain ⟨h0, rfl⟩ := hp
                      exact e_RIi hx hb hr hk hP hD hS dX12_round_119 h0
                    · have hp := ite_n hp c_36
                      refine lv_aload_n hx hb dX12_round_99 rfl (lv_at hl 0 rfl) ?_
                      refine lv_iload_n hx hb dX12_round_100 rfl (lv_at hl 2 rfl) ?_
                      refine lv_iload_n hx hb dX12_round_101 rfl (lv_at hl 3 rfl) ?_
                      obtain ⟨r_38, hc_37, hp⟩ := bn1_s hp
                      refine k_ROV (As := [.int p2, .int p3]) (rest := []) ⟨hx, hb, hml, hown, hts⟩ hK hP (cw_X12_234 hts ⟨Nat.le_of_ble_eq_true rfl, Nat.le_of_ble_eq_true rfl⟩) 0 (ci := 12) rfl rfl rfl (c_X12_canSwap l D cy qmo mo p2 p3 r_38 hc_37) rfl hl.1 (Nat.le_of_ble_eq_true rfl) ⟨Nat.le_refl _, Nat.le_refl _⟩ dX12_round_102 ?_
                      refine lv_if_eq (tgt := 117) hx hb dX12_round_105 (by decide) (fun c_39 => ?_) (fun c_39 => ?_)
                      · have hp := ite_p hp c_39
                        refine lc_X12_209 hx hb hts hown dX12_round_117 ?_
                        simp only [Option.some.injEq, Prod.mk.injEq] at hp
                        obtain ⟨h0, rfl⟩ := hp
                        exact e_RIi hx hb hr hk hP hD hS dX12_round_119 h0
                      · have hp := ite_n hp c_39
                        refine lv_aload_n hx hb dX12_round_108 rfl (lv_at hl 0 rfl) ?_
                        refine lv_iload_n hx hb dX12_round_109 rfl (lv_at hl 3 rfl) ?_
                        refine lv_iload_n hx hb dX12_round_110 rfl (lv_at hl 1 rfl) ?_
                        obtain ⟨r_41, hc_40, hp⟩ := bn1_s hp
                        refine k_ROV (As := [.int p3, .int p1]) (rest := []) ⟨hx, hb, hml, hown, hts⟩ hK hP (cw_X12_234 hts ⟨Nat.le_of_ble_eq_true rfl, Nat.le_of_ble_eq_true rfl⟩) 0 (ci := 12) rfl rfl rfl (c_X12_canSwap l D cy qmo mo p3 p1 r_41 hc_40) rfl hl.1 (Nat.le_of_ble_eq_true rfl) ⟨Nat.le_refl _, Nat.le_refl _⟩ dX12_round_111 ?_
                        refine lv_if_ne (tgt := 120) hx hb dX12_round_114 (by decide) (fun c_42 => ?_) (fun c_42 => ?_)
                        · have hp := ite_n hp c_42
                          refine lv_aload_n hx hb dX12_round_120 rfl (lv_at hl 0 rfl) ?_
                          obtain ⟨r_44, hc_43, hp⟩ := bn1_s hp
                          refine k_ROV (As := []) (rest := []) ⟨hx, hb, hml, hown, hts⟩ hK hP (cw_X12_210 hts ⟨Nat.le_of_ble_eq_true rfl, Nat.le_of_ble_eq_true rfl⟩) 0 (ci := 12) rfl rfl rfl (c_X12_allCost l D cy qmo mo r_44 hc_43) rfl hl.1 (Nat.le_of_ble_eq_true rfl) ⟨Nat.le_refl _, Nat.le_refl _⟩ dX12_round_121 ?_
                          refine lv_istore (lv' := [(4, .int r_44), (0, .ref (qmo 0)), (1, .int p1), (2, .int p2), (3, .int p3)]) hx hb dX12_round_124 hl (by decide) rfl (fun ls hl => ?_)
                          refine lv_aload_n hx hb dX12_round_126 rfl (lv_at hl 1 rfl) ?_
                          refine lv_aload_n hx hb dX12_round_127 rfl (lv_at hl 1 rfl) ?_
                          refine lv_iload_n hx hb dX12_round_128 rfl (lv_at hl 2 rfl) ?_
                          refine lv_iconst (v := 2) hx hb dX12_round_129 (by decide) ?_
                          obtain ⟨r_46, hc_45, hp⟩ := bn1_s hp
                          refine k_ROV (As := [.int p1, .int 2]) (rest := [.ref (qmo 0)]) ⟨hx, hb, hml, hown, hts⟩ hK hP (cw_X12_225 hts ⟨Nat.le_of_ble_eq_true rfl, Nat.le_of_ble_eq_true rfl⟩) 0 (ci := 12) rfl rfl rfl (c_X12_asked l D cy qmo mo p1 2 r_46 hc_45) rfl hl.1 (Nat.le_of_ble_eq_true rfl) ⟨Nat.le_refl _, Nat.le_refl _⟩ dX12_round_130 ?_
                          refine lv_aload_n hx hb dX12_round_133 rfl (lv_at hl 1 rfl) ?_
                          refine lv_iload_n hx hb dX12_round_134 rfl (lv_at hl 3 rfl) ?_
                          refine lv_iconst (v := 0) hx hb dX12_round_135 (by decide) ?_
                          obtain ⟨r_48, hc_47, hp⟩ := bn1_s hp
                          refine k_ROV (As := [.int p2, .int 0]) (rest := [.int r_46, .ref (qmo 0)]) ⟨hx, hb, hml, hown, hts⟩ hK hP (cw_X12_225 hts ⟨Nat.le_of_ble_eq_true rfl, Nat.le_of_ble_eq_true rfl⟩) 0 (ci := 12) rfl rfl rfl (c_X12_asked l D cy qmo mo p2 0 r_48 hc_47) rfl hl.1 (Nat.le_of_ble_eq_true rfl) ⟨Nat.le_refl _, Nat.le_refl _⟩ dX12_round_136 ?_
                          obtain ⟨mo_50, hc_49, hp⟩ := bn1_s hp
                          refine k_RVV (As := [.int r_46, .int r_48]) (rest := []) ⟨hx, hb, hml, hown, hts⟩ hK hP hD hS hA FrS_rf (cw_X12_213 hts ⟨Nat.le_of_ble_eq_true rfl, Nat.le_of_ble_eq_true rfl⟩) 0 (ci := 12) rfl rfl rfl (c_X12_swaps l D cy qmo mo r_46 r_48 mo_50 hc_49) rfl hl.1 (Nat.le_of_ble_eq_true rfl) ⟨Nat.le_refl _, Nat.le_refl _⟩ dX12_round_139 (fun H locs hP hD hS => ?_)
                          refine lv_aload_n hx hb dX12_round_142 rfl (lv_at hl 1 rfl) ?_
                          refine lv_aload_n hx hb dX12_round_143 rfl (lv_at hl 1 rfl) ?_
                          refine lv_iload_n hx hb dX12_round_144 rfl (lv_at hl 3 rfl) ?_
                          refine lv_iconst (v := 2) hx hb dX12_round_145 (by decide) ?_
                          obtain ⟨r_52, hc_51, hp⟩ := bn1_s hp
                          refine k_ROV (As := [.int p2, .int 2]) (rest := [.ref (qmo 0)]) ⟨hx, hb, hml, hown, hts⟩ hK hP (cw_X12_225 hts ⟨Nat.le_of_ble_eq_true rfl, Nat.le_of_ble_eq_true rfl⟩) 0 (ci := 12) rfl rfl rfl (c_X12_asked l D cy qmo mo_50 p2 2 r_52 hc_51) rfl hl.1 (Nat.le_of_ble_eq_true rfl) ⟨Nat.le_refl _, Nat.le_refl _⟩ dX12_round_146 ?_
                          refine lv_aload_n hx hb dX12_round_149 rfl (lv_at hl 1 rfl) ?_
                          refine lv_iload_n hx hb dX12_round_150 rfl (lv_at hl 4 rfl) ?_
                          refine lv_iconst (v := 0) hx hb dX12_round_151 (by decide) ?_
                          obtain ⟨r_54, hc_53, hp⟩ := bn1_s hp
                          refine k_ROV (As := [.int p3, .int 0]) (rest := [.int r_52, .ref (qmo 0)]) ⟨hx, hb, hml, hown, hts⟩ hK hP (cw_X12_225 hts ⟨Nat.le_of_ble_eq_true rfl, Nat.le_of_ble_eq_true rfl⟩) 0 (ci := 12) rfl rfl rfl (c_X12_asked l D cy qmo mo_50 p3 0 r_54 hc_53) rfl hl.1 (Nat.le_of_ble_eq_true rfl) ⟨Nat.le_refl _, Nat.le_refl _⟩ dX12_round_152 ?_
                          obtain ⟨mo_56, hc_55, hp⟩ := bn1_s hp
                          refine k_RVV (As := [.int r_52, .int r_54]) (rest := []) ⟨hx, hb, hml, hown, hts⟩ hK hP hD hS hA FrS_rf (cw_X12_213 hts ⟨Nat.le_of_ble_eq_true rfl, Nat.le_of_ble_eq_true rfl⟩) 0 (ci := 12) rfl rfl rfl (c_X12_swaps l D cy qmo mo_50 r_52 r_54 mo_56 hc_55) rfl hl.1 (Nat.le_of_ble_eq_true rfl) ⟨Nat.le_refl _, Nat.le_refl _⟩ dX12_round_155 (fun H locs hP hD hS => ?_)
                          refine lv_aload_n hx hb dX12_round_158 rfl (lv_at hl 1 rfl) ?_
                          refine lv_aload_n hx hb dX12_round_159 rfl (lv_at hl 1 rfl) ?_
                          refine lv_iload_n hx hb dX12_round_160 rfl (lv_at hl 4 rfl) ?_
                          refine lv_iconst (v := 2) hx hb dX12_round_161 (by decide) ?_
                          obtain ⟨r_58, hc_57, hp⟩ := bn1_s hp
                          refine k_ROV (As := [.int p3, .int 2]) (rest := [.ref (qmo 0)]) ⟨hx, hb, hml, hown, hts⟩ hK hP (cw_X12_225 hts ⟨Nat.le_of_ble_eq_true rfl, Nat.le_of_ble_eq_true rfl⟩) 0 (ci := 12) rfl rfl rfl (c_X12_asked l D cy qmo mo_56 p3 2 r_58 hc_57) rfl hl.1 (Nat.le_of_ble_eq_true rfl) ⟨Nat.le_refl _, Nat.le_refl _⟩ dX12_round_162 ?_
                          refine lv_aload_n hx hb dX12_round_165 rfl (lv_at hl 1 rfl) ?_
                          refine lv_iload_n hx hb dX12_round_166 rfl (lv_at hl 2 rfl) ?_
                          refine lv_iconst (v := 0) hx hb dX12_round_167 (by decide) ?_
                          obtain ⟨r_60, hc_59, hp⟩ := bn1_s hp
                          refine k_ROV (As := [.int p1, .int 0]) (rest := [.int r_58, .ref (qmo 0)]) ⟨hx, hb, hml, hown, hts⟩ hK hP (cw_X12_225 hts ⟨Nat.le_of_ble_eq_true rfl, Nat.le_of_ble_eq_true rfl⟩) 0 (ci := 12) rfl rfl rfl (c_X12_asked l D cy qmo mo_56 p1 0 r_60 hc_59) rfl hl.1 (Nat.le_of_ble_eq_true rfl) ⟨Nat.le_refl _, Nat.le_refl _⟩ dX12_round_168 ?_
                          obtain ⟨mo_62, hc_61, hp⟩ := bn1_s hp
                          refine k_RVV (As := [.int r_58, .int r_60]) (rest := []) ⟨hx, hb, hml, hown, hts⟩ hK hP hD hS hA FrS_rf (cw_X12_213 hts ⟨Nat.le_of_ble_eq_true rfl, Nat.le_of_ble_eq_true rfl⟩) 0 (ci := 12) rfl rfl rfl (c_X12_swaps l D cy qmo mo_56 r_58 r_60 mo_62 hc_61) rfl hl.1 (Nat.le_of_ble_eq_true rfl) ⟨Nat.le_refl _, Nat.le_refl _⟩ dX12_round_171 (fun H locs hP hD hS => ?_)
                          refine lv_aload_n hx hb dX12_round_174 rfl (lv_at hl 1 rfl) ?_
                          refine gf_X12_7 hx hb hts hown hK hP 0 rfl rfl dX12_round_175 ?_
                          refine lv_sipush (v := 176) hx hb dX12_round_178 (by decide) ?_
                          refine lv_iconst (v := 5) hx hb dX12_round_181 (by decide) ?_
                          refine lv_iload_n hx hb dX12_round_182 rfl (lv_at hl 2 rfl) ?_
                          refine lv_imul hx hb dX12_round_183 ?_
                          refine lv_iadd hx hb dX12_round_184 ?_
                          refine lv_iconst (v := 4) hx hb dX12_round_185 (by decide) ?_
                          refine lv_iadd hx hb dX12_round_186 ?_
                          refine lv_iconst (v := 0) hx hb dX12_round_187 (by decide) ?_
                          obtain ⟨hi_63, hp⟩ := ckI_s hp
                          obtain ⟨mo_64, emo_64⟩ : ∃ y : Mem, y = upm mo_62 0 ((176 + (5 * p1)) + 4).toNatClampNeg 0 := ⟨_, rfl⟩
                          have hp := stk_e hp emo_64
                          refine r_ist hx hb hK hP hD hS (wn := (w_Mo cy qmo mo_64)) 1 rfl hi_63 (by subst emo_64; rfl) dX12_round_188 (fun H locs hP hD hS => ?_)
                          refine lv_aload_n hx hb dX12_round_189 rfl (lv_at hl 1 rfl) ?_
                          refine gf_X12_7 hx hb hts hown hK hP 0 rfl rfl dX12_round_190 ?_
                          refine lv_sipush (v := 176) hx hb dX12_round_193 (by decide) ?_
                          refine lv_iconst (v := 5) hx hb dX12_round_196 (by decide) ?_
                          refine lv_iload_n hx hb dX12_round_197 rfl (lv_at hl 3 rfl) ?_
                          refine lv_imul hx hb dX12_round_198 ?_
                          refine lv_iadd hx hb dX12_round_199 ?_
                          refine lv_iconst (v := 4) hx hb dX12_round_200 (by decide) ?_
                          refine lv_iadd hx hb dX12_round_201 ?_
                          refine lv_iconst (v := 0) hx hb dX12_round_202 (by decide) ?_
                          obtain ⟨hi_65, hp⟩ := ckI_s hp
                          obtain ⟨mo_66, emo_66⟩ : ∃ y : Mem, y = upm mo_64 0 ((176 + (5 * p2)) + 4).toNatClampNeg 0 := ⟨_, rfl⟩
                          have hp := stk_e hp emo_66
                          refine r_ist hx hb hK hP hD hS (wn := (w_Mo cy qmo mo_66)) 1 rfl hi_65 (by subst emo_66; rfl) dX12_round_203 (fun H locs hP hD hS => ?_)
                          refine lv_aload_n hx hb dX12_round_204 rfl (lv_at hl 1 rfl) ?_
                          refine gf_X12_7 hx hb hts hown hK hP 0 rfl rfl dX12_round_205 ?_
                          refine lv_sipush (v := 176) hx hb dX12_round_208 (by decide) ?_
                          refine lv_iconst (v := 5) hx hb dX12_round_211 (by decide) ?_
                          refine lv_iload_n hx hb dX12_round_212 rfl (lv_at hl 4 rfl) ?_
                          refine lv_imul hx hb dX12_round_213 ?_
                          refine lv_iadd hx hb dX12_round_214 ?_
                          refine lv_iconst (v := 4) hx hb dX12_round_215 (by decide) ?_
                          refine lv_iadd hx hb dX12_round_216 ?_
                          refine lv_iconst (v := 0) hx hb dX12_round_217 (by decide) ?_
                          obtain ⟨hi_67, hp⟩ := ckI_s hp
                          obtain ⟨mo_68, emo_68⟩ : ∃ y : Mem, y = upm mo_66 0 ((176 + (5 * p3)) + 4).toNatClampNeg 0 := ⟨_, rfl⟩
                          have hp := stk_e hp emo_68
                          refine r_ist hx hb hK hP hD hS (wn := (w_Mo cy qmo mo_68)) 1 rfl hi_67 (by subst emo_68; rfl) dX12_round_218 (fun H locs hP hD hS => ?_)
                          refine lv_iload hx hb dX12_round_219 (lv_at hl 0 rfl) ?_
                          refine lv_aload_n hx hb dX12_round_221 rfl (lv_at hl 1 rfl) ?_
                          obtain ⟨r_70, hc_69, hp⟩ := bn1_s hp
                          refine k_ROV (As := []) (rest := [.int r_44]) ⟨hx, hb, hml, hown, hts⟩ hK hP (cw_X12_210 hts ⟨Nat.le_of_ble_eq_true rfl, Nat.le_of_ble_eq_true rfl⟩) 0 (ci := 12) rfl rfl rfl (c_X12_allCost l D cy qmo mo_68 r_70 hc_69) rfl hl.1 (Nat.le_of_ble_eq_true rfl) ⟨Nat.le_refl _, Nat.le_refl _⟩ dX12_round_222 ?_
                          refine lv_isub hx hb dX12_round_225 ?_
                          simp only [Option.some.injEq, Prod.mk.injEq] at hp
                          obtain ⟨h0, rfl⟩ := hp
                          exact e_RIi hx hb hr hk hP hD hS dX12_round_226 h0
                        · have hp := ite_p hp c_42
                          refine lc_X12_209 hx hb hts hown dX12_round_117 ?_
                          simp only [Option.some.injEq, Prod.mk.injEq] at hp
                          obtain ⟨h0, rfl⟩ := hp
                          exact e_RIi hx hb hr hk hP hD hS dX12_round_119 h0
            · have hp := ite_p hp c_24
              refine lc_X12_209 hx hb hts hown dX12_round_63 ?_
              simp only [Option.some.injEq, Prod.mk.injEq] at hp
              obtain ⟨h0, rfl⟩ := hp
              exact e_RIi hx hb hr hk hP hD hS dX12_round_65 h0
/-! StormSlotsModel.lineWaits(I)I -/
def Mo_lineWaits_b4B (mo : Mem) (p1 : Int32) (k4 : Int32 → Int32 → Option (Int32)) (x2 : Int32) (x3 : Int32) : Option (Int32) :=
  ckI 173 1452 (if (mo 0 (173 : Int32).toNatClampNeg) ≤ x3 then some x2 else bn1 (Mo_of mo x3 0) (fun r_4 => if r_4 = p1 then bn1 (Mo_waits mo x3) (fun r_9 => stk (x2 + r_9) (fun x2_10 => stk (x3 + 1) (fun x3_11 => k4 x2_10 x3_11))) else stk (x2 + 0) (fun x2_6 => stk (x3 + 1) (fun x3_7 => k4 x2_6 x3_7))))
def Mo_lineWaits_b4 (mo : Mem) (p1 : Int32) : Nat → Int32 → Int32 → Option (Int32)
  | 0 => fun _ _ => none
  | n + 1 => Mo_lineWaits_b4B mo p1 (Mo_lineWaits_b4 mo p1 n)
def Mo_lineWaits (mo : Mem) (p1 : Int32) : Option (Int32) :=
  Mo_lineWaits_b4 mo p1 fl 0 0
set_option maxHeartbeats 4000000 in
set_option maxRecDepth 100000 in
theorem Mo_lineWaits_b4B_w (C0 : cX RX12 cX12_lineWaits (some .int) 4 p s m args meth c) (hK : kN D cy s) {qmo : Nat → Nat} {mo : Mem} {p1 : Int32} {r : Int32} (hP : va_P D vwCl (w_Mo cy qmo mo) s.heap) {k4 : Int32 → Int32 → Option (Int32)} (hk4 : ∀ (x2 x3 : Int32) (ls : Array Slot), lv_has ls 4 [(0, .ref (qmo 0)), (1, .int p1), (2, .int x2), (3, .int x3)] → k4 x2 x3 = some r → W p l e (rmD 3) s m args below meth c s.heap [] 0 0 (qRO below args s r) (F0 m 4 ls [])) {x2 : Int32} {x3 : Int32} {ls : Array Slot} (hl : lv_has ls 4 [(0, .ref (qmo 0)), (1, .int p1), (2, .int x2), (3, .int x3)]) (hp : Mo_lineWaits_b4B mo p1 k4 x2 x3 = some r) : W p l e (rmD 3) s m args below meth c s.heap [] 0 0 (qRO below args s r) (F0 m 4 ls []) := by
  obtain ⟨hx, hb, hr, hml, hown, hts, hk⟩ := id C0
  unfold Mo_lineWaits_b4B at hp
  refine lv_iload_n hx hb dX12_lineWaits_4 rfl (lv_at hl 3 rfl) ?_
  refine lv_aload_n hx hb dX12_lineWaits_5 rfl (lv_at hl 0 rfl) ?_
  refine gf_X12_7 hx hb hts hown hK hP 0 rfl rfl dX12_lineWaits_6 ?_
  refine lv_sipush (v := 173) hx hb dX12_lineWaits_9 (by decide) ?_
  obtain ⟨hi_1, hp⟩ := ckI_s hp
  refine r_ild hx hb hK hP 1 rfl hi_1 dX12_lineWaits_12 ?_
  refine lv_icmp_ge (tgt := 44) hx hb dX12_lineWaits_13 (by decide) (fun c_2 => ?_) (fun c_2 => ?_)
  · have hp := ite_p hp c_2
    refine lv_iload_n hx hb dX12_lineWaits_44 rfl (lv_at hl 2 rfl) ?_
    exact e_ROi hx hb hr hk dX12_lineWaits_45 (Option.some.inj hp)
  · have hp := ite_n hp c_2
    refine lv_iload_n hx hb dX12_lineWaits_16 rfl (lv_at hl 2 rfl) ?_
    refine lv_aload_n hx hb dX12_lineWaits_17 rfl (lv_at hl 0 rfl) ?_
    refine lv_iload_n hx hb dX12_lineWaits_18 rfl (lv_at hl 3 rfl) ?_
    refine lv_iconst (v := 0) hx hb dX12_lineWaits_19 (by decide) ?_
    obtain ⟨r_4, hc_3, hp⟩ := bn1_s hp
    refine k_ROV (As := [.int x3, .int 0]) (rest := [.int x2]) ⟨hx, hb, hml, hown, hts⟩ hK hP (cw_X12_128 hts ⟨Nat.le_of_ble_eq_true rfl, Nat.le_of_ble_eq_true rfl⟩) 0 (ci := 12) rfl rfl rfl (c_X12_of l D cy qmo mo x3 0 r_4 hc_3) rfl hl.1 (Nat.le_of_ble_eq_true rfl) ⟨Nat.le_refl _, Nat.le_refl _⟩ dX12_lineWaits_20 ?_
    refine lv_iload_n hx hb dX12_lineWaits_23 rfl (lv_at hl 1 rfl) ?_
    refine lv_icmp_ne (tgt := 35) hx hb dX12_lineWaits_24 (by decide) (fun c_5 => ?_) (fun c_5 => ?_)
    · have hp := ite_n hp c_5
      refine lv_iconst (v := 0) hx hb dX12_lineWaits_35 (by decide) ?_
      refine lv_iadd hx hb dX12_lineWaits_36 ?_
      refine lv_topi (fun x2_6 ex2_6 => ?_)
      have hp := stk_e hp ex2_6
      refine lv_istore_n (lv' := [(2, .int x2_6), (0, .ref (qmo 0)), (1, .int p1), (3, .int x3)]) hx hb dX12_lineWaits_37 rfl hl (by decide) rfl (fun ls hl => ?_)
      obtain ⟨x3_7, ex3_7⟩ : ∃ y : Int32, y = x3 + 1 := ⟨_, rfl⟩
      have hp := stk_e hp ex3_7
      refine lv_iinc (v := x3_7) (lv' := [(3, .int x3_7), (2, .int x2_6), (0, .ref (qmo 0)), (1, .int p1)]) hx hb dX12_lineWaits_38 hl (k := 3) rfl (by rw [ex3_7]; rfl) (by decide) rfl (fun ls hl => ?_)
      refine lv_goto (tgt := 4) hx hb dX12_lineWaits_41 (by decide) ?_
      exact hk4 x2_6 x3_7 _ (lv_sub hl [2, 3, 1, 0] rfl) hp
    · have hp := ite_p hp c_5
      refine lv_aload_n hx hb dX12_lineWaits_27 rfl (lv_at hl 0 rfl) ?_
      refine lv_iload_n hx hb dX12_lineWaits_28 rfl (lv_at hl 3 rfl) ?_
      obtain ⟨r_9, hc_8, hp⟩ := bn1_s hp
      refine k_ROV (As := [.int x3]) (rest := [.int x2]) ⟨hx, hb, hml, hown, hts⟩ hK hP (cw_X12_194 hts ⟨Nat.le_of_ble_eq_true rfl, Nat.le_of_ble_eq_true rfl⟩) 0 (ci := 12) rfl rfl rfl (c_X12_waits l D cy qmo mo x3 r_9 hc_8) rfl hl.1 (Nat.le_of_ble_eq_true rfl) ⟨Nat.le_refl _, Nat.le_refl _⟩ dX12_lineWaits_29 ?_
      refine lv_goto (tgt := 36) hx hb dX12_lineWaits_32 (by decide) ?_
      refine lv_iadd hx hb dX12_lineWaits_36 ?_
      refine lv_topi (fun x2_10 ex2_10 => ?_)
      have hp := stk_e hp ex2_10
      refine lv_istore_n (lv' := [(2, .int x2_10), (0, .ref (qmo 0)), (1, .int p1), (3, .int x3)]) hx hb dX12_lineWaits_37 rfl hl (by decide) rfl (fun ls hl => ?_)
      obtain ⟨x3_11, ex3_11⟩ : ∃ y : Int32, y = x3 + 1 := ⟨_, rfl⟩
      have hp := stk_e hp ex3_11
      refine lv_iinc (v := x3_11) (lv' := [(3, .int x3_11), (2, .int x2_10), (0, .ref (qmo 0)), (1, .int p1)]) hx hb dX12_lineWaits_38 hl (k := 3) rfl (by rw [ex3_11]; rfl) (by decide) rfl (fun ls hl => ?_)
      refine lv_goto (tgt := 4) hx hb dX12_lineWaits_41 (by decide) ?_
      exact hk4 x2_10 x3_11 _ (lv_sub hl [2, 3, 1, 0] rfl) hp
theorem Mo_lineWaits_b4_w (C0 : cX RX12 cX12_lineWaits (some .int) 4 p s m args meth c) (hK : kN D cy s) {qmo : Nat → Nat} {mo : Mem} {p1 : Int32} {r : Int32} (hP : va_P D vwCl (w_Mo cy qmo mo) s.heap) : ∀ (n : Nat) (x2 x3 : Int32) (ls : Array Slot), lv_has ls 4 [(0, .ref (qmo 0)), (1, .int p1), (2, .int x2), (3, .int x3)] → Mo_lineWaits_b4 mo p1 n x2 x3 = some r → W p l e (rmD 3) s m args below meth c s.heap [] 0 0 (qRO below args s r) (F0 m 4 ls []) := by
  intro n
  induction n with
  | zero =>
    intro x2 x3 ls hl hp
    cases hp
  | succ n ih =>
    intro x2 x3 ls hl hp
    exact Mo_lineWaits_b4B_w C0 hK hP  (fun x2 x3 ls hl hp => ih x2 x3 ls hl hp) hl hp
set_option maxHeartbeats 4000000 in
set_option maxRecDepth 100000 in
theorem c_X12_lineWaits (l : Launch) (D : va_G) (cy : Nat → ClassId) (qmo : Nat → Nat) (mo : Mem) (p1 : Int32) (r : Int32) (hp : Mo_lineWaits mo p1 = some r) : RO l yX12_lineWaits cX12_lineWaits 4 (some .int) 3 D cy [.ref (qmo 0), .int p1] (w_Mo cy qmo mo) r := by
  refine RO_of RX12 rfl (by decide) (Nat.le_of_ble_eq_true rfl) ?_
  intro p e s m below meth c C0 hK hP ls hl
  obtain ⟨hx, hb, hr, hml, hown, hts, hk⟩ := id C0
  unfold Mo_lineWaits at hp
  have hl : lv_has ls 4 [(0, .ref (qmo 0)), (1, .int p1)] := hl
  refine lv_iconst (v := 0) hx hb dX12_lineWaits_0 (by decide) ?_
  refine lv_istore_n (lv' := [(2, .int 0), (0, .ref (qmo 0)), (1, .int p1)]) hx hb dX12_lineWaits_1 rfl hl (by decide) rfl (fun ls hl => ?_)
  refine lv_iconst (v := 0) hx hb dX12_lineWaits_2 (by decide) ?_
  refine lv_istore_n (lv' := [(3, .int 0), (2, .int 0), (0, .ref (qmo 0)), (1, .int p1)]) hx hb dX12_lineWaits_3 rfl hl (by decide) rfl (fun ls hl => ?_)
  exact Mo_lineWaits_b4_w C0 hK hP  fl 0 0 _ (lv_sub hl [2, 3, 1, 0] rfl) hp
/-! StormSlotsModel.lineFlights(I)I -/
def Mo_lineFlights_b4B (mo : Mem) (p1 : Int32) (k4 : Int32 → Int32 → Option (Int32)) (x2 : Int32) (x3 : Int32) : Option (Int32) :=
  ckI 173 1452 (if (mo 0 (173 : Int32).toNatClampNeg) ≤ x3 then some x2 else bn1 (Mo_of mo x3 0) (fun r_4 => if r_4 = p1 then bn1 (Mo_isPlanned mo x3) (fun r_9 => if r_9 = 0 then stk (x2 + 0) (fun x2_11 => stk (x3 + 1) (fun x3_12 => k4 x2_11 x3_12)) else stk (x2 + 1) (fun x2_13 => stk (x3 + 1) (fun x3_14 => k4 x2_13 x3_14))) else stk (x2 + 0) (fun x2_6 => stk (x3 + 1) (fun x3_7 => k4 x2_6 x3_7))))
def Mo_lineFlights_b4 (mo : Mem) (p1 : Int32) : Nat → Int32 → Int32 → Option (Int32)
  | 0 => fun _ _ => none
  | n + 1 => Mo_lineFlights_b4B mo p1 (Mo_lineFlights_b4 mo p1 n)
def Mo_lineFlights (mo : Mem) (p1 : Int32) : Option (Int32) :=
  Mo_lineFlights_b4 mo p1 fl 0 0
set_option maxHeartbeats 4000000 in
set_option maxRecDepth 100000 in
theorem Mo_lineFlights_b4B_w (C0 : cX RX12 cX12_lineFlights (some .int) 4 p s m args meth c) (hK : kN D cy s) {qmo : Nat → Nat} {mo : Mem} {p1 : Int32} {r : Int32} (hP : va_P D vwCl (w_Mo cy qmo mo) s.heap) {k4 : Int32 → Int32 → Option (Int32)} (hk4 : ∀ (x2 x3 : Int32) (ls : Array Slot), lv_has ls 4 [(0, .ref (qmo 0)), (1, .int p1), (2, .int x2), (3, .int x3)] → k4 x2 x3 = some r → W p l e (rmD 2) s m args below meth c s.heap [] 0 0 (qRO below args s r) (F0 m 4 ls [])) {x2 : Int32} {x3 : Int32} {ls : Array Slot} (hl : lv_has ls 4 [(0, .ref (qmo 0)), (1, .int p1), (2, .int x2), (3, .int x3)]) (hp : Mo_lineFlights_b4B mo p1 k4 x2 x3 = some r) : W p l e (rmD 2) s m args below meth c s.heap [] 0 0 (qRO below args s r) (F0 m 4 ls []) := by
  obtain ⟨hx, hb, hr, hml, hown, hts, hk⟩ := id C0
  unfold Mo_lineFlights_b4B at hp
  refine lv_iload_n hx hb dX12_lineFlights_4 rfl (lv_at hl 3 rfl) ?_
  refine lv_aload_n hx hb dX12_lineFlights_5 rfl (lv_at hl 0 rfl) ?_
  refine gf_X12_7 hx hb hts hown hK hP 0 rfl rfl dX12_lineFlights_6 ?_
  refine lv_sipush (v := 173) hx hb dX12_lineFlights_9 (by decide) ?_
  obtain ⟨hi_1, hp⟩ := ckI_s hp
  refine r_ild hx hb hK hP 1 rfl hi_1 dX12_lineFlights_12 ?_
  refine lv_icmp_ge (tgt := 48) hx hb dX12_lineFlights_13 (by decide) (fun c_2 => ?_) (fun c_2 => ?_)
  · have hp := ite_p hp c_2
    refine lv_iload_n hx hb dX12_lineFlights_48 rfl (lv_at hl 2 rfl) ?_
    exact e_ROi hx hb hr hk dX12_lineFlights_49 (Option.some.inj hp)
  · have hp := ite_n hp c_2
    refine lv_iload_n hx hb dX12_lineFlights_16 rfl (lv_at hl 2 rfl) ?_
    refine lv_aload_n hx hb dX12_lineFlights_17 rfl (lv_at hl 0 rfl) ?_
    refine lv_iload_n hx hb dX12_lineFlights_18 rfl (lv_at hl 3 rfl) ?_
    refine lv_iconst (v := 0) hx hb dX12_lineFlights_19 (by decide) ?_
    obtain ⟨r_4, hc_3, hp⟩ := bn1_s hp
    refine k_ROV (As := [.int x3, .int 0]) (rest := [.int x2]) ⟨hx, hb, hml, hown, hts⟩ hK hP (cw_X12_128 hts ⟨Nat.le_of_ble_eq_true rfl, Nat.le_of_ble_eq_true rfl⟩) 0 (ci := 12) rfl rfl rfl (c_X12_of l D cy qmo mo x3 0 r_4 hc_3) rfl hl.1 (Nat.le_of_ble_eq_true rfl) ⟨Nat.le_refl _, Nat.le_refl _⟩ dX12_lineFlights_20 ?_
    refine lv_iload_n hx hb dX12_lineFlights_23 rfl (lv_at hl 1 rfl) ?_
    refine lv_icmp_ne (tgt := 39) hx hb dX12_lineFlights_24 (by decide) (fun c_5 => ?_) (fun c_5 => ?_)
    · have hp := ite_n hp c_5
      refine lv_iconst (v := 0) hx hb dX12_lineFlights_39 (by decide) ?_
      refine lv_iadd hx hb dX12_lineFlights_40 ?_
      refine lv_topi (fun x2_6 ex2_6 => ?_)
      have hp := stk_e hp ex2_6
      refine lv_istore_n (lv' := [(2, .int x2_6), (0, .ref (qmo 0)), (1, .int p1), (3, .int x3)]) hx hb dX12_lineFlights_41 rfl hl (by decide) rfl (fun ls hl => ?_)
      obtain ⟨x3_7, ex3_7⟩ : ∃ y : Int32, y = x3 + 1 := ⟨_, rfl⟩
      have hp := stk_e hp ex3_7
      refine lv_iinc (v := x3_7) (lv' := [(3, .int x3_7), (2, .int x2_6), (0, .ref (qmo 0)), (1, .int p1)]) hx hb dX12_lineFlights_42 hl (k := 3) rfl (by rw [ex3_7]; rfl) (by decide) rfl (fun ls hl => ?_)
      refine lv_goto (tgt := 4) hx hb dX12_lineFlights_45 (by decide) ?_
      exact hk4 x2_6 x3_7 _ (lv_sub hl [2, 3, 1, 0] rfl) hp
    · have hp := ite_p hp c_5
      refine lv_aload_n hx hb dX12_lineFlights_27 rfl (lv_at hl 0 rfl) ?_
      refine lv_iload_n hx hb dX12_lineFlights_28 rfl (lv_at hl 3 rfl) ?_
      obtain ⟨r_9, hc_8, hp⟩ := bn1_s hp
      refine k_ROV (As := [.int x3]) (rest := [.int x2]) ⟨hx, hb, hml, hown, hts⟩ hK hP (cw_X12_144 hts ⟨Nat.le_of_ble_eq_true rfl, Nat.le_of_ble_eq_true rfl⟩) 0 (ci := 12) rfl rfl rfl (c_X12_isPlanned l D cy qmo mo x3 r_9 hc_8) rfl hl.1 (Nat.le_of_ble_eq_true rfl) ⟨Nat.le_refl _, Nat.le_refl _⟩ dX12_lineFlights_29 ?_
      refine lv_if_eq (tgt := 39) hx hb dX12_lineFlights_32 (by decide) (fun c_10 => ?_) (fun c_10 => ?_)
      · have hp := ite_p hp c_10
        refine lv_iconst (v := 0) hx hb dX12_lineFlights_39 (by decide) ?_
        refine lv_iadd hx hb dX12_lineFlights_40 ?_
        refine lv_topi (fun x2_11 ex2_11 => ?_)
        have hp := stk_e hp ex2_11
        refine lv_istore_n (lv' := [(2, .int x2_11), (0, .ref (qmo 0)), (1, .int p1), (3, .int x3)]) hx hb dX12_lineFlights_41 rfl hl (by decide) rfl (fun ls hl => ?_)
        obtain ⟨x3_12, ex3_12⟩ : ∃ y : Int32, y = x3 + 1 := ⟨_, rfl⟩
        have hp := stk_e hp ex3_12
        refine lv_iinc (v := x3_12) (lv' := [(3, .int x3_12), (2, .int x2_11), (0, .ref (qmo 0)), (1, .int p1)]) hx hb dX12_lineFlights_42 hl (k := 3) rfl (by rw [ex3_12]; rfl) (by decide) rfl (fun ls hl => ?_)
        refine lv_goto (tgt := 4) hx hb dX12_lineFlights_45 (by decide) ?_
        exact hk4 x2_11 x3_12 _ (lv_sub hl [2, 3, 1, 0] rfl) hp
      · have hp := ite_n hp c_10
        refine lv_iconst (v := 1) hx hb dX12_lineFlights_35 (by decide) ?_
        refine lv_goto (tgt := 40) hx hb dX12_lineFlights_36 (by decide) ?_
        refine lv_iadd hx hb dX12_lineFlights_40 ?_
        refine lv_topi (fun x2_13 ex2_13 => ?_)
        have hp := stk_e hp ex2_13
        refine lv_istore_n (lv' := [(2, .int x2_13), (0, .ref (qmo 0)), (1, .int p1), (3, .int x3)]) hx hb dX12_lineFlights_41 rfl hl (by decide) rfl (fun ls hl => ?_)
        obtain ⟨x3_14, ex3_14⟩ : ∃ y : Int32, y = x3 + 1 := ⟨_, rfl⟩
        have hp := stk_e hp ex3_14
        refine lv_iinc (v := x3_14) (lv' := [(3, .int x3_14), (2, .int x2_13), (0, .ref (qmo 0)), (1, .int p1)]) hx hb dX12_lineFlights_42 hl (k := 3) rfl (by rw [ex3_14]; rfl) (by decide) rfl (fun ls hl => ?_)
        refine lv_goto (tgt := 4) hx hb dX12_lineFlights_45 (by decide) ?_
        exact hk4 x2_13 x3_14 _ (lv_sub hl [2, 3, 1, 0] rfl) hp
theorem Mo_lineFlights_b4_w (C0 : cX RX12 cX12_lineFlights (some .int) 4 p s m args meth c) (hK : kN D cy s) {qmo : Nat → Nat} {mo : Mem} {p1 : Int32} {r : Int32} (hP : va_P D vwCl (w_Mo cy qmo mo) s.heap) : ∀ (n : Nat) (x2 x3 : Int32) (ls : Array Slot), lv_has ls 4 [(0, .ref (qmo 0)), (1, .int p1), (2, .int x2), (3, .int x3)] → Mo_lineFlights_b4 mo p1 n x2 x3 = some r → W p l e (rmD 2) s m args below meth c s.heap [] 0 0 (qRO below args s r) (F0 m 4 ls []) := by
  intro n
  induction n with
  | zero =>
    intro x2 x3 ls hl hp
    cases hp
  | succ n ih =>
    intro x2 x3 ls hl hp
    exact Mo_lineFlights_b4B_w C0 hK hP  (fun x2 x3 ls hl hp => ih x2 x3 ls hl hp) hl hp
set_option maxHeartbeats 4000000 in
set_option maxRecDepth 100000 in
theorem c_X12_lineFlights (l : Launch) (D : va_G) (cy : Nat → ClassId) (qmo : Nat → Nat) (mo : Mem) (p1 : Int32) (r : Int32) (hp : Mo_lineFlights mo p1 = some r) : RO l yX12_lineFlights cX12_lineFlights 4 (some .int) 2 D cy [.ref (qmo 0), .int p1] (w_Mo cy qmo mo) r := by
  refine RO_of RX12 rfl (by decide) (Nat.le_of_ble_eq_true rfl) ?_
  intro p e s m below meth c C0 hK hP ls hl
  obtain ⟨hx, hb, hr, hml, hown, hts, hk⟩ := id C0
  unfold Mo_lineFlights at hp
  have hl : lv_has ls 4 [(0, .ref (qmo 0)), (1, .int p1)] := hl
  refine lv_iconst (v := 0) hx hb dX12_lineFlights_0 (by decide) ?_
  refine lv_istore_n (lv' := [(2, .int 0), (0, .ref (qmo 0)), (1, .int p1)]) hx hb dX12_lineFlights_1 rfl hl (by decide) rfl (fun ls hl => ?_)
  refine lv_iconst (v := 0) hx hb dX12_lineFlights_2 (by decide) ?_
  refine lv_istore_n (lv' := [(3, .int 0), (2, .int 0), (0, .ref (qmo 0)), (1, .int p1)]) hx hb dX12_lineFlights_3 rfl hl (by decide) rfl (fun ls hl => ?_)
  exact Mo_lineFlights_b4_w C0 hK hP  fl 0 0 _ (lv_sub hl [2, 3, 1, 0] rfl) hp
/-! StormSlotsModel.lineCounts(II)I -/
def Mo_lineCounts_b5B (mo : Mem) (p1 : Int32) (p2 : Int32) (k5 : Int32 → Int32 → Option (Int32)) (x3 : Int32) (x4 : Int32) : Option (Int32) :=
  ckI 173 1452 (if (mo 0 (173 : Int32).toNatClampNeg) ≤ x4 then some x3 else bn1 (Mo_of mo x4 0) (fun r_4 => if r_4 = p1 then if p2 = 4 then bn1 (Mo_waits mo x4) (fun r_23 => bn1 (Mo_more x3 r_23) (fun r_25 => stk (x4 + 1) (fun x4_26 => k5 r_25 x4_26))) else if p2 = 0 then stk (x3 + 1) (fun x3_20 => stk (x4 + 1) (fun x4_21 => k5 x3_20 x4_21)) else if p2 = 1 then bn1 (Mo_of mo x4 7) (fun r_17 => stk (x3 + r_17) (fun x3_18 => stk (x4 + 1) (fun x4_19 => k5 x3_18 x4_19))) else bn1 (Mo_isAir mo x4) (fun r_10 => if r_10 = 0 then stk (x3 + 0) (fun x3_12 => stk (x4 + 1) (fun x4_13 => k5 x3_12 x4_13)) else stk (x3 + 1) (fun x3_14 => stk (x4 + 1) (fun x4_15 => k5 x3_14 x4_15))) else stk (x4 + 1) (fun x4_27 => k5 x3 x4_27)))
def Mo_lineCounts_b5 (mo : Mem) (p1 : Int32) (p2 : Int32) : Nat → Int32 → Int32 → Option (Int32)
  | 0 => fun _ _ => none
  | n + 1 => Mo_lineCounts_b5B mo p1 p2 (Mo_lineCounts_b5 mo p1 p2 n)
def Mo_lineCounts (mo : Mem) (p1 : Int32) (p2 : Int32) : Option (Int32) :=
  Mo_lineCounts_b5 mo p1 p2 fl 0 0
set_option maxHeartbeats 4000000 in
set_option maxRecDepth 100000 in
theorem Mo_lineCounts_b5B_w (C0 : cX RX12 cX12_lineCounts (some .int) 5 p s m args meth c) (hK : kN D cy s) {qmo : Nat → Nat} {mo : Mem} {p1 p2 : Int32} {r : Int32} (hP : va_P D vwCl (w_Mo cy qmo mo) s.heap) {k5 : Int32 → Int32 → Option (Int32)} (hk5 : ∀ (x3 x4 : Int32) (ls : Array Slot), lv_has ls 5 [(0, .ref (qmo 0)), (1, .int p1), (2, .int p2), (3, .int x3), (4, .int x4)] → k5 x3 x4 = some r → W p l e (rmD 3) s m args below meth c s.heap [] 0 0 (qRO below args s r) (F0 m 5 ls [])) {x3 : Int32} {x4 : Int32} {ls : Array Slot} (hl : lv_has ls 5 [(0, .ref (qmo 0)), (1, .int p1), (2, .int p2), (3, .int x3), (4, .int x4)]) (hp : Mo_lineCounts_b5B mo p1 p2 k5 x3 x4 = some r) : W p l e (rmD 3) s m args below meth c s.heap [] 0 0 (qRO below args s r) (F0 m 5 ls []) := by
  obtain ⟨hx, hb, hr, hml, hown, hts, hk⟩ := id C0
  unfold Mo_lineCounts_b5B at hp
  refine lv_iload hx hb dX12_lineCounts_5 (lv_at hl 4 rfl) ?_
  refine lv_aload_n hx hb dX12_lineCounts_7 rfl (lv_at hl 0 rfl) ?_
  refine gf_X12_7 hx hb hts hown hK hP 0 rfl rfl dX12_lineCounts_8 ?_
  refine lv_sipush (v := 173) hx hb dX12_lineCounts_11 (by decide) ?_
  obtain ⟨hi_1, hp⟩ := ckI_s hp
  refine r_ild hx hb hK hP 1 rfl hi_1 dX12_lineCounts_14 ?_
  refine lv_icmp_ge (tgt := 98) hx hb dX12_lineCounts_15 (by decide) (fun c_2 => ?_) (fun c_2 => ?_)
  · have hp := ite_p hp c_2
    refine lv_iload_n hx hb dX12_lineCounts_98 rfl (lv_at hl 3 rfl) ?_
    exact e_ROi hx hb hr hk dX12_lineCounts_99 (Option.some.inj hp)
  · have hp := ite_n hp c_2
    refine lv_aload_n hx hb dX12_lineCounts_18 rfl (lv_at hl 0 rfl) ?_
    refine lv_iload hx hb dX12_lineCounts_19 (lv_at hl 4 rfl) ?_
    refine lv_iconst (v := 0) hx hb dX12_lineCounts_21 (by decide) ?_
    obtain ⟨r_4, hc_3, hp⟩ := bn1_s hp
    refine k_ROV (As := [.int x4, .int 0]) (rest := []) ⟨hx, hb, hml, hown, hts⟩ hK hP (cw_X12_128 hts ⟨Nat.le_of_ble_eq_true rfl, Nat.le_of_ble_eq_true rfl⟩) 0 (ci := 12) rfl rfl rfl (c_X12_of l D cy qmo mo x4 0 r_4 hc_3) rfl hl.1 (Nat.le_of_ble_eq_true rfl) ⟨Nat.le_refl _, Nat.le_refl _⟩ dX12_lineCounts_22 ?_
    refine lv_iload_n hx hb dX12_lineCounts_25 rfl (lv_at hl 1 rfl) ?_
    refine lv_icmp_eq (tgt := 32) hx hb dX12_lineCounts_26 (by decide) (fun c_5 => ?_) (fun c_5 => ?_)
    · have hp := ite_p hp c_5
      refine lv_iload_n hx hb dX12_lineCounts_32 rfl (lv_at hl 2 rfl) ?_
      refine lv_iconst (v := 4) hx hb dX12_lineCounts_33 (by decide) ?_
      refine lv_icmp_ne (tgt := 51) hx hb dX12_lineCounts_34 (by decide) (fun c_6 => ?_) (fun c_6 => ?_)
      · have hp := ite_n hp c_6
        refine lv_iload_n hx hb dX12_lineCounts_51 rfl (lv_at hl 3 rfl) ?_
        refine lv_iload_n hx hb dX12_lineCounts_52 rfl (lv_at hl 2 rfl) ?_
        refine lv_if_ne (tgt := 60) hx hb dX12_lineCounts_53 (by decide) (fun c_7 => ?_) (fun c_7 => ?_)
        · have hp := ite_n hp c_7
          refine lv_iload_n hx hb dX12_lineCounts_60 rfl (lv_at hl 2 rfl) ?_
          refine lv_iconst (v := 1) hx hb dX12_lineCounts_61 (by decide) ?_
          refine lv_icmp_ne (tgt := 76) hx hb dX12_lineCounts_62 (by decide) (fun c_8 => ?_) (fun c_8 => ?_)
          · have hp := ite_n hp c_8
            refine lv_aload_n hx hb dX12_lineCounts_76 rfl (lv_at hl 0 rfl) ?_
            refine lv_iload hx hb dX12_lineCounts_77 (lv_at hl 4 rfl) ?_
            obtain ⟨r_10, hc_9, hp⟩ := bn1_s hp
            refine k_ROV (As := [.int x4]) (rest := [.int x3]) ⟨hx, hb, hml, hown, hts⟩ hK hP (cw_X12_150 hts ⟨Nat.le_of_ble_eq_true rfl, Nat.le_of_ble_eq_true rfl⟩) 0 (ci := 12) rfl rfl rfl (c_X12_isAir l D cy qmo mo x4 r_10 hc_9) rfl hl.1 (Nat.le_of_ble_eq_true rfl) ⟨Nat.le_refl _, Nat.le_refl _⟩ dX12_lineCounts_79 ?_
            refine lv_if_eq (tgt := 89) hx hb dX12_lineCounts_82 (by decide) (fun c_11 => ?_) (fun c_11 => ?_)
            · have hp := ite_p hp c_11
              refine lv_iconst (v := 0) hx hb dX12_lineCounts_89 (by decide) ?_
              refine lv_iadd hx hb dX12_lineCounts_90 ?_
              refine lv_topi (fun x3_12 ex3_12 => ?_)
              have hp := stk_e hp ex3_12
              refine lv_istore_n (lv' := [(3, .int x3_12), (0, .ref (qmo 0)), (1, .int p1), (2, .int p2), (4, .int x4)]) hx hb dX12_lineCounts_91 rfl hl (by decide) rfl (fun ls hl => ?_)
              obtain ⟨x4_13, ex4_13⟩ : ∃ y : Int32, y = x4 + 1 := ⟨_, rfl⟩
              have hp := stk_e hp ex4_13
              refine lv_iinc (v := x4_13) (lv' := [(4, .int x4_13), (3, .int x3_12), (0, .ref (qmo 0)), (1, .int p1), (2, .int p2)]) hx hb dX12_lineCounts_92 hl (k := 4) rfl (by rw [ex4_13]; rfl) (by decide) rfl (fun ls hl => ?_)
              refine lv_goto (tgt := 5) hx hb dX12_lineCounts_95 (by decide) ?_
              exact hk5 x3_12 x4_13 _ (lv_sub hl [2, 3, 4, 1, 0] rfl) hp
            · have hp := ite_n hp c_11
              refine lv_iconst (v := 1) hx hb dX12_lineCounts_85 (by decide) ?_
              refine lv_goto (tgt := 90) hx hb dX12_lineCounts_86 (by decide) ?_
              refine lv_iadd hx hb dX12_lineCounts_90 ?_
              refine lv_topi (fun x3_14 ex3_14 => ?_)
              have hp := stk_e hp ex3_14
              refine lv_istore_n (lv' := [(3, .int x3_14), (0, .ref (qmo 0)), (1, .int p1), (2, .int p2), (4, .int x4)]) hx hb dX12_lineCounts_91 rfl hl (by decide) rfl (fun ls hl => ?_)
              obtain ⟨x4_15, ex4_15⟩ : ∃ y : Int32, y = x4 + 1 := ⟨_, rfl⟩
              have hp := stk_e hp ex4_15
              refine lv_iinc (v := x4_15) (lv' := [(4, .int x4_15), (3, .int x3_14), (0, .ref (qmo 0)), (1, .int p1), (2, .int p2)]) hx hb dX12_lineCounts_92 hl (k := 4) rfl (by rw [ex4_15]; rfl) (by decide) rfl (fun ls hl => ?_)
              refine lv_goto (tgt := 5) hx hb dX12_lineCounts_95 (by decide) ?_
              exact hk5 x3_14 x4_15 _ (lv_sub hl [2, 3, 4, 1, 0] rfl) hp
          · have hp := ite_p hp c_8
            refine lv_aload_n hx hb dX12_lineCounts_65 rfl (lv_at hl 0 rfl) ?_
            refine lv_iload hx hb dX12_lineCounts_66 (lv_at hl 4 rfl) ?_
            refine lv_bipush (v := 7) hx hb dX12_lineCounts_68 (by decide) ?_
            obtain ⟨r_17, hc_16, hp⟩ := bn1_s hp
            refine k_ROV (As := [.int x4, .int 7]) (rest := [.int x3]) ⟨hx, hb, hml, hown, hts⟩ hK hP (cw_X12_128 hts ⟨Nat.le_of_ble_eq_true rfl, Nat.le_of_ble_eq_true rfl⟩) 0 (ci := 12) rfl rfl rfl (c_X12_of l D cy qmo mo x4 7 r_17 hc_16) rfl hl.1 (Nat.le_of_ble_eq_true rfl) ⟨Nat.le_refl _, Nat.le_refl _⟩ dX12_lineCounts_70 ?_
            refine lv_goto (tgt := 90) hx hb dX12_lineCounts_73 (by decide) ?_
            refine lv_iadd hx hb dX12_lineCounts_90 ?_
            refine lv_topi (fun x3_18 ex3_18 => ?_)
            have hp := stk_e hp ex3_18
            refine lv_istore_n (lv' := [(3, .int x3_18), (0, .ref (qmo 0)), (1, .int p1), (2, .int p2), (4, .int x4)]) hx hb dX12_lineCounts_91 rfl hl (by decide) rfl (fun ls hl => ?_)
            obtain ⟨x4_19, ex4_19⟩ : ∃ y : Int32, y = x4 + 1 := ⟨_, rfl⟩
            have hp := stk_e hp ex4_19
            refine lv_iinc (v := x4_19) (lv' := [(4, .int x4_19), (3, .int x3_18), (0, .ref (qmo 0)), (1, .int p1), (2, .int p2)]) hx hb dX12_lineCounts_92 hl (k := 4) rfl (by rw [ex4_19]; rfl) (by decide) rfl (fun ls hl => ?_)
            refine lv_goto (tgt := 5) hx hb dX12_lineCounts_95 (by decide) ?_
            exact hk5 x3_18 x4_19 _ (lv_sub hl [2, 3, 4, 1, 0] rfl) hp
        · have hp := ite_p hp c_7
          refine lv_iconst (v := 1) hx hb dX12_lineCounts_56 (by decide) ?_
          refine lv_goto (tgt := 90) hx hb dX12_lineCounts_57 (by decide) ?_
          refine lv_iadd hx hb dX12_lineCounts_90 ?_
          refine lv_topi (fun x3_20 ex3_20 => ?_)
          have hp := stk_e hp ex3_20
          refine lv_istore_n (lv' := [(3, .int x3_20), (0, .ref (qmo 0)), (1, .int p1), (2, .int p2), (4, .int x4)]) hx hb dX12_lineCounts_91 rfl hl (by decide) rfl (fun ls hl => ?_)
          obtain ⟨x4_21, ex4_21⟩ : ∃ y : Int32, y = x4 + 1 := ⟨_, rfl⟩
          have hp := stk_e hp ex4_21
          refine lv_iinc (v := x4_21) (lv' := [(4, .int x4_21), (3, .int x3_20), (0, .ref (qmo 0)), (1, .int p1), (2, .int p2)]) hx hb dX12_lineCounts_92 hl (k := 4) rfl (by rw [ex4_21]; rfl) (by decide) rfl (fun ls hl => ?_)
          refine lv_goto (tgt := 5) hx hb dX12_lineCounts_95 (by decide) ?_
          exact hk5 x3_20 x4_21 _ (lv_sub hl [2, 3, 4, 1, 0] rfl) hp
      · have hp := ite_p hp c_6
        refine lv_iload_n hx hb dX12_lineCounts_37 rfl (lv_at hl 3 rfl) ?_
        refine lv_aload_n hx hb dX12_lineCounts_38 rfl (lv_at hl 0 rfl) ?_
        refine lv_iload hx hb dX12_lineCounts_39 (lv_at hl 4 rfl) ?_
        obtain ⟨r_23, hc_22, hp⟩ := bn1_s hp
        refine k_ROV (As := [.int x4]) (rest := [.int x3]) ⟨hx, hb, hml, hown, hts⟩ hK hP (cw_X12_194 hts ⟨Nat.le_of_ble_eq_true rfl, Nat.le_of_ble_eq_true rfl⟩) 0 (ci := 12) rfl rfl rfl (c_X12_waits l D cy qmo mo x4 r_23 hc_22) rfl hl.1 (Nat.le_of_ble_eq_true rfl) ⟨Nat.le_refl _, Nat.le_refl _⟩ dX12_lineCounts_41 ?_
        obtain ⟨r_25, hc_24, hp⟩ := bn1_s hp
        refine k_ROS (As := [.int x3, .int r_23]) (rest := []) ⟨hx, hb, hml, hown, hts⟩ hK (show va_P D vwCl [] _ from fun k q h => by simp at h) (cw_X12_141 hts ⟨Nat.le_of_ble_eq_true rfl, Nat.le_of_ble_eq_true rfl⟩) (c_X12_more l D cy x3 r_23 r_25 hc_24) rfl hl.1 (Nat.le_of_ble_eq_true rfl) ⟨Nat.le_refl _, Nat.le_refl _⟩ dX12_lineCounts_44 ?_
        refine lv_istore_n (lv' := [(3, .int r_25), (0, .ref (qmo 0)), (1, .int p1), (2, .int p2), (4, .int x4)]) hx hb dX12_lineCounts_47 rfl hl (by decide) rfl (fun ls hl => ?_)
        refine lv_goto (tgt := 92) hx hb dX12_lineCounts_48 (by decide) ?_
        obtain ⟨x4_26, ex4_26⟩ : ∃ y : Int32, y = x4 + 1 := ⟨_, rfl⟩
        have hp := stk_e hp ex4_26
        refine lv_iinc (v := x4_26) (lv' := [(4, .int x4_26), (3, .int r_25), (0, .ref (qmo 0)), (1, .int p1), (2, .int p2)]) hx hb dX12_lineCounts_92 hl (k := 4) rfl (by rw [ex4_26]; rfl) (by decide) rfl (fun ls hl => ?_)
        refine lv_goto (tgt := 5) hx hb dX12_lineCounts_95 (by decide) ?_
        exact hk5 r_25 x4_26 _ (lv_sub hl [2, 3, 4, 1, 0] rfl) hp
    · have hp := ite_n hp c_5
      refine lv_goto (tgt := 92) hx hb dX12_lineCounts_29 (by decide) ?_
      obtain ⟨x4_27, ex4_27⟩ : ∃ y : Int32, y = x4 + 1 := ⟨_, rfl⟩
      have hp := stk_e hp ex4_27
      refine lv_iinc (v := x4_27) (lv' := [(4, .int x4_27), (0, .ref (qmo 0)), (1, .int p1), (2, .int p2), (3, .int x3)]) hx hb dX12_lineCounts_92 hl (k := 4) rfl (by rw [ex4_27]; rfl) (by decide) rfl (fun ls hl => ?_)
      refine lv_goto (tgt := 5) hx hb dX12_lineCounts_95 (by decide) ?_
      exact hk5 x3 x4_27 _ (lv_sub hl [1, 2, 3, 4, 0] rfl) hp
theorem Mo_lineCounts_b5_w (C0 : cX RX12 cX12_lineCounts (some .int) 5 p s m args meth c) (hK : kN D cy s) {qmo : Nat → Nat} {mo : Mem} {p1 p2 : Int32} {r : Int32} (hP : va_P D vwCl (w_Mo cy qmo mo) s.heap) : ∀ (n : Nat) (x3 x4 : Int32) (ls : Array Slot), lv_has ls 5 [(0, .ref (qmo 0)), (1, .int p1), (2, .int p2), (3, .int x3), (4, .int x4)] → Mo_lineCounts_b5 mo p1 p2 n x3 x4 = some r → W p l e (rmD 3) s m args below meth c s.heap [] 0 0 (qRO below args s r) (F0 m 5 ls []) := by
  intro n
  induction n with
  | zero =>
    intro x3 x4 ls hl hp
    cases hp
  | succ n ih =>
    intro x3 x4 ls hl hp
    exact Mo_lineCounts_b5B_w C0 hK hP  (fun x3 x4 ls hl hp => ih x3 x4 ls hl hp) hl hp
set_option maxHeartbeats 4000000 in
set_option maxRecDepth 100000 in
theorem c_X12_lineCounts (l : Launch) (D : va_G) (cy : Nat → ClassId) (qmo : Nat → Nat) (mo : Mem) (p1 p2 : Int32) (r : Int32) (hp : Mo_lineCounts mo p1 p2 = some r) : RO l yX12_lineCounts cX12_lineCounts 5 (some .int) 3 D cy [.ref (qmo 0), .int p1, .int p2] (w_Mo cy qmo mo) r := by
  refine RO_of RX12 rfl (by decide) (Nat.le_of_ble_eq_true rfl) ?_
  intro p e s m below meth c C0 hK hP ls hl
  obtain ⟨hx, hb, hr, hml, hown, hts, hk⟩ := id C0
  unfold Mo_lineCounts at hp
  have hl : lv_has ls 5 [(0, .ref (qmo 0)), (1, .int p1), (2, .int p2)] := hl
  refine lv_iconst (v := 0) hx hb dX12_lineCounts_0 (by decide) ?_
  refine lv_istore_n (lv' := [(3, .int 0), (0, .ref (qmo 0)), (1, .int p1), (2, .int p2)]) hx hb dX12_lineCounts_1 rfl hl (by decide) rfl (fun ls hl => ?_)
  refine lv_iconst (v := 0) hx hb dX12_lineCounts_2 (by decide) ?_
  refine lv_istore (lv' := [(4, .int 0), (3, .int 0), (0, .ref (qmo 0)), (1, .int p1), (2, .int p2)]) hx hb dX12_lineCounts_3 hl (by decide) rfl (fun ls hl => ?_)
  exact Mo_lineCounts_b5_w C0 hK hP  fl 0 0 _ (lv_sub hl [2, 3, 4, 1, 0] rfl) hp
/-! StormSlotsModel.keeps(I)I -/
def Mo_keeps_b4B (mo : Mem) (p1 : Int32) (k4 : Int32 → Int32 → Option (Int32)) (x2 : Int32) (x3 : Int32) : Option (Int32) :=
  if 1200 ≤ x3 then some x2 else ckI (252 + x3) 1452 (if (mo 0 (252 + x3).toNatClampNeg) = (p1 + 1) then stk (x2 + 1) (fun x2_6 => stk (x3 + 1) (fun x3_7 => k4 x2_6 x3_7)) else stk (x2 + 0) (fun x2_4 => stk (x3 + 1) (fun x3_5 => k4 x2_4 x3_5)))
def Mo_keeps_b4 (mo : Mem) (p1 : Int32) : Nat → Int32 → Int32 → Option (Int32)
  | 0 => fun _ _ => none
  | n + 1 => Mo_keeps_b4B mo p1 (Mo_keeps_b4 mo p1 n)
def Mo_keeps (mo : Mem) (p1 : Int32) : Option (Int32) :=
  Mo_keeps_b4 mo p1 fl 0 0
set_option maxHeartbeats 4000000 in
set_option maxRecDepth 100000 in
theorem Mo_keeps_b4B_w (C0 : cX RX12 cX12_keeps (some .int) 4 p s m args meth c) (hK : kN D cy s) {qmo : Nat → Nat} {mo : Mem} {p1 : Int32} {r : Int32} (hP : va_P D vwCl (w_Mo cy qmo mo) s.heap) {k4 : Int32 → Int32 → Option (Int32)} (hk4 : ∀ (x2 x3 : Int32) (ls : Array Slot), lv_has ls 4 [(0, .ref (qmo 0)), (1, .int p1), (2, .int x2), (3, .int x3)] → k4 x2 x3 = some r → W p l e (rmD 0) s m args below meth c s.heap [] 0 0 (qRO below args s r) (F0 m 4 ls [])) {x2 : Int32} {x3 : Int32} {ls : Array Slot} (hl : lv_has ls 4 [(0, .ref (qmo 0)), (1, .int p1), (2, .int x2), (3, .int x3)]) (hp : Mo_keeps_b4B mo p1 k4 x2 x3 = some r) : W p l e (rmD 0) s m args below meth c s.heap [] 0 0 (qRO below args s r) (F0 m 4 ls []) := by
  obtain ⟨hx, hb, hr, hml, hown, hts, hk⟩ := id C0
  unfold Mo_keeps_b4B at hp
  refine lv_iload_n hx hb dX12_keeps_4 rfl (lv_at hl 3 rfl) ?_
  refine lv_sipush (v := 1200) hx hb dX12_keeps_5 (by decide) ?_
  refine lv_icmp_ge (tgt := 41) hx hb dX12_keeps_8 (by decide) (fun c_1 => ?_) (fun c_1 => ?_)
  · have hp := ite_p hp c_1
    refine lv_iload_n hx hb dX12_keeps_41 rfl (lv_at hl 2 rfl) ?_
    exact e_ROi hx hb hr hk dX12_keeps_42 (Option.some.inj hp)
  · have hp := ite_n hp c_1
    refine lv_iload_n hx hb dX12_keeps_11 rfl (lv_at hl 2 rfl) ?_
    refine lv_aload_n hx hb dX12_keeps_12 rfl (lv_at hl 0 rfl) ?_
    refine gf_X12_7 hx hb hts hown hK hP 0 rfl rfl dX12_keeps_13 ?_
    refine lv_sipush (v := 252) hx hb dX12_keeps_16 (by decide) ?_
    refine lv_iload_n hx hb dX12_keeps_19 rfl (lv_at hl 3 rfl) ?_
    refine lv_iadd hx hb dX12_keeps_20 ?_
    obtain ⟨hi_2, hp⟩ := ckI_s hp
    refine r_ild hx hb hK hP 1 rfl hi_2 dX12_keeps_21 ?_
    refine lv_iload_n hx hb dX12_keeps_22 rfl (lv_at hl 1 rfl) ?_
    refine lv_iconst (v := 1) hx hb dX12_keeps_23 (by decide) ?_
    refine lv_iadd hx hb dX12_keeps_24 ?_
    refine lv_icmp_ne (tgt := 32) hx hb dX12_keeps_25 (by decide) (fun c_3 => ?_) (fun c_3 => ?_)
    · have hp := ite_n hp c_3
      refine lv_iconst (v := 0) hx hb dX12_keeps_32 (by decide) ?_
      refine lv_iadd hx hb dX12_keeps_33 ?_
      refine lv_topi (fun x2_4 ex2_4 => ?_)
      have hp := stk_e hp ex2_4
      refine lv_istore_n (lv' := [(2, .int x2_4), (0, .ref (qmo 0)), (1, .int p1), (3, .int x3)]) hx hb dX12_keeps_34 rfl hl (by decide) rfl (fun ls hl => ?_)
      obtain ⟨x3_5, ex3_5⟩ : ∃ y : Int32, y = x3 + 1 := ⟨_, rfl⟩
      have hp := stk_e hp ex3_5
      refine lv_iinc (v := x3_5) (lv' := [(3, .int x3_5), (2, .int x2_4), (0, .ref (qmo 0)), (1, .int p1)]) hx hb dX12_keeps_35 hl (k := 3) rfl (by rw [ex3_5]; rfl) (by decide) rfl (fun ls hl => ?_)
      refine lv_goto (tgt := 4) hx hb dX12_keeps_38 (by decide) ?_
      exact hk4 x2_4 x3_5 _ (lv_sub hl [2, 3, 1, 0] rfl) hp
    · have hp := ite_p hp c_3
      refine lv_iconst (v := 1) hx hb dX12_keeps_28 (by decide) ?_
      refine lv_goto (tgt := 33) hx hb dX12_keeps_29 (by decide) ?_
      refine lv_iadd hx hb dX12_keeps_33 ?_
      refine lv_topi (fun x2_6 ex2_6 => ?_)
      have hp := stk_e hp ex2_6
      refine lv_istore_n (lv' := [(2, .int x2_6), (0, .ref (qmo 0)), (1, .int p1), (3, .int x3)]) hx hb dX12_keeps_34 rfl hl (by decide) rfl (fun ls hl => ?_)
      obtain ⟨x3_7, ex3_7⟩ : ∃ y : Int32, y = x3 + 1 := ⟨_, rfl⟩
      have hp := stk_e hp ex3_7
      refine lv_iinc (v := x3_7) (lv' := [(3, .int x3_7), (2, .int x2_6), (0, .ref (qmo 0)), (1, .int p1)]) hx hb dX12_keeps_35 hl (k := 3) rfl (by rw [ex3_7]; rfl) (by decide) rfl (fun ls hl => ?_)
      refine lv_goto (tgt := 4) hx hb dX12_keeps_38 (by decide) ?_
      exact hk4 x2_6 x3_7 _ (lv_sub hl [2, 3, 1, 0] rfl) hp
theorem Mo_keeps_b4_w (C0 : cX RX12 cX12_keeps (some .int) 4 p s m args meth c) (hK : kN D cy s) {qmo : Nat → Nat} {mo : Mem} {p1 : Int32} {r : Int32} (hP : va_P D vwCl (w_Mo cy qmo mo) s.heap) : ∀ (n : Nat) (x2 x3 : Int32) (ls : Array Slot), lv_has ls 4 [(0, .ref (qmo 0)), (1, .int p1), (2, .int x2), (3, .int x3)] → Mo_keeps_b4 mo p1 n x2 x3 = some r → W p l e (rmD 0) s m args below meth c s.heap [] 0 0 (qRO below args s r) (F0 m 4 ls []) := by
  intro n
  induction n with
  | zero =>
    intro x2 x3 ls hl hp
    cases hp
  | succ n ih =>
    intro x2 x3 ls hl hp
    exact Mo_keeps_b4B_w C0 hK hP  (fun x2 x3 ls hl hp => ih x2 x3 ls hl hp) hl hp
set_option maxHeartbeats 4000000 in
set_option maxRecDepth 100000 in
theorem c_X12_keeps (l : Launch) (D : va_G) (cy : Nat → ClassId) (qmo : Nat → Nat) (mo : Mem) (p1 : Int32) (r : Int32) (hp : Mo_keeps mo p1 = some r) : RO l yX12_keeps cX12_keeps 4 (some .int) 0 D cy [.ref (qmo 0), .int p1] (w_Mo cy qmo mo) r := by
  refine RO_of RX12 rfl (by decide) (Nat.le_of_ble_eq_true rfl) ?_
  intro p e s m below meth c C0 hK hP ls hl
  obtain ⟨hx, hb, hr, hml, hown, hts, hk⟩ := id C0
  unfold Mo_keeps at hp
  have hl : lv_has ls 4 [(0, .ref (qmo 0)), (1, .int p1)] := hl
  refine lv_iconst (v := 0) hx hb dX12_keeps_0 (by decide) ?_
  refine lv_istore_n (lv' := [(2, .int 0), (0, .ref (qmo 0)), (1, .int p1)]) hx hb dX12_keeps_1 rfl hl (by decide) rfl (fun ls hl => ?_)
  refine lv_iconst (v := 0) hx hb dX12_keeps_2 (by decide) ?_
  refine lv_istore_n (lv' := [(3, .int 0), (2, .int 0), (0, .ref (qmo 0)), (1, .int p1)]) hx hb dX12_keeps_3 rfl hl (by decide) rfl (fun ls hl => ?_)
  exact Mo_keeps_b4_w C0 hK hP  fl 0 0 _ (lv_sub hl [2, 3, 1, 0] rfl) hp
/-! StormSlotsModel.line(II)I -/
def Mo_line (mo : Mem) (p1 : Int32) (p2 : Int32) : Option (Int32) :=
  bn1 (Mo_isLine p1) (fun r_2 => if r_2 = 0 then some (-1) else bn1 (Mo_in p2 0 6) (fun r_5 => if r_5 = 0 then some (-1) else if p2 = 2 then bn1 (Mo_lineWaits mo p1) (fun r_9 => some r_9) else if p2 = 3 then bn1 (Mo_lineCost mo p1) (fun r_12 => some r_12) else if p2 = 4 then bn1 (Mo_lineCounts mo p1 p2) (fun r_15 => some r_15) else if p2 = 5 then bn1 (Mo_keeps mo p1) (fun r_18 => some r_18) else bn1 (Mo_lineCounts mo p1 p2) (fun r_20 => some r_20)))
set_option maxHeartbeats 4000000 in
set_option maxRecDepth 100000 in
theorem c_X12_line (l : Launch) (D : va_G) (cy : Nat → ClassId) (qmo : Nat → Nat) (mo : Mem) (p1 p2 : Int32) (r : Int32) (hp : Mo_line mo p1 p2 = some r) : RO l yX12_line cX12_line 3 (some .int) 4 D cy [.ref (qmo 0), .int p1, .int p2] (w_Mo cy qmo mo) r := by
  refine RO_of RX12 rfl (by decide) (Nat.le_of_ble_eq_true rfl) ?_
  intro p e s m below meth c C0 hK hP ls hl
  obtain ⟨hx, hb, hr, hml, hown, hts, hk⟩ := id C0
  unfold Mo_line at hp
  have hl : lv_has ls 3 [(0, .ref (qmo 0)), (1, .int p1), (2, .int p2)] := hl
  refine lv_iload_n hx hb dX12_line_0 rfl (lv_at hl 1 rfl) ?_
  obtain ⟨r_2, hc_1, hp⟩ := bn1_s hp
  refine k_ROS (As := [.int p1]) (rest := []) ⟨hx, hb, hml, hown, hts⟩ hK (show va_P D vwCl [] _ from fun k q h => by simp at h) (cw_X12_104 hts ⟨Nat.le_of_ble_eq_true rfl, Nat.le_of_ble_eq_true rfl⟩) (c_X12_isLine l D cy p1 r_2 hc_1) rfl hl.1 (Nat.le_of_ble_eq_true rfl) ⟨Nat.le_refl _, Nat.le_refl _⟩ dX12_line_1 ?_
  refine lv_if_eq (tgt := 17) hx hb dX12_line_4 (by decide) (fun c_3 => ?_) (fun c_3 => ?_)
  · have hp := ite_p hp c_3
    refine lv_iconst (v := (-1)) hx hb dX12_line_17 (by decide) ?_
    exact e_ROi hx hb hr hk dX12_line_18 (Option.some.inj hp)
  · have hp := ite_n hp c_3
    refine lv_iload_n hx hb dX12_line_7 rfl (lv_at hl 2 rfl) ?_
    refine lv_iconst (v := 0) hx hb dX12_line_8 (by decide) ?_
    refine lv_bipush (v := 6) hx hb dX12_line_9 (by decide) ?_
    obtain ⟨r_5, hc_4, hp⟩ := bn1_s hp
    refine k_ROS (As := [.int p2, .int 0, .int 6]) (rest := []) ⟨hx, hb, hml, hown, hts⟩ hK (show va_P D vwCl [] _ from fun k q h => by simp at h) (cw_X12_45 hts ⟨Nat.le_of_ble_eq_true rfl, Nat.le_of_ble_eq_true rfl⟩) (c_X12_in l D cy p2 0 6 r_5 hc_4) rfl hl.1 (Nat.le_of_ble_eq_true rfl) ⟨Nat.le_refl _, Nat.le_refl _⟩ dX12_line_11 ?_
    refine lv_if_ne (tgt := 19) hx hb dX12_line_14 (by decide) (fun c_6 => ?_) (fun c_6 => ?_)
    · have hp := ite_n hp c_6
      refine lv_iload_n hx hb dX12_line_19 rfl (lv_at hl 2 rfl) ?_
      by_cases c_7 : p2 = 2
      · have hp := ite_p hp c_7
        refine r_tab (tgt := 52) (off := 32) 2 hx hb dX12_line_20 c_7 (by decide) (by decide) ?_
        refine lv_aload_n hx hb dX12_line_52 rfl (lv_at hl 0 rfl) ?_
        refine lv_iload_n hx hb dX12_line_53 rfl (lv_at hl 1 rfl) ?_
        obtain ⟨r_9, hc_8, hp⟩ := bn1_s hp
        refine k_ROV (As := [.int p1]) (rest := []) ⟨hx, hb, hml, hown, hts⟩ hK hP (cw_X12_249 hts ⟨Nat.le_of_ble_eq_true rfl, Nat.le_of_ble_eq_true rfl⟩) 0 (ci := 12) rfl rfl rfl (c_X12_lineWaits l D cy qmo mo p1 r_9 hc_8) rfl hl.1 (Nat.le_of_ble_eq_true rfl) ⟨Nat.le_refl _, Nat.le_refl _⟩ dX12_line_54 ?_
        exact e_ROi hx hb hr hk dX12_line_57 (Option.some.inj hp)
      have hp := ite_n hp c_7
      by_cases c_10 : p2 = 3
      · have hp := ite_p hp c_10
        refine r_tab (tgt := 58) (off := 38) 3 hx hb dX12_line_20 c_10 (by decide) (by decide) ?_
        refine lv_aload_n hx hb dX12_line_58 rfl (lv_at hl 0 rfl) ?_
        refine lv_iload_n hx hb dX12_line_59 rfl (lv_at hl 1 rfl) ?_
        obtain ⟨r_12, hc_11, hp⟩ := bn1_s hp
        refine k_ROV (As := [.int p1]) (rest := []) ⟨hx, hb, hml, hown, hts⟩ hK hP (cw_X12_252 hts ⟨Nat.le_of_ble_eq_true rfl, Nat.le_of_ble_eq_true rfl⟩) 0 (ci := 12) rfl rfl rfl (c_X12_lineCost l D cy qmo mo p1 r_12 hc_11) rfl hl.1 (Nat.le_of_ble_eq_true rfl) ⟨Nat.le_refl _, Nat.le_refl _⟩ dX12_line_60 ?_
        exact e_ROi hx hb hr hk dX12_line_63 (Option.some.inj hp)
      have hp := ite_n hp c_10
      by_cases c_13 : p2 = 4
      · have hp := ite_p hp c_13
        refine r_tab (tgt := 70) (off := 50) 4 hx hb dX12_line_20 c_13 (by decide) (by decide) ?_
        refine lv_aload_n hx hb dX12_line_70 rfl (lv_at hl 0 rfl) ?_
        refine lv_iload_n hx hb dX12_line_71 rfl (lv_at hl 1 rfl) ?_
        refine lv_iload_n hx hb dX12_line_72 rfl (lv_at hl 2 rfl) ?_
        obtain ⟨r_15, hc_14, hp⟩ := bn1_s hp
        refine k_ROV (As := [.int p1, .int p2]) (rest := []) ⟨hx, hb, hml, hown, hts⟩ hK hP (cw_X12_258 hts ⟨Nat.le_of_ble_eq_true rfl, Nat.le_of_ble_eq_true rfl⟩) 0 (ci := 12) rfl rfl rfl (c_X12_lineCounts l D cy qmo mo p1 p2 r_15 hc_14) rfl hl.1 (Nat.le_of_ble_eq_true rfl) ⟨Nat.le_refl _, Nat.le_refl _⟩ dX12_line_73 ?_
        exact e_ROi hx hb hr hk dX12_line_76 (Option.some.inj hp)
      have hp := ite_n hp c_13
      by_cases c_16 : p2 = 5
      · have hp := ite_p hp c_16
        refine r_tab (tgt := 64) (off := 44) 5 hx hb dX12_line_20 c_16 (by decide) (by decide) ?_
        refine lv_aload_n hx hb dX12_line_64 rfl (lv_at hl 0 rfl) ?_
        refine lv_iload_n hx hb dX12_line_65 rfl (lv_at hl 1 rfl) ?_
        obtain ⟨r_18, hc_17, hp⟩ := bn1_s hp
        refine k_ROV (As := [.int p1]) (rest := []) ⟨hx, hb, hml, hown, hts⟩ hK hP (cw_X12_255 hts ⟨Nat.le_of_ble_eq_true rfl, Nat.le_of_ble_eq_true rfl⟩) 0 (ci := 12) rfl rfl rfl (c_X12_keeps l D cy qmo mo p1 r_18 hc_17) rfl hl.1 (Nat.le_of_ble_eq_true rfl) ⟨Nat.le_refl _, Nat.le_refl _⟩ dX12_line_66 ?_
        exact e_ROi hx hb hr hk dX12_line_69 (Option.some.inj hp)
      have hp := ite_n hp c_16
      refine lv_tableOut (tgt := 70) hx hb dX12_line_20 (by have zc_7 : (p2).toInt ≠ 2 := ne_toInt c_7; have zc_10 : (p2).toInt ≠ 3 := ne_toInt c_10; have zc_13 : (p2).toInt ≠ 4 := ne_toInt c_13; have zc_16 : (p2).toInt ≠ 5 := ne_toInt c_16; omega) (by decide) ?_
      refine lv_aload_n hx hb dX12_line_70 rfl (lv_at hl 0 rfl) ?_
      refine lv_iload_n hx hb dX12_line_71 rfl (lv_at hl 1 rfl) ?_
      refine lv_iload_n hx hb dX12_line_72 rfl (lv_at hl 2 rfl) ?_
      obtain ⟨r_20, hc_19, hp⟩ := bn1_s hp
      refine k_ROV (As := [.int p1, .int p2]) (rest := []) ⟨hx, hb, hml, hown, hts⟩ hK hP (cw_X12_258 hts ⟨Nat.le_of_ble_eq_true rfl, Nat.le_of_ble_eq_true rfl⟩) 0 (ci := 12) rfl rfl rfl (c_X12_lineCounts l D cy qmo mo p1 p2 r_20 hc_19) rfl hl.1 (Nat.le_of_ble_eq_true rfl) ⟨Nat.le_refl _, Nat.le_refl _⟩ dX12_line_73 ?_
      exact e_ROi hx hb hr hk dX12_line_76 (Option.some.inj hp)
    · have hp := ite_p hp c_6
      refine lv_iconst (v := (-1)) hx hb dX12_line_17 (by decide) ?_
      exact e_ROi hx hb hr hk dX12_line_18 (Option.some.inj hp)
/-! StormSlotsModel.laysTraders(I)V -/
def Mo_laysTraders_b106 (p1 : Int32) (k7 : Mem → Int32 → Option (Mem)) (mo : Mem) (x2 : Int32) (x3 : Int32) : Option (Mem) :=
  bn1 (Mo_of mo x2 4) (fun r_25 => ckI x3 6 (stk (upm mo 17 x3.toNatClampNeg r_25) (fun mo_27 => stk (upm mo_27 20 0 ((mo_27 20 0) + 1)) (fun mo_28 => stk (x2 + 1) (fun x2_29 => k7 mo_28 x2_29)))))
def Mo_laysTraders_b64B (p1 : Int32) (k7 : Mem → Int32 → Option (Mem)) (k64 : Mem → Int32 → Int32 → Option (Mem)) (mo : Mem) (x2 : Int32) (x3 : Int32) : Option (Mem) :=
  if x3 ≤ 0 then Mo_laysTraders_b106 p1 k7 mo x2 x3 else ckI (x3 - 1) 6 (bn1 (Mo_of mo x2 4) (fun r_19 => if (mo 17 (x3 - 1).toNatClampNeg) ≤ r_19 then Mo_laysTraders_b106 p1 k7 mo x2 x3 else ckI x3 6 (stk (upm mo 17 x3.toNatClampNeg (mo 17 (x3 - 1).toNatClampNeg)) (fun mo_22 => stk (x3 - 1) (fun x3_23 => k64 mo_22 x2 x3_23)))))
def Mo_laysTraders_b64 (p1 : Int32) (k7 : Mem → Int32 → Option (Mem)) : Nat → Mem → Int32 → Int32 → Option (Mem)
  | 0 => fun _ _ _ => none
  | n + 1 => Mo_laysTraders_b64B p1 k7 (Mo_laysTraders_b64 p1 k7 n)
def Mo_laysTraders_b7B (p1 : Int32) (k7 : Mem → Int32 → Option (Mem)) (mo : Mem) (x2 : Int32) : Option (Mem) :=
  ckI 173 1452 (if (mo 0 (173 : Int32).toNatClampNeg) ≤ x2 then some mo else if 6 ≤ (mo 20 0) then some mo else bn1 (Mo_of mo x2 0) (fun r_6 => if r_6 = p1 then bn1 (Mo_isGround mo x2) (fun r_10 => if r_10 = 0 then stk (x2 + 1) (fun x2_15 => k7 mo x2_15) else ckI (mo 20 0) 6 (stk (upm mo 16 (mo 20 0).toNatClampNeg x2) (fun mo_13 => stk (mo_13 20 0) (fun x3_14 => Mo_laysTraders_b64 p1 k7 fl mo_13 x2 x3_14)))) else stk (x2 + 1) (fun x2_8 => k7 mo x2_8)))
def Mo_laysTraders_b7 (p1 : Int32) : Nat → Mem → Int32 → Option (Mem)
  | 0 => fun _ _ => none
  | n + 1 => Mo_laysTraders_b7B p1 (Mo_laysTraders_b7 p1 n)
def Mo_laysTraders (mo : Mem) (p1 : Int32) : Option (Mem) :=
  stk (upm mo 20 0 0) (fun mo_1 => Mo_laysTraders_b7 p1 fl mo_1 0)
set_option maxHeartbeats 4000000 in
set_option maxRecDepth 100000 in
theorem Mo_laysTraders_b106_w (C0 : cX RX12 cX12_laysTraders none 4 p s m args meth c) (hK : kN D cy s) {qmo : Nat → Nat} {p1 : Int32} {mo' : Mem} (hA : ∀ q, s.heap.size ≤ q → A q) {k7 : Mem → Int32 → Option (Mem)} (hk7 : ∀ (mo : Mem) (x2 : Int32) (H : Heap) (locs : List Loc) (ls : Array Slot), va_P D vwCl (w_Mo cy qmo mo) H → va_D A (w_Mo cy qmo mo) → va_S A s.heap H locs → lv_has ls 4 [(0, .ref (qmo 0)), (1, .int p1), (2, .int x2)] → k7 mo x2 = some mo' → W p l e (rmD 4) s m args below meth c H locs 0 0 (qRV D below args s A (w_Mo cy qmo mo')) (F0 m 7 ls [])) {mo : Mem} {x2 : Int32} {x3 : Int32} {H : Heap} {locs : List Loc} (hP : va_P D vwCl (w_Mo cy qmo mo) H) (hD : va_D A (w_Mo cy qmo mo)) (hS : va_S A s.heap H locs) {ls : Array Slot} (hl : lv_has ls 4 [(0, .ref (qmo 0)), (1, .int p1), (2, .int x2), (3, .int x3)]) (hp : Mo_laysTraders_b106 p1 k7 mo x2 x3 = some mo') : W p l e (rmD 4) s m args below meth c H locs 0 0 (qRV D below args s A (w_Mo cy qmo mo')) (F0 m 106 ls []) := by
  obtain ⟨hx, hb, hr, hml, hown, hts, hk⟩ := id C0
  unfold Mo_laysTraders_b106 at hp
  refine lv_aload_n hx hb dX12_laysTraders_106 rfl (lv_at hl 0 rfl) ?_
  refine gf_X12_36 hx hb hts hown hK hP 0 rfl rfl dX12_laysTraders_107 ?_
  refine lv_iload_n hx hb dX12_laysTraders_110 rfl (lv_at hl 3 rfl) ?_
  refine lv_aload_n hx hb dX12_laysTraders_111 rfl (lv_at hl 0 rfl) ?_
  refine lv_iload_n hx hb dX12_laysTraders_112 rfl (lv_at hl 2 rfl) ?_
  refine lv_iconst (v := 4) hx hb dX12_laysTraders_113 (by decide) ?_
  obtain ⟨r_25, hc_24, hp⟩ := bn1_s hp
  refine k_ROV (As := [.int x2, .int 4]) (rest := [.int x3, .ref (qmo 18)]) ⟨hx, hb, hml, hown, hts⟩ hK hP (cw_X12_128 hts ⟨Nat.le_of_ble_eq_true rfl, Nat.le_of_ble_eq_true rfl⟩) 0 (ci := 12) rfl rfl rfl (c_X12_of l D cy qmo mo x2 4 r_25 hc_24) rfl hl.1 (Nat.le_of_ble_eq_true rfl) ⟨Nat.le_refl _, Nat.le_refl _⟩ dX12_laysTraders_114 ?_
  obtain ⟨hi_26, hp⟩ := ckI_s hp
  obtain ⟨mo_27, emo_27⟩ : ∃ y : Mem, y = upm mo 17 x3.toNatClampNeg r_25 := ⟨_, rfl⟩
  have hp := stk_e hp emo_27
  refine r_ist hx hb hK hP hD hS (wn := (w_Mo cy qmo mo_27)) 9 rfl hi_26 (by subst emo_27; rfl) dX12_laysTraders_117 (fun H locs hP hD hS => ?_)
  refine lv_aload_n hx hb dX12_laysTraders_118 rfl (lv_at hl 0 rfl) ?_
  refine lv_aload_n hx hb dX12_laysTraders_119 rfl (lv_at hl 0 rfl) ?_
  refine gf_X12_261 hx hb hts hown hK hP 0 rfl rfl dX12_laysTraders_120 ?_
  refine lv_iconst (v := 1) hx hb dX12_laysTraders_123 (by decide) ?_
  refine lv_iadd hx hb dX12_laysTraders_124 ?_
  obtain ⟨mo_28, emo_28⟩ : ∃ y : Mem, y = upm mo_27 20 0 ((mo_27 20 0) + 1) := ⟨_, rfl⟩
  have hp := stk_e hp emo_28
  refine pf_X12_261 hx hb hts hown hK hP hD hS (wn := (w_Mo cy qmo mo_28)) 0 rfl (Nat.le_of_ble_eq_true rfl) (by subst emo_28; rfl) dX12_laysTraders_125 (fun H locs hP hD hS => ?_)
  obtain ⟨x2_29, ex2_29⟩ : ∃ y : Int32, y = x2 + 1 := ⟨_, rfl⟩
  have hp := stk_e hp ex2_29
  refine lv_iinc (v := x2_29) (lv' := [(2, .int x2_29), (0, .ref (qmo 0)), (1, .int p1), (3, .int x3)]) hx hb dX12_laysTraders_128 hl (k := 2) rfl (by rw [ex2_29]; rfl) (by decide) rfl (fun ls hl => ?_)
  refine lv_goto (tgt := 7) hx hb dX12_laysTraders_131 (by decide) ?_
  exact hk7 mo_28 x2_29 _ _ _ hP hD hS (lv_sub hl [1, 2, 0] rfl) hp
set_option maxHeartbeats 4000000 in
set_option maxRecDepth 100000 in
theorem Mo_laysTraders_b64B_w (C0 : cX RX12 cX12_laysTraders none 4 p s m args meth c) (hK : kN D cy s) {qmo : Nat → Nat} {p1 : Int32} {mo' : Mem} (hA : ∀ q, s.heap.size ≤ q → A q) {k7 : Mem → Int32 → Option (Mem)} (hk7 : ∀ (mo : Mem) (x2 : Int32) (H : Heap) (locs : List Loc) (ls : Array Slot), va_P D vwCl (w_Mo cy qmo mo) H → va_D A (w_Mo cy qmo mo) → va_S A s.heap H locs → lv_has ls 4 [(0, .ref (qmo 0)), (1, .int p1), (2, .int x2)] → k7 mo x2 = some mo' → W p l e (rmD 4) s m args below meth c H locs 0 0 (qRV D below args s A (w_Mo cy qmo mo')) (F0 m 7 ls [])) {k64 : Mem → Int32 → Int32 → Option (Mem)} (hk64 : ∀ (mo : Mem) (x2 x3 : Int32) (H : Heap) (locs : List Loc) (ls : Array Slot), va_P D vwCl (w_Mo cy qmo mo) H → va_D A (w_Mo cy qmo mo) → va_S A s.heap H locs → lv_has ls 4 [(0, .ref (qmo 0)), (1, .int p1), (2, .int x2), (3, .int x3)] → k64 mo x2 x3 = some mo' → W p l e (rmD 4) s m args below meth c H locs 0 0 (qRV D below args s A (w_Mo cy qmo mo')) (F0 m 64 ls [])) {mo : Mem} {x2 : Int32} {x3 : Int32} {H : Heap} {locs : List Loc} (hP : va_P D vwCl (w_Mo cy qmo mo) H) (hD : va_D A (w_Mo cy qmo mo)) (hS : va_S A s.heap H locs) {ls : Array Slot} (hl : lv_has ls 4 [(0, .ref (qmo 0)), (1, .int p1), (2, .int x2), (3, .int x3)]) (hp : Mo_laysTraders_b64B p1 k7 k64 mo x2 x3 = some mo') : W p l e (rmD 4) s m args below meth c H locs 0 0 (qRV D below args s A (w_Mo cy qmo mo')) (F0 m 64 ls []) := by
  obtain ⟨hx, hb, hr, hml, hown, hts, hk⟩ := id C0
  unfold Mo_laysTraders_b64B at hp
  refine lv_iload_n hx hb dX12_laysTraders_64 rfl (lv_at hl 3 rfl) ?_
  refine lv_if_le (tgt := 106) hx hb dX12_laysTraders_65 (by decide) (fun c_16 => ?_) (fun c_16 => ?_)
  · have hp := ite_p hp c_16
    exact Mo_laysTraders_b106_w C0 hK hA hk7 hP hD hS hl hp
  · have hp := ite_n hp c_16
    refine lv_aload_n hx hb dX12_laysTraders_68 rfl (lv_at hl 0 rfl) ?_
    refine gf_X12_36 hx hb hts hown hK hP 0 rfl rfl dX12_laysTraders_69 ?_
    refine lv_iload_n hx hb dX12_laysTraders_72 rfl (lv_at hl 3 rfl) ?_
    refine lv_iconst (v := 1) hx hb dX12_laysTraders_73 (by decide) ?_
    refine lv_isub hx hb dX12_laysTraders_74 ?_
    obtain ⟨hi_17, hp⟩ := ckI_s hp
    refine r_ild hx hb hK hP 9 rfl hi_17 dX12_laysTraders_75 ?_
    refine lv_aload_n hx hb dX12_laysTraders_76 rfl (lv_at hl 0 rfl) ?_
    refine lv_iload_n hx hb dX12_laysTraders_77 rfl (lv_at hl 2 rfl) ?_
    refine lv_iconst (v := 4) hx hb dX12_laysTraders_78 (by decide) ?_
    obtain ⟨r_19, hc_18, hp⟩ := bn1_s hp
    refine k_ROV (As := [.int x2, .int 4]) (rest := [.int (mo 17 (x3 - 1).toNatClampNeg)]) ⟨hx, hb, hml, hown, hts⟩ hK hP (cw_X12_128 hts ⟨Nat.le_of_ble_eq_true rfl, Nat.le_of_ble_eq_true rfl⟩) 0 (ci := 12) rfl rfl rfl (c_X12_of l D cy qmo mo x2 4 r_19 hc_18) rfl hl.1 (Nat.le_of_ble_eq_true rfl) ⟨Nat.le_refl _, Nat.le_refl _⟩ dX12_laysTraders_79 ?_
    refine lv_icmp_le (tgt := 106) hx hb dX12_laysTraders_82 (by decide) (fun c_20 => ?_) (fun c_20 => ?_)
    · have hp := ite_p hp c_20
      exact Mo_laysTraders_b106_w C0 hK hA hk7 hP hD hS hl hp
    · have hp := ite_n hp c_20
      refine lv_aload_n hx hb dX12_laysTraders_85 rfl (lv_at hl 0 rfl) ?_
      refine gf_X12_36 hx hb hts hown hK hP 0 rfl rfl dX12_laysTraders_86 ?_
      refine lv_iload_n hx hb dX12_laysTraders_89 rfl (lv_at hl 3 rfl) ?_
      refine lv_aload_n hx hb dX12_laysTraders_90 rfl (lv_at hl 0 rfl) ?_
      refine gf_X12_36 hx hb hts hown hK hP 0 rfl rfl dX12_laysTraders_91 ?_
      refine lv_iload_n hx hb dX12_laysTraders_94 rfl (lv_at hl 3 rfl) ?_
      refine lv_iconst (v := 1) hx hb dX12_laysTraders_95 (by decide) ?_
      refine lv_isub hx hb dX12_laysTraders_96 ?_
      refine r_ild hx hb hK hP 9 rfl hi_17 dX12_laysTraders_97 ?_
      obtain ⟨hi_21, hp⟩ := ckI_s hp
      obtain ⟨mo_22, emo_22⟩ : ∃ y : Mem, y = upm mo 17 x3.toNatClampNeg (mo 17 (x3 - 1).toNatClampNeg) := ⟨_, rfl⟩
      have hp := stk_e hp emo_22
      refine r_ist hx hb hK hP hD hS (wn := (w_Mo cy qmo mo_22)) 9 rfl hi_21 (by subst emo_22; rfl) dX12_laysTraders_98 (fun H locs hP hD hS => ?_)
      refine lv_iload_n hx hb dX12_laysTraders_99 rfl (lv_at hl 3 rfl) ?_
      refine lv_iconst (v := 1) hx hb dX12_laysTraders_100 (by decide) ?_
      refine lv_isub hx hb dX12_laysTraders_101 ?_
      refine lv_topi (fun x3_23 ex3_23 => ?_)
      have hp := stk_e hp ex3_23
      refine lv_istore_n (lv' := [(3, .int x3_23), (0, .ref (qmo 0)), (1, .int p1), (2, .int x2)]) hx hb dX12_laysTraders_102 rfl hl (by decide) rfl (fun ls hl => ?_)
      refine lv_goto (tgt := 64) hx hb dX12_laysTraders_103 (by decide) ?_
      exact hk64 mo_22 x2 x3_23 _ _ _ hP hD hS (lv_sub hl [1, 2, 3, 0] rfl) hp
theorem Mo_laysTraders_b64_w (C0 : cX RX12 cX12_laysTraders none 4 p s m args meth c) (hK : kN D cy s) {qmo : Nat → Nat} {p1 : Int32} {mo' : Mem} (hA : ∀ q, s.heap.size ≤ q → A q) {k7 : Mem → Int32 → Option (Mem)} (hk7 : ∀ (mo : Mem) (x2 : Int32) (H : Heap) (locs : List Loc) (ls : Array Slot), va_P D vwCl (w_Mo cy qmo mo) H → va_D A (w_Mo cy qmo mo) → va_S A s.heap H locs → lv_has ls 4 [(0, .ref (qmo 0)), (1, .int p1), (2, .int x2)] → k7 mo x2 = some mo' → W p l e (rmD 4) s m args below meth c H locs 0 0 (qRV D below args s A (w_Mo cy qmo mo')) (F0 m 7 ls [])) : ∀ (n : Nat) (mo : Mem) (x2 x3 : Int32) (H : Heap) (locs : List Loc) (ls : Array Slot), va_P D vwCl (w_Mo cy qmo mo) H → va_D A (w_Mo cy qmo mo) → va_S A s.heap H locs → lv_has ls 4 [(0, .ref (qmo 0)), (1, .int p1), (2, .int x2), (3, .int x3)] → Mo_laysTraders_b64 p1 k7 n mo x2 x3 = some mo' → W p l e (rmD 4) s m args below meth c H locs 0 0 (qRV D below args s A (w_Mo cy qmo mo')) (F0 m 64 ls []) := by
  intro n
  induction n with
  | zero =>
    intro mo x2 x3 H locs ls hP hD hS hl hp
    cases hp
  | succ n ih =>
    intro mo x2 x3 H locs ls hP hD hS hl hp
    exact Mo_laysTraders_b64B_w C0 hK hA hk7 (fun mo x2 x3 H locs ls hP hD hS hl hp => ih mo x2 x3 H locs ls hP hD hS hl hp) hP hD hS hl hp
set_option maxHeartbeats 4000000 in
set_option maxRecDepth 100000 in
theorem Mo_laysTraders_b7B_w (C0 : cX RX12 cX12_laysTraders none 4 p s m args meth c) (hK : kN D cy s) {qmo : Nat → Nat} {p1 : Int32} {mo' : Mem} (hA : ∀ q, s.heap.size ≤ q → A q) {k7 : Mem → Int32 → Option (Mem)} (hk7 : ∀ (mo : Mem) (x2 : Int32) (H : Heap) (locs : List Loc) (ls : Array Slot), va_P D vwCl (w_Mo cy qmo mo) H → va_D A (w_Mo cy qmo mo) → va_S A s.heap H locs → lv_has ls 4 [(0, .ref (qmo 0)), (1, .int p1), (2, .int x2)] → k7 mo x2 = some mo' → W p l e (rmD 4) s m args below meth c H locs 0 0 (qRV D below args s A (w_Mo cy qmo mo')) (F0 m 7 ls [])) {mo : Mem} {x2 : Int32} {H : Heap} {locs : List Loc} (hP : va_P D vwCl (w_Mo cy qmo mo) H) (hD : va_D A (w_Mo cy qmo mo)) (hS : va_S A s.heap H locs) {ls : Array Slot} (hl : lv_has ls 4 [(0, .ref (qmo 0)), (1, .int p1), (2, .int x2)]) (hp : Mo_laysTraders_b7B p1 k7 mo x2 = some mo') : W p l e (rmD 4) s m args below meth c H locs 0 0 (qRV D below args s A (w_Mo cy qmo mo')) (F0 m 7 ls []) := by
  obtain ⟨hx, hb, hr, hml, hown, hts, hk⟩ := id C0
  unfold Mo_laysTraders_b7B at hp
  refine lv_iload_n hx hb dX12_laysTraders_7 rfl (lv_at hl 2 rfl) ?_
  refine lv_aload_n hx hb dX12_laysTraders_8 rfl (lv_at hl 0 rfl) ?_
  refine gf_X12_7 hx hb hts hown hK hP 0 rfl rfl dX12_laysTraders_9 ?_
  refine lv_sipush (v := 173) hx hb dX12_laysTraders_12 (by decide) ?_
  obtain ⟨hi_2, hp⟩ := ckI_s hp
  refine r_ild hx hb hK hP 1 rfl hi_2 dX12_laysTraders_15 ?_
  refine lv_icmp_ge (tgt := 134) hx hb dX12_laysTraders_16 (by decide) (fun c_3 => ?_) (fun c_3 => ?_)
  · have hp := ite_p hp c_3
    simp only [Option.some.injEq, Prod.mk.injEq] at hp
    subst hp
    exact e_RV hx hb hr hk hP hD hS dX12_laysTraders_134
  · have hp := ite_n hp c_3
    refine lv_aload_n hx hb dX12_laysTraders_19 rfl (lv_at hl 0 rfl) ?_
    refine gf_X12_261 hx hb hts hown hK hP 0 rfl rfl dX12_laysTraders_20 ?_
    refine lv_bipush (v := 6) hx hb dX12_laysTraders_23 (by decide) ?_
    refine lv_icmp_ge (tgt := 134) hx hb dX12_laysTraders_25 (by decide) (fun c_4 => ?_) (fun c_4 => ?_)
    · have hp := ite_p hp c_4
      simp only [Option.some.injEq, Prod.mk.injEq] at hp
      subst hp
      exact e_RV hx hb hr hk hP hD hS dX12_laysTraders_134
    · have hp := ite_n hp c_4
      refine lv_aload_n hx hb dX12_laysTraders_28 rfl (lv_at hl 0 rfl) ?_
      refine lv_iload_n hx hb dX12_laysTraders_29 rfl (lv_at hl 2 rfl) ?_
      refine lv_iconst (v := 0) hx hb dX12_laysTraders_30 (by decide) ?_
      obtain ⟨r_6, hc_5, hp⟩ := bn1_s hp
      refine k_ROV (As := [.int x2, .int 0]) (rest := []) ⟨hx, hb, hml, hown, hts⟩ hK hP (cw_X12_128 hts ⟨Nat.le_of_ble_eq_true rfl, Nat.le_of_ble_eq_true rfl⟩) 0 (ci := 12) rfl rfl rfl (c_X12_of l D cy qmo mo x2 0 r_6 hc_5) rfl hl.1 (Nat.le_of_ble_eq_true rfl) ⟨Nat.le_refl _, Nat.le_refl _⟩ dX12_laysTraders_31 ?_
      refine lv_iload_n hx hb dX12_laysTraders_34 rfl (lv_at hl 1 rfl) ?_
      refine lv_icmp_ne (tgt := 128) hx hb dX12_laysTraders_35 (by decide) (fun c_7 => ?_) (fun c_7 => ?_)
      · have hp := ite_n hp c_7
        obtain ⟨x2_8, ex2_8⟩ : ∃ y : Int32, y = x2 + 1 := ⟨_, rfl⟩
        have hp := stk_e hp ex2_8
        refine lv_iinc (v := x2_8) (lv' := [(2, .int x2_8), (0, .ref (qmo 0)), (1, .int p1)]) hx hb dX12_laysTraders_128 hl (k := 2) rfl (by rw [ex2_8]; rfl) (by decide) rfl (fun ls hl => ?_)
        refine lv_goto (tgt := 7) hx hb dX12_laysTraders_131 (by decide) ?_
        exact hk7 mo x2_8 _ _ _ hP hD hS (lv_sub hl [1, 2, 0] rfl) hp
      · have hp := ite_p hp c_7
        refine lv_aload_n hx hb dX12_laysTraders_38 rfl (lv_at hl 0 rfl) ?_
        refine lv_iload_n hx hb dX12_laysTraders_39 rfl (lv_at hl 2 rfl) ?_
        obtain ⟨r_10, hc_9, hp⟩ := bn1_s hp
        refine k_ROV (As := [.int x2]) (rest := []) ⟨hx, hb, hml, hown, hts⟩ hK hP (cw_X12_203 hts ⟨Nat.le_of_ble_eq_true rfl, Nat.le_of_ble_eq_true rfl⟩) 0 (ci := 12) rfl rfl rfl (c_X12_isGround l D cy qmo mo x2 r_10 hc_9) rfl hl.1 (Nat.le_of_ble_eq_true rfl) ⟨Nat.le_refl _, Nat.le_refl _⟩ dX12_laysTraders_40 ?_
        refine lv_if_ne (tgt := 49) hx hb dX12_laysTraders_43 (by decide) (fun c_11 => ?_) (fun c_11 => ?_)
        · have hp := ite_n hp c_11
          refine lv_aload_n hx hb dX12_laysTraders_49 rfl (lv_at hl 0 rfl) ?_
          refine gf_X12_33 hx hb hts hown hK hP 0 rfl rfl dX12_laysTraders_50 ?_
          refine lv_aload_n hx hb dX12_laysTraders_53 rfl (lv_at hl 0 rfl) ?_
          refine gf_X12_261 hx hb hts hown hK hP 0 rfl rfl dX12_laysTraders_54 ?_
          refine lv_iload_n hx hb dX12_laysTraders_57 rfl (lv_at hl 2 rfl) ?_
          obtain ⟨hi_12, hp⟩ := ckI_s hp
          obtain ⟨mo_13, emo_13⟩ : ∃ y : Mem, y = upm mo 16 (mo 20 0).toNatClampNeg x2 := ⟨_, rfl⟩
          have hp := stk_e hp emo_13
          refine r_ist hx hb hK hP hD hS (wn := (w_Mo cy qmo mo_13)) 8 rfl hi_12 (by subst emo_13; rfl) dX12_laysTraders_58 (fun H locs hP hD hS => ?_)
          refine lv_aload_n hx hb dX12_laysTraders_59 rfl (lv_at hl 0 rfl) ?_
          refine gf_X12_261 hx hb hts hown hK hP 0 rfl rfl dX12_laysTraders_60 ?_
          refine lv_topi (fun x3_14 ex3_14 => ?_)
          have hp := stk_e hp ex3_14
          refine lv_istore_n (lv' := [(3, .int x3_14), (0, .ref (qmo 0)), (1, .int p1), (2, .int x2)]) hx hb dX12_laysTraders_63 rfl hl (by decide) rfl (fun ls hl => ?_)
          exact Mo_laysTraders_b64_w C0 hK hA hk7 fl mo_13 x2 x3_14 _ _ _ hP hD hS (lv_sub hl [1, 2, 3, 0] rfl) hp
        · have hp := ite_p hp c_11
          refine lv_goto (tgt := 128) hx hb dX12_laysTraders_46 (by decide) ?_
          obtain ⟨x2_15, ex2_15⟩ : ∃ y : Int32, y = x2 + 1 := ⟨_, rfl⟩
          have hp := stk_e hp ex2_15
          refine lv_iinc (v := x2_15) (lv' := [(2, .int x2_15), (0, .ref (qmo 0)), (1, .int p1)]) hx hb dX12_laysTraders_128 hl (k := 2) rfl (by rw [ex2_15]; rfl) (by decide) rfl (fun ls hl => ?_)
          refine lv_goto (tgt := 7) hx hb dX12_laysTraders_131 (by decide) ?_
          exact hk7 mo x2_15 _ _ _ hP hD hS (lv_sub hl [1, 2, 0] rfl) hp
theorem Mo_laysTraders_b7_w (C0 : cX RX12 cX12_laysTraders none 4 p s m args meth c) (hK : kN D cy s) {qmo : Nat → Nat} {p1 : Int32} {mo' : Mem} (hA : ∀ q, s.heap.size ≤ q → A q) : ∀ (n : Nat) (mo : Mem) (x2 : Int32) (H : Heap) (locs : List Loc) (ls : Array Slot), va_P D vwCl (w_Mo cy qmo mo) H → va_D A (w_Mo cy qmo mo) → va_S A s.heap H locs → lv_has ls 4 [(0, .ref (qmo 0)), (1, .int p1), (2, .int x2)] → Mo_laysTraders_b7 p1 n mo x2 = some mo' → W p l e (rmD 4) s m args below meth c H locs 0 0 (qRV D below args s A (w_Mo cy qmo mo')) (F0 m 7 ls []) := by
  intro n
  induction n with
  | zero =>
    intro mo x2 H locs ls hP hD hS hl hp
    cases hp
  | succ n ih =>
    intro mo x2 H locs ls hP hD hS hl hp
    exact Mo_laysTraders_b7B_w C0 hK hA  (fun mo x2 H locs ls hP hD hS hl hp => ih mo x2 H locs ls hP hD hS hl hp) hP hD hS hl hp
set_option maxHeartbeats 4000000 in
set_option maxRecDepth 100000 in
theorem c_X12_laysTraders (l : Launch) (D : va_G) (cy : Nat → ClassId) (qmo : Nat → Nat) (mo : Mem) (p1 : Int32) (mo' : Mem) (hp : Mo_laysTraders mo p1 = some mo') : RV l yX12_laysTraders cX12_laysTraders 4 4 D cy [.ref (qmo 0), .int p1] (w_Mo cy qmo mo) (w_Mo cy qmo mo') := by
  refine RV_of RX12 rfl (by decide) (Nat.le_of_ble_eq_true rfl) ?_
  intro p e s m below meth c A C0 hK hP hD hS hA ls hl
  obtain ⟨hx, hb, hr, hml, hown, hts, hk⟩ := id C0
  unfold Mo_laysTraders at hp
  have hl : lv_has ls 4 [(0, .ref (qmo 0)), (1, .int p1)] := hl
  refine lv_aload_n hx hb dX12_laysTraders_0 rfl (lv_at hl 0 rfl) ?_
  refine lv_iconst (v := 0) hx hb dX12_laysTraders_1 (by decide) ?_
  obtain ⟨mo_1, emo_1⟩ : ∃ y : Mem, y = upm mo 20 0 0 := ⟨_, rfl⟩
  have hp := stk_e hp emo_1
  refine pf_X12_261 hx hb hts hown hK hP hD hS (wn := (w_Mo cy qmo mo_1)) 0 rfl (Nat.le_of_ble_eq_true rfl) (by subst emo_1; rfl) dX12_laysTraders_2 (fun H locs hP hD hS => ?_)
  refine lv_iconst (v := 0) hx hb dX12_laysTraders_5 (by decide) ?_
  refine lv_istore_n (lv' := [(2, .int 0), (0, .ref (qmo 0)), (1, .int p1)]) hx hb dX12_laysTraders_6 rfl hl (by decide) rfl (fun ls hl => ?_)
  exact Mo_laysTraders_b7_w C0 hK hA  fl mo_1 0 _ _ _ hP hD hS (lv_sub hl [1, 2, 0] rfl) hp
/-! StormSlotsModel.goesOn()Z -/
def Mo_goesOn_b109B (k109 : Mem → Int32 → Int32 → Option (Int32 × Mem)) (mo : Mem) (x4 : Int32) (x5 : Int32) : Option (Int32 × Mem) :=
  if x5 ≤ x4 then some (1, mo) else ckI x4 6 (stk (mo 18 x4.toNatClampNeg) (fun x3_20 => ckI x5 6 (stk (upm mo 18 x4.toNatClampNeg (mo 18 x5.toNatClampNeg)) (fun mo_22 => stk (upm mo_22 18 x5.toNatClampNeg x3_20) (fun mo_23 => stk (x4 + 1) (fun x4_24 => stk (x5 - 1) (fun x5_25 => k109 mo_23 x4_24 x5_25)))))))
def Mo_goesOn_b109 : Nat → Mem → Int32 → Int32 → Option (Int32 × Mem)
  | 0 => fun _ _ _ => none
  | n + 1 => Mo_goesOn_b109B  (Mo_goesOn_b109  n)
def Mo_goesOn_b48B (k48 : Mem → Int32 → Int32 → Option (Int32 × Mem)) (mo : Mem) (x1 : Int32) (x2 : Int32) : Option (Int32 × Mem) :=
  ckI x2 6 (ckI x1 6 (if (mo 18 x1.toNatClampNeg) ≤ (mo 18 x2.toNatClampNeg) then stk (mo 18 x2.toNatClampNeg) (fun x3_12 => stk (upm mo 18 x2.toNatClampNeg (mo 18 x1.toNatClampNeg)) (fun mo_13 => stk (upm mo_13 18 x1.toNatClampNeg x3_12) (fun mo_14 => stk (x1 + 1) (fun x4_15 => stk ((mo_14 20 0) - 1) (fun x5_16 => Mo_goesOn_b109 fl mo_14 x4_15 x5_16))))) else stk (x2 - 1) (fun x2_17 => k48 mo x1 x2_17)))
def Mo_goesOn_b48 : Nat → Mem → Int32 → Int32 → Option (Int32 × Mem)
  | 0 => fun _ _ _ => none
  | n + 1 => Mo_goesOn_b48B  (Mo_goesOn_b48  n)
def Mo_goesOn_b35 (mo : Mem) (x1 : Int32) : Option (Int32 × Mem) :=
  if 0 ≤ x1 then stk ((mo 20 0) - 1) (fun x2_8 => Mo_goesOn_b48 fl mo x1 x2_8) else some (0, mo)
def Mo_goesOn_b7B (k7 : Mem → Int32 → Option (Int32 × Mem)) (mo : Mem) (x1 : Int32) : Option (Int32 × Mem) :=
  if x1 < 0 then Mo_goesOn_b35 mo x1 else ckI x1 6 (ckI (x1 + 1) 6 (if (mo 18 x1.toNatClampNeg) ≤ (mo 18 (x1 + 1).toNatClampNeg) then Mo_goesOn_b35 mo x1 else stk (x1 - 1) (fun x1_6 => k7 mo x1_6)))
def Mo_goesOn_b7 : Nat → Mem → Int32 → Option (Int32 × Mem)
  | 0 => fun _ _ => none
  | n + 1 => Mo_goesOn_b7B  (Mo_goesOn_b7  n)
def Mo_goesOn (mo : Mem) : Option (Int32 × Mem) :=
  stk ((mo 20 0) - 2) (fun x1_1 => Mo_goesOn_b7 fl mo x1_1)
set_option maxHeartbeats 4000000 in
set_option maxRecDepth 100000 in
theorem Mo_goesOn_b109B_w (C0 : cX RX12 cX12_goesOn (some .boolean) 6 p s m args meth c) (hK : kN D cy s) {qmo : Nat → Nat} {r : Int32} {mo' : Mem} (hA : ∀ q, s.heap.size ≤ q → A q) {k109 : Mem → Int32 → Int32 → Option (Int32 × Mem)} (hk109 : ∀ (mo : Mem) (x4 x5 : Int32) (H : Heap) (locs : List Loc) (ls : Array Slot), va_P D vwCl (w_Mo cy qmo mo) H → va_D A (w_Mo cy qmo mo) → va_S A s.heap H locs → lv_has ls 6 [(0, .ref (qmo 0)), (4, .int x4), (5, .int x5)] → k109 mo x4 x5 = some (r, mo') → W p l e (rmD 0) s m args below meth c H locs 0 0 (qRI D below args s A (w_Mo cy qmo mo') r) (F0 m 109 ls [])) {mo : Mem} {x4 : Int32} {x5 : Int32} {H : Heap} {locs : List Loc} (hP : va_P D vwCl (w_Mo cy qmo mo) H) (hD : va_D A (w_Mo cy qmo mo)) (hS : va_S A s.heap H locs) {ls : Array Slot} (hl : lv_has ls 6 [(0, .ref (qmo 0)), (4, .int x4), (5, .int x5)]) (hp : Mo_goesOn_b109B k109 mo x4 x5 = some (r, mo')) : W p l e (rmD 0) s m args below meth c H locs 0 0 (qRI D below args s A (w_Mo cy qmo mo') r) (F0 m 109 ls []) := by
  obtain ⟨hx, hb, hr, hml, hown, hts, hk⟩ := id C0
  unfold Mo_goesOn_b109B at hp
  refine lv_iload hx hb dX12_goesOn_109 (lv_at hl 1 rfl) ?_
  refine lv_iload hx hb dX12_goesOn_111 (lv_at hl 2 rfl) ?_
  refine lv_icmp_ge (tgt := 161) hx hb dX12_goesOn_113 (by decide) (fun c_18 => ?_) (fun c_18 => ?_)
  · have hp := ite_p hp c_18
    refine lv_iconst (v := 1) hx hb dX12_goesOn_161 (by decide) ?_
    simp only [Option.some.injEq, Prod.mk.injEq] at hp
    obtain ⟨h0, rfl⟩ := hp
    exact e_RIz hx hb hr hk (Or.inr rfl) hP hD hS dX12_goesOn_162 h0
  · have hp := ite_n hp c_18
    refine lv_aload_n hx hb dX12_goesOn_116 rfl (lv_at hl 0 rfl) ?_
    refine gf_X12_39 hx hb hts hown hK hP 0 rfl rfl dX12_goesOn_117 ?_
    refine lv_iload hx hb dX12_goesOn_120 (lv_at hl 1 rfl) ?_
    obtain ⟨hi_19, hp⟩ := ckI_s hp
    refine r_ild hx hb hK hP 10 rfl hi_19 dX12_goesOn_122 ?_
    refine lv_topi (fun x3_20 ex3_20 => ?_)
    have hp := stk_e hp ex3_20
    refine lv_istore_n (lv' := [(3, .int x3_20), (0, .ref (qmo 0)), (4, .int x4), (5, .int x5)]) hx hb dX12_goesOn_123 rfl hl (by decide) rfl (fun ls hl => ?_)
    refine lv_aload_n hx hb dX12_goesOn_124 rfl (lv_at hl 1 rfl) ?_
    refine gf_X12_39 hx hb hts hown hK hP 0 rfl rfl dX12_goesOn_125 ?_
    refine lv_iload hx hb dX12_goesOn_128 (lv_at hl 2 rfl) ?_
    refine lv_aload_n hx hb dX12_goesOn_130 rfl (lv_at hl 1 rfl) ?_
    refine gf_X12_39 hx hb hts hown hK hP 0 rfl rfl dX12_goesOn_131 ?_
    refine lv_iload hx hb dX12_goesOn_134 (lv_at hl 3 rfl) ?_
    obtain ⟨hi_21, hp⟩ := ckI_s hp
    refine r_ild hx hb hK hP 10 rfl hi_21 dX12_goesOn_136 ?_
    obtain ⟨mo_22, emo_22⟩ : ∃ y : Mem, y = upm mo 18 x4.toNatClampNeg (mo 18 x5.toNatClampNeg) := ⟨_, rfl⟩
    have hp := stk_e hp emo_22
    refine r_ist hx hb hK hP hD hS (wn := (w_Mo cy qmo mo_22)) 10 rfl hi_19 (by subst emo_22; rfl) dX12_goesOn_137 (fun H locs hP hD hS => ?_)
    refine lv_aload_n hx hb dX12_goesOn_138 rfl (lv_at hl 1 rfl) ?_
    refine gf_X12_39 hx hb hts hown hK hP 0 rfl rfl dX12_goesOn_139 ?_
    refine lv_iload hx hb dX12_goesOn_142 (lv_at hl 3 rfl) ?_
    refine lv_iload_n hx hb dX12_goesOn_144 rfl (lv_at hl 0 rfl) ?_
    obtain ⟨mo_23, emo_23⟩ : ∃ y : Mem, y = upm mo_22 18 x5.toNatClampNeg x3_20 := ⟨_, rfl⟩
    have hp := stk_e hp emo_23
    refine r_ist hx hb hK hP hD hS (wn := (w_Mo cy qmo mo_23)) 10 rfl hi_21 (by subst emo_23; rfl) dX12_goesOn_145 (fun H locs hP hD hS => ?_)
    refine lv_iload hx hb dX12_goesOn_146 (lv_at hl 2 rfl) ?_
    refine lv_iconst (v := 1) hx hb dX12_goesOn_148 (by decide) ?_
    refine lv_iadd hx hb dX12_goesOn_149 ?_
    refine lv_topi (fun x4_24 ex4_24 => ?_)
    have hp := stk_e hp ex4_24
    refine lv_istore (lv' := [(4, .int x4_24), (3, .int x3_20), (0, .ref (qmo 0)), (5, .int x5)]) hx hb dX12_goesOn_150 hl (by decide) rfl (fun ls hl => ?_)
    refine lv_iload hx hb dX12_goesOn_152 (lv_at hl 3 rfl) ?_
    refine lv_iconst (v := 1) hx hb dX12_goesOn_154 (by decide) ?_
    refine lv_isub hx hb dX12_goesOn_155 ?_
    refine lv_topi (fun x5_25 ex5_25 => ?_)
    have hp := stk_e hp ex5_25
    refine lv_istore (lv' := [(5, .int x5_25), (4, .int x4_24), (3, .int x3_20), (0, .ref (qmo 0))]) hx hb dX12_goesOn_156 hl (by decide) rfl (fun ls hl => ?_)
    refine lv_goto (tgt := 109) hx hb dX12_goesOn_158 (by decide) ?_
    exact hk109 mo_23 x4_24 x5_25 _ _ _ hP hD hS (lv_sub hl [3, 1, 0] rfl) hp
theorem Mo_goesOn_b109_w (C0 : cX RX12 cX12_goesOn (some .boolean) 6 p s m args meth c) (hK : kN D cy s) {qmo : Nat → Nat} {r : Int32} {mo' : Mem} (hA : ∀ q, s.heap.size ≤ q → A q) : ∀ (n : Nat) (mo : Mem) (x4 x5 : Int32) (H : Heap) (locs : List Loc) (ls : Array Slot), va_P D vwCl (w_Mo cy qmo mo) H → va_D A (w_Mo cy qmo mo) → va_S A s.heap H locs → lv_has ls 6 [(0, .ref (qmo 0)), (4, .int x4), (5, .int x5)] → Mo_goesOn_b109  n mo x4 x5 = some (r, mo') → W p l e (rmD 0) s m args below meth c H locs 0 0 (qRI D below args s A (w_Mo cy qmo mo') r) (F0 m 109 ls []) := by
  intro n
  induction n with
  | zero =>
    intro mo x4 x5 H locs ls hP hD hS hl hp
    cases hp
  | succ n ih =>
    intro mo x4 x5 H locs ls hP hD hS hl hp
    exact Mo_goesOn_b109B_w C0 hK hA  (fun mo x4 x5 H locs ls hP hD hS hl hp => ih mo x4 x5 H locs ls hP hD hS hl hp) hP hD hS hl hp
set_option maxHeartbeats 4000000 in
set_option maxRecDepth 100000 in
theorem Mo_goesOn_b48B_w (C0 : cX RX12 cX12_goesOn (some .boolean) 6 p s m args meth c) (hK : kN D cy s) {qmo : Nat → Nat} {r : Int32} {mo' : Mem} (hA : ∀ q, s.heap.size ≤ q → A q) {k48 : Mem → Int32 → Int32 → Option (Int32 × Mem)} (hk48 : ∀ (mo : Mem) (x1 x2 : Int32) (H : Heap) (locs : List Loc) (ls : Array Slot), va_P D vwCl (w_Mo cy qmo mo) H → va_D A (w_Mo cy qmo mo) → va_S A s.heap H locs → lv_has ls 6 [(0, .ref (qmo 0)), (1, .int x1), (2, .int x2)] → k48 mo x1 x2 = some (r, mo') → W p l e (rmD 0) s m args below meth c H locs 0 0 (qRI D below args s A (w_Mo cy qmo mo') r) (F0 m 48 ls [])) {mo : Mem} {x1 : Int32} {x2 : Int32} {H : Heap} {locs : List Loc} (hP : va_P D vwCl (w_Mo cy qmo mo) H) (hD : va_D A (w_Mo cy qmo mo)) (hS : va_S A s.heap H locs) {ls : Array Slot} (hl : lv_has ls 6 [(0, .ref (qmo 0)), (1, .int x1), (2, .int x2)]) (hp : Mo_goesOn_b48B k48 mo x1 x2 = some (r, mo')) : W p l e (rmD 0) s m args below meth c H locs 0 0 (qRI D below args s A (w_Mo cy qmo mo') r) (F0 m 48 ls []) := by
  obtain ⟨hx, hb, hr, hml, hown, hts, hk⟩ := id C0
  unfold Mo_goesOn_b48B at hp
  refine lv_aload_n hx hb dX12_goesOn_48 rfl (lv_at hl 0 rfl) ?_
  refine gf_X12_39 hx hb hts hown hK hP 0 rfl rfl dX12_goesOn_49 ?_
  refine lv_iload_n hx hb dX12_goesOn_52 rfl (lv_at hl 2 rfl) ?_
  obtain ⟨hi_9, hp⟩ := ckI_s hp
  refine r_ild hx hb hK hP 10 rfl hi_9 dX12_goesOn_53 ?_
  refine lv_aload_n hx hb dX12_goesOn_54 rfl (lv_at hl 0 rfl) ?_
  refine gf_X12_39 hx hb hts hown hK hP 0 rfl rfl dX12_goesOn_55 ?_
  refine lv_iload_n hx hb dX12_goesOn_58 rfl (lv_at hl 1 rfl) ?_
  obtain ⟨hi_10, hp⟩ := ckI_s hp
  refine r_ild hx hb hK hP 10 rfl hi_10 dX12_goesOn_59 ?_
  refine lv_icmp_ge (tgt := 70) hx hb dX12_goesOn_60 (by decide) (fun c_11 => ?_) (fun c_11 => ?_)
  · have hp := ite_p hp c_11
    refine lv_aload_n hx hb dX12_goesOn_70 rfl (lv_at hl 0 rfl) ?_
    refine gf_X12_39 hx hb hts hown hK hP 0 rfl rfl dX12_goesOn_71 ?_
    refine lv_iload_n hx hb dX12_goesOn_74 rfl (lv_at hl 2 rfl) ?_
    refine r_ild hx hb hK hP 10 rfl hi_9 dX12_goesOn_75 ?_
    refine lv_topi (fun x3_12 ex3_12 => ?_)
    have hp := stk_e hp ex3_12
    refine lv_istore_n (lv' := [(3, .int x3_12), (0, .ref (qmo 0)), (1, .int x1), (2, .int x2)]) hx hb dX12_goesOn_76 rfl hl (by decide) rfl (fun ls hl => ?_)
    refine lv_aload_n hx hb dX12_goesOn_77 rfl (lv_at hl 1 rfl) ?_
    refine gf_X12_39 hx hb hts hown hK hP 0 rfl rfl dX12_goesOn_78 ?_
    refine lv_iload_n hx hb dX12_goesOn_81 rfl (lv_at hl 3 rfl) ?_
    refine lv_aload_n hx hb dX12_goesOn_82 rfl (lv_at hl 1 rfl) ?_
    refine gf_X12_39 hx hb hts hown hK hP 0 rfl rfl dX12_goesOn_83 ?_
    refine lv_iload_n hx hb dX12_goesOn_86 rfl (lv_at hl 2 rfl) ?_
    refine r_ild hx hb hK hP 10 rfl hi_10 dX12_goesOn_87 ?_
    obtain ⟨mo_13, emo_13⟩ : ∃ y : Mem, y = upm mo 18 x2.toNatClampNeg (mo 18 x1.toNatClampNeg) := ⟨_, rfl⟩
    have hp := stk_e hp emo_13
    refine r_ist hx hb hK hP hD hS (wn := (w_Mo cy qmo mo_13)) 10 rfl hi_9 (by subst emo_13; rfl) dX12_goesOn_88 (fun H locs hP hD hS => ?_)
    refine lv_aload_n hx hb dX12_goesOn_89 rfl (lv_at hl 1 rfl) ?_
    refine gf_X12_39 hx hb hts hown hK hP 0 rfl rfl dX12_goesOn_90 ?_
    refine lv_iload_n hx hb dX12_goesOn_93 rfl (lv_at hl 2 rfl) ?_
    refine lv_iload_n hx hb dX12_goesOn_94 rfl (lv_at hl 0 rfl) ?_
    obtain ⟨mo_14, emo_14⟩ : ∃ y : Mem, y = upm mo_13 18 x1.toNatClampNeg x3_12 := ⟨_, rfl⟩
    have hp := stk_e hp emo_14
    refine r_ist hx hb hK hP hD hS (wn := (w_Mo cy qmo mo_14)) 10 rfl hi_10 (by subst emo_14; rfl) dX12_goesOn_95 (fun H locs hP hD hS => ?_)
    refine lv_iload_n hx hb dX12_goesOn_96 rfl (lv_at hl 2 rfl) ?_
    refine lv_iconst (v := 1) hx hb dX12_goesOn_97 (by decide) ?_
    refine lv_iadd hx hb dX12_goesOn_98 ?_
    refine lv_topi (fun x4_15 ex4_15 => ?_)
    have hp := stk_e hp ex4_15
    refine lv_istore (lv' := [(4, .int x4_15), (3, .int x3_12), (0, .ref (qmo 0)), (1, .int x1), (2, .int x2)]) hx hb dX12_goesOn_99 hl (by decide) rfl (fun ls hl => ?_)
    refine lv_aload_n hx hb dX12_goesOn_101 rfl (lv_at hl 2 rfl) ?_
    refine gf_X12_261 hx hb hts hown hK hP 0 rfl rfl dX12_goesOn_102 ?_
    refine lv_iconst (v := 1) hx hb dX12_goesOn_105 (by decide) ?_
    refine lv_isub hx hb dX12_goesOn_106 ?_
    refine lv_topi (fun x5_16 ex5_16 => ?_)
    have hp := stk_e hp ex5_16
    refine lv_istore (lv' := [(5, .int x5_16), (4, .int x4_15), (3, .int x3_12), (0, .ref (qmo 0)), (1, .int x1), (2, .int x2)]) hx hb dX12_goesOn_107 hl (by decide) rfl (fun ls hl => ?_)
    exact Mo_goesOn_b109_w C0 hK hA  fl mo_14 x4_15 x5_16 _ _ _ hP hD hS (lv_sub hl [3, 1, 0] rfl) hp
  · have hp := ite_n hp c_11
    refine lv_iload_n hx hb dX12_goesOn_63 rfl (lv_at hl 2 rfl) ?_
    refine lv_iconst (v := 1) hx hb dX12_goesOn_64 (by decide) ?_
    refine lv_isub hx hb dX12_goesOn_65 ?_
    refine lv_topi (fun x2_17 ex2_17 => ?_)
    have hp := stk_e hp ex2_17
    refine lv_istore_n (lv' := [(2, .int x2_17), (0, .ref (qmo 0)), (1, .int x1)]) hx hb dX12_goesOn_66 rfl hl (by decide) rfl (fun ls hl => ?_)
    refine lv_goto (tgt := 48) hx hb dX12_goesOn_67 (by decide) ?_
    exact hk48 mo x1 x2_17 _ _ _ hP hD hS (lv_sub hl [1, 2, 0] rfl) hp
theorem Mo_goesOn_b48_w (C0 : cX RX12 cX12_goesOn (some .boolean) 6 p s m args meth c) (hK : kN D cy s) {qmo : Nat → Nat} {r : Int32} {mo' : Mem} (hA : ∀ q, s.heap.size ≤ q → A q) : ∀ (n : Nat) (mo : Mem) (x1 x2 : Int32) (H : Heap) (locs : List Loc) (ls : Array Slot), va_P D vwCl (w_Mo cy qmo mo) H → va_D A (w_Mo cy qmo mo) → va_S A s.heap H locs → lv_has ls 6 [(0, .ref (qmo 0)), (1, .int x1), (2, .int x2)] → Mo_goesOn_b48  n mo x1 x2 = some (r, mo') → W p l e (rmD 0) s m args below meth c H locs 0 0 (qRI D below args s A (w_Mo cy qmo mo') r) (F0 m 48 ls []) := by
  intro n
  induction n with
  | zero =>
    intro mo x1 x2 H locs ls hP hD hS hl hp
    cases hp
  | succ n ih =>
    intro mo x1 x2 H locs ls hP hD hS hl hp
    exact Mo_goesOn_b48B_w C0 hK hA  (fun mo x1 x2 H locs ls hP hD hS hl hp => ih mo x1 x2 H locs ls hP hD hS hl hp) hP hD hS hl hp
set_option maxHeartbeats 4000000 in
set_option maxRecDepth 100000 in
theorem Mo_goesOn_b35_w (C0 : cX RX12 cX12_goesOn (some .boolean) 6 p s m args meth c) (hK : kN D cy s) {qmo : Nat → Nat} {r : Int32} {mo' : Mem} (hA : ∀ q, s.heap.size ≤ q → A q) {mo : Mem} {x1 : Int32} {H : Heap} {locs : List Loc} (hP : va_P D vwCl (w_Mo cy qmo mo) H) (hD : va_D A (w_Mo cy qmo mo)) (hS : va_S A s.heap H locs) {ls : Array Slot} (hl : lv_has ls 6 [(0, .ref (qmo 0)), (1, .int x1)]) (hp : Mo_goesOn_b35 mo x1 = some (r, mo')) : W p l e (rmD 0) s m args below meth c H locs 0 0 (qRI D below args s A (w_Mo cy qmo mo') r) (F0 m 35 ls []) := by
  obtain ⟨hx, hb, hr, hml, hown, hts, hk⟩ := id C0
  unfold Mo_goesOn_b35 at hp
  refine lv_iload_n hx hb dX12_goesOn_35 rfl (lv_at hl 1 rfl) ?_
  refine lv_if_ge (tgt := 41) hx hb dX12_goesOn_36 (by decide) (fun c_7 => ?_) (fun c_7 => ?_)
  · have hp := ite_p hp c_7
    refine lv_aload_n hx hb dX12_goesOn_41 rfl (lv_at hl 0 rfl) ?_
    refine gf_X12_261 hx hb hts hown hK hP 0 rfl rfl dX12_goesOn_42 ?_
    refine lv_iconst (v := 1) hx hb dX12_goesOn_45 (by decide) ?_
    refine lv_isub hx hb dX12_goesOn_46 ?_
    refine lv_topi (fun x2_8 ex2_8 => ?_)
    have hp := stk_e hp ex2_8
    refine lv_istore_n (lv' := [(2, .int x2_8), (0, .ref (qmo 0)), (1, .int x1)]) hx hb dX12_goesOn_47 rfl hl (by decide) rfl (fun ls hl => ?_)
    exact Mo_goesOn_b48_w C0 hK hA  fl mo x1 x2_8 _ _ _ hP hD hS (lv_sub hl [1, 2, 0] rfl) hp
  · have hp := ite_n hp c_7
    refine lv_iconst (v := 0) hx hb dX12_goesOn_39 (by decide) ?_
    simp only [Option.some.injEq, Prod.mk.injEq] at hp
    obtain ⟨h0, rfl⟩ := hp
    exact e_RIz hx hb hr hk (Or.inl rfl) hP hD hS dX12_goesOn_40 h0
set_option maxHeartbeats 4000000 in
set_option maxRecDepth 100000 in
theorem Mo_goesOn_b7B_w (C0 : cX RX12 cX12_goesOn (some .boolean) 6 p s m args meth c) (hK : kN D cy s) {qmo : Nat → Nat} {r : Int32} {mo' : Mem} (hA : ∀ q, s.heap.size ≤ q → A q) {k7 : Mem → Int32 → Option (Int32 × Mem)} (hk7 : ∀ (mo : Mem) (x1 : Int32) (H : Heap) (locs : List Loc) (ls : Array Slot), va_P D vwCl (w_Mo cy qmo mo) H → va_D A (w_Mo cy qmo mo) → va_S A s.heap H locs → lv_has ls 6 [(0, .ref (qmo 0)), (1, .int x1)] → k7 mo x1 = some (r, mo') → W p l e (rmD 0) s m args below meth c H locs 0 0 (qRI D below args s A (w_Mo cy qmo mo') r) (F0 m 7 ls [])) {mo : Mem} {x1 : Int32} {H : Heap} {locs : List Loc} (hP : va_P D vwCl (w_Mo cy qmo mo) H) (hD : va_D A (w_Mo cy qmo mo)) (hS : va_S A s.heap H locs) {ls : Array Slot} (hl : lv_has ls 6 [(0, .ref (qmo 0)), (1, .int x1)]) (hp : Mo_goesOn_b7B k7 mo x1 = some (r, mo')) : W p l e (rmD 0) s m args below meth c H locs 0 0 (qRI D below args s A (w_Mo cy qmo mo') r) (F0 m 7 ls []) := by
  obtain ⟨hx, hb, hr, hml, hown, hts, hk⟩ := id C0
  unfold Mo_goesOn_b7B at hp
  refine lv_iload_n hx hb dX12_goesOn_7 rfl (lv_at hl 1 rfl) ?_
  refine lv_if_lt (tgt := 35) hx hb dX12_goesOn_8 (by decide) (fun c_2 => ?_) (fun c_2 => ?_)
  · have hp := ite_p hp c_2
    exact Mo_goesOn_b35_w C0 hK hA  hP hD hS hl hp
  · have hp := ite_n hp c_2
    refine lv_aload_n hx hb dX12_goesOn_11 rfl (lv_at hl 0 rfl) ?_
    refine gf_X12_39 hx hb hts hown hK hP 0 rfl rfl dX12_goesOn_12 ?_
    refine lv_iload_n hx hb dX12_goesOn_15 rfl (lv_at hl 1 rfl) ?_
    obtain ⟨hi_3, hp⟩ := ckI_s hp
    refine r_ild hx hb hK hP 10 rfl hi_3 dX12_goesOn_16 ?_
    refine lv_aload_n hx hb dX12_goesOn_17 rfl (lv_at hl 0 rfl) ?_
    refine gf_X12_39 hx hb hts hown hK hP 0 rfl rfl dX12_goesOn_18 ?_
    refine lv_iload_n hx hb dX12_goesOn_21 rfl (lv_at hl 1 rfl) ?_
    refine lv_iconst (v := 1) hx hb dX12_goesOn_22 (by decide) ?_
    refine lv_iadd hx hb dX12_goesOn_23 ?_
    obtain ⟨hi_4, hp⟩ := ckI_s hp
    refine r_ild hx hb hK hP 10 rfl hi_4 dX12_goesOn_24 ?_
    refine lv_icmp_le (tgt := 35) hx hb dX12_goesOn_25 (by decide) (fun c_5 => ?_) (fun c_5 => ?_)
    · have hp := ite_p hp c_5
      exact Mo_goesOn_b35_w C0 hK hA  hP hD hS hl hp
    · have hp := ite_n hp c_5
      refine lv_iload_n hx hb dX12_goesOn_28 rfl (lv_at hl 1 rfl) ?_
      refine lv_iconst (v := 1) hx hb dX12_goesOn_29 (by decide) ?_
      refine lv_isub hx hb dX12_goesOn_30 ?_
      refine lv_topi (fun x1_6 ex1_6 => ?_)
      have hp := stk_e hp ex1_6
      refine lv_istore_n (lv' := [(1, .int x1_6), (0, .ref (qmo 0))]) hx hb dX12_goesOn_31 rfl hl (by decide) rfl (fun ls hl => ?_)
      refine lv_goto (tgt := 7) hx hb dX12_goesOn_32 (by decide) ?_
      exact hk7 mo x1_6 _ _ _ hP hD hS (lv_sub hl [1, 0] rfl) hp
theorem Mo_goesOn_b7_w (C0 : cX RX12 cX12_goesOn (some .boolean) 6 p s m args meth c) (hK : kN D cy s) {qmo : Nat → Nat} {r : Int32} {mo' : Mem} (hA : ∀ q, s.heap.size ≤ q → A q) : ∀ (n : Nat) (mo : Mem) (x1 : Int32) (H : Heap) (locs : List Loc) (ls : Array Slot), va_P D vwCl (w_Mo cy qmo mo) H → va_D A (w_Mo cy qmo mo) → va_S A s.heap H locs → lv_has ls 6 [(0, .ref (qmo 0)), (1, .int x1)] → Mo_goesOn_b7  n mo x1 = some (r, mo') → W p l e (rmD 0) s m args below meth c H locs 0 0 (qRI D below args s A (w_Mo cy qmo mo') r) (F0 m 7 ls []) := by
  intro n
  induction n with
  | zero =>
    intro mo x1 H locs ls hP hD hS hl hp
    cases hp
  | succ n ih =>
    intro mo x1 H locs ls hP hD hS hl hp
    exact Mo_goesOn_b7B_w C0 hK hA  (fun mo x1 H locs ls hP hD hS hl hp => ih mo x1 H locs ls hP hD hS hl hp) hP hD hS hl hp
set_option maxHeartbeats 4000000 in
set_option maxRecDepth 100000 in
theorem c_X12_goesOn (l : Launch) (D : va_G) (cy : Nat → ClassId) (qmo : Nat → Nat) (mo : Mem) (r : Int32) (mo' : Mem) (hp : Mo_goesOn mo = some (r, mo')) : RI l yX12_goesOn cX12_goesOn 6 (some .boolean) 0 D cy [.ref (qmo 0)] (w_Mo cy qmo mo) (w_Mo cy qmo mo') r := by
  refine RI_of RX12 rfl (by decide) (Nat.le_of_ble_eq_true rfl) ?_
  intro p e s m below meth c A C0 hK hP hD hS hA ls hl
  obtain ⟨hx, hb, hr, hml, hown, hts, hk⟩ := id C0
  unfold Mo_goesOn at hp
  have hl : lv_has ls 6 [(0, .ref (qmo 0))] := hl
  refine lv_aload_n hx hb dX12_goesOn_0 rfl (lv_at hl 0 rfl) ?_
  refine gf_X12_261 hx hb hts hown hK hP 0 rfl rfl dX12_goesOn_1 ?_
  refine lv_iconst (v := 2) hx hb dX12_goesOn_4 (by decide) ?_
  refine lv_isub hx hb dX12_goesOn_5 ?_
  refine lv_topi (fun x1_1 ex1_1 => ?_)
  have hp := stk_e hp ex1_1
  refine lv_istore_n (lv' := [(1, .int x1_1), (0, .ref (qmo 0))]) hx hb dX12_goesOn_6 rfl hl (by decide) rfl (fun ls hl => ?_)
  exact Mo_goesOn_b7_w C0 hK hA  fl mo x1_1 _ _ _ hP hD hS (lv_sub hl [1, 0] rfl) hp
/-! StormSlotsModel.rowCost()I -/
def Mo_rowCost_b4B (mo : Mem) (k4 : Int32 → Int32 → Option (Int32)) (x1 : Int32) (x2 : Int32) : Option (Int32) :=
  if (mo 20 0) ≤ x2 then some x1 else ckI x2 6 (stk (mo 16 x2.toNatClampNeg) (fun x3_3 => ckI (mo 18 x2.toNatClampNeg) 6 (stk (mo 17 (mo 18 x2.toNatClampNeg).toNatClampNeg) (fun x4_5 => bn1 (Mo_earliest mo x3_3) (fun r_7 => if r_7 ≤ x4_5 then bn1 (Mo_of mo x3_3 3) (fun r_10 => bn1 (Mo_of mo x3_3 1) (fun r_12 => stk (x1 + (r_10 * (x4_5 - r_12))) (fun x1_13 => stk (x2 + 1) (fun x2_14 => k4 x1_13 x2_14)))) else some (-1))))))
def Mo_rowCost_b4 (mo : Mem) : Nat → Int32 → Int32 → Option (Int32)
  | 0 => fun _ _ => none
  | n + 1 => Mo_rowCost_b4B mo (Mo_rowCost_b4 mo n)
def Mo_rowCost (mo : Mem) : Option (Int32) :=
  Mo_rowCost_b4 mo fl 0 0
set_option maxHeartbeats 4000000 in
set_option maxRecDepth 100000 in
theorem Mo_rowCost_b4B_w (C0 : cX RX12 cX12_rowCost (some .int) 5 p s m args meth c) (hK : kN D cy s) {qmo : Nat → Nat} {mo : Mem} {r : Int32} (hP : va_P D vwCl (w_Mo cy qmo mo) s.heap) {k4 : Int32 → Int32 → Option (Int32)} (hk4 : ∀ (x1 x2 : Int32) (ls : Array Slot), lv_has ls 5 [(0, .ref (qmo 0)), (1, .int x1), (2, .int x2)] → k4 x1 x2 = some r → W p l e (rmD 2) s m args below meth c s.heap [] 0 0 (qRO below args s r) (F0 m 4 ls [])) {x1 : Int32} {x2 : Int32} {ls : Array Slot} (hl : lv_has ls 5 [(0, .ref (qmo 0)), (1, .int x1), (2, .int x2)]) (hp : Mo_rowCost_b4B mo k4 x1 x2 = some r) : W p l e (rmD 2) s m args below meth c s.heap [] 0 0 (qRO below args s r) (F0 m 4 ls []) := by
  obtain ⟨hx, hb, hr, hml, hown, hts, hk⟩ := id C0
  unfold Mo_rowCost_b4B at hp
  refine lv_iload_n hx hb dX12_rowCost_4 rfl (lv_at hl 2 rfl) ?_
  refine lv_aload_n hx hb dX12_rowCost_5 rfl (lv_at hl 0 rfl) ?_
  refine gf_X12_261 hx hb hts hown hK hP 0 rfl rfl dX12_rowCost_6 ?_
  refine lv_icmp_ge (tgt := 69) hx hb dX12_rowCost_9 (by decide) (fun c_1 => ?_) (fun c_1 => ?_)
  · have hp := ite_p hp c_1
    refine lv_iload_n hx hb dX12_rowCost_69 rfl (lv_at hl 1 rfl) ?_
    exact e_ROi hx hb hr hk dX12_rowCost_70 (Option.some.inj hp)
  · have hp := ite_n hp c_1
    refine lv_aload_n hx hb dX12_rowCost_12 rfl (lv_at hl 0 rfl) ?_
    refine gf_X12_33 hx hb hts hown hK hP 0 rfl rfl dX12_rowCost_13 ?_
    refine lv_iload_n hx hb dX12_rowCost_16 rfl (lv_at hl 2 rfl) ?_
    obtain ⟨hi_2, hp⟩ := ckI_s hp
    refine r_ild hx hb hK hP 8 rfl hi_2 dX12_rowCost_17 ?_
    refine lv_topi (fun x3_3 ex3_3 => ?_)
    have hp := stk_e hp ex3_3
    refine lv_istore_n (lv' := [(3, .int x3_3), (0, .ref (qmo 0)), (1, .int x1), (2, .int x2)]) hx hb dX12_rowCost_18 rfl hl (by decide) rfl (fun ls hl => ?_)
    refine lv_aload_n hx hb dX12_rowCost_19 rfl (lv_at hl 1 rfl) ?_
    refine gf_X12_36 hx hb hts hown hK hP 0 rfl rfl dX12_rowCost_20 ?_
    refine lv_aload_n hx hb dX12_rowCost_23 rfl (lv_at hl 1 rfl) ?_
    refine gf_X12_39 hx hb hts hown hK hP 0 rfl rfl dX12_rowCost_24 ?_
    refine lv_iload_n hx hb dX12_rowCost_27 rfl (lv_at hl 3 rfl) ?_
    refine r_ild hx hb hK hP 10 rfl hi_2 dX12_rowCost_28 ?_
    obtain ⟨hi_4, hp⟩ := ckI_s hp
    refine r_ild hx hb hK hP 9 rfl hi_4 dX12_rowCost_29 ?_
    refine lv_topi (fun x4_5 ex4_5 => ?_)
    have hp := stk_e hp ex4_5
    refine lv_istore (lv' := [(4, .int x4_5), (3, .int x3_3), (0, .ref (qmo 0)), (1, .int x1), (2, .int x2)]) hx hb dX12_rowCost_30 hl (by decide) rfl (fun ls hl => ?_)
    refine lv_iload hx hb dX12_rowCost_32 (lv_at hl 0 rfl) ?_
    refine lv_aload_n hx hb dX12_rowCost_34 rfl (lv_at hl 2 rfl) ?_
    refine lv_iload_n hx hb dX12_rowCost_35 rfl (lv_at hl 1 rfl) ?_
    obtain ⟨r_7, hc_6, hp⟩ := bn1_s hp
    refine k_ROV (As := [.int x3_3]) (rest := [.int x4_5]) ⟨hx, hb, hml, hown, hts⟩ hK hP (cw_X12_156 hts ⟨Nat.le_of_ble_eq_true rfl, Nat.le_of_ble_eq_true rfl⟩) 0 (ci := 12) rfl rfl rfl (c_X12_earliest l D cy qmo mo x3_3 r_7 hc_6) rfl hl.1 (Nat.le_of_ble_eq_true rfl) ⟨Nat.le_refl _, Nat.le_refl _⟩ dX12_rowCost_36 ?_
    refine lv_icmp_ge (tgt := 44) hx hb dX12_rowCost_39 (by decide) (fun c_8 => ?_) (fun c_8 => ?_)
    · have hp := ite_p hp c_8
      refine lv_iload_n hx hb dX12_rowCost_44 rfl (lv_at hl 3 rfl) ?_
      refine lv_aload_n hx hb dX12_rowCost_45 rfl (lv_at hl 2 rfl) ?_
      refine lv_iload_n hx hb dX12_rowCost_46 rfl (lv_at hl 1 rfl) ?_
      refine lv_iconst (v := 3) hx hb dX12_rowCost_47 (by decide) ?_
      obtain ⟨r_10, hc_9, hp⟩ := bn1_s hp
      refine k_ROV (As := [.int x3_3, .int 3]) (rest := [.int x1]) ⟨hx, hb, hml, hown, hts⟩ hK hP (cw_X12_128 hts ⟨Nat.le_of_ble_eq_true rfl, Nat.le_of_ble_eq_true rfl⟩) 0 (ci := 12) rfl rfl rfl (c_X12_of l D cy qmo mo x3_3 3 r_10 hc_9) rfl hl.1 (Nat.le_of_ble_eq_true rfl) ⟨Nat.le_refl _, Nat.le_refl _⟩ dX12_rowCost_48 ?_
      refine lv_iload hx hb dX12_rowCost_51 (lv_at hl 0 rfl) ?_
      refine lv_aload_n hx hb dX12_rowCost_53 rfl (lv_at hl 2 rfl) ?_
      refine lv_iload_n hx hb dX12_rowCost_54 rfl (lv_at hl 1 rfl) ?_
      refine lv_iconst (v := 1) hx hb dX12_rowCost_55 (by decide) ?_
      obtain ⟨r_12, hc_11, hp⟩ := bn1_s hp
      refine k_ROV (As := [.int x3_3, .int 1]) (rest := [.int x4_5, .int r_10, .int x1]) ⟨hx, hb, hml, hown, hts⟩ hK hP (cw_X12_128 hts ⟨Nat.le_of_ble_eq_true rfl, Nat.le_of_ble_eq_true rfl⟩) 0 (ci := 12) rfl rfl rfl (c_X12_of l D cy qmo mo x3_3 1 r_12 hc_11) rfl hl.1 (Nat.le_of_ble_eq_true rfl) ⟨Nat.le_refl _, Nat.le_refl _⟩ dX12_rowCost_56 ?_
      refine lv_isub hx hb dX12_rowCost_59 ?_
      refine lv_imul hx hb dX12_rowCost_60 ?_
      refine lv_iadd hx hb dX12_rowCost_61 ?_
      refine lv_topi (fun x1_13 ex1_13 => ?_)
      have hp := stk_e hp ex1_13
      refine lv_istore_n (lv' := [(1, .int x1_13), (4, .int x4_5), (3, .int x3_3), (0, .ref (qmo 0)), (2, .int x2)]) hx hb dX12_rowCost_62 rfl hl (by decide) rfl (fun ls hl => ?_)
      obtain ⟨x2_14, ex2_14⟩ : ∃ y : Int32, y = x2 + 1 := ⟨_, rfl⟩
      have hp := stk_e hp ex2_14
      refine lv_iinc (v := x2_14) (lv' := [(2, .int x2_14), (1, .int x1_13), (4, .int x4_5), (3, .int x3_3), (0, .ref (qmo 0))]) hx hb dX12_rowCost_63 hl (k := 4) rfl (by rw [ex2_14]; rfl) (by decide) rfl (fun ls hl => ?_)
      refine lv_goto (tgt := 4) hx hb dX12_rowCost_66 (by decide) ?_
      exact hk4 x1_13 x2_14 _ (lv_sub hl [4, 1, 0] rfl) hp
    · have hp := ite_n hp c_8
      refine lv_iconst (v := (-1)) hx hb dX12_rowCost_42 (by decide) ?_
      exact e_ROi hx hb hr hk dX12_rowCost_43 (Option.some.inj hp)
theorem Mo_rowCost_b4_w (C0 : cX RX12 cX12_rowCost (some .int) 5 p s m args meth c) (hK : kN D cy s) {qmo : Nat → Nat} {mo : Mem} {r : Int32} (hP : va_P D vwCl (w_Mo cy qmo mo) s.heap) : ∀ (n : Nat) (x1 x2 : Int32) (ls : Array Slot), lv_has ls 5 [(0, .ref (qmo 0)), (1, .int x1), (2, .int x2)] → Mo_rowCost_b4 mo n x1 x2 = some r → W p l e (rmD 2) s m args below meth c s.heap [] 0 0 (qRO below args s r) (F0 m 4 ls []) := by
  intro n
  induction n with
  | zero =>
    intro x1 x2 ls hl hp
    cases hp
  | succ n ih =>
    intro x1 x2 ls hl hp
    exact Mo_rowCost_b4B_w C0 hK hP  (fun x1 x2 ls hl hp => ih x1 x2 ls hl hp) hl hp
set_option maxHeartbeats 4000000 in
set_option maxRecDepth 100000 in
theorem c_X12_rowCost (l : Launch) (D : va_G) (cy : Nat → ClassId) (qmo : Nat → Nat) (mo : Mem) (r : Int32) (hp : Mo_rowCost mo = some r) : RO l yX12_rowCost cX12_rowCost 5 (some .int) 2 D cy [.ref (qmo 0)] (w_Mo cy qmo mo) r := by
  refine RO_of RX12 rfl (by decide) (Nat.le_of_ble_eq_true rfl) ?_
  intro p e s m below meth c C0 hK hP ls hl
  obtain ⟨hx, hb, hr, hml, hown, hts, hk⟩ := id C0
  unfold Mo_rowCost at hp
  have hl : lv_has ls 5 [(0, .ref (qmo 0))] := hl
  refine lv_iconst (v := 0) hx hb dX12_rowCost_0 (by decide) ?_
  refine lv_istore_n (lv' := [(1, .int 0), (0, .ref (qmo 0))]) hx hb dX12_rowCost_1 rfl hl (by decide) rfl (fun ls hl => ?_)
  refine lv_iconst (v := 0) hx hb dX12_rowCost_2 (by decide) ?_
  refine lv_istore_n (lv' := [(2, .int 0), (1, .int 0), (0, .ref (qmo 0))]) hx hb dX12_rowCost_3 rfl hl (by decide) rfl (fun ls hl => ?_)
  exact Mo_rowCost_b4_w C0 hK hP  fl 0 0 _ (lv_sub hl [2, 1, 0] rfl) hp
/-! StormSlotsModel.orders(I)V -/
def Mo_orders_b121B (p1 : Int32) (k121 : Mem → Int32 → Int32 → Option (Mem)) (mo : Mem) (x2 : Int32) (x4 : Int32) : Option (Mem) :=
  if (mo 20 0) ≤ x4 then some mo else if x2 = (-1) then some mo else ckI x4 6 (bn1 (Mo_gives mo (mo 16 x4.toNatClampNeg) (mo 19 x4.toNatClampNeg)) (fun mo_18 => stk (x4 + 1) (fun x4_19 => k121 mo_18 x2 x4_19)))
def Mo_orders_b121 (p1 : Int32) : Nat → Mem → Int32 → Int32 → Option (Mem)
  | 0 => fun _ _ _ => none
  | n + 1 => Mo_orders_b121B p1 (Mo_orders_b121 p1 n)
def Mo_orders_b110 (p1 : Int32) (k43 : Mem → Int32 → Int32 → Option (Mem)) (mo : Mem) (x2 : Int32) : Option (Mem) :=
  bn2 (Mo_goesOn mo) (fun r_21 mo_22 => k43 mo_22 x2 r_21)
def Mo_orders_b76B (p1 : Int32) (k43 : Mem → Int32 → Int32 → Option (Mem)) (k76 : Mem → Int32 → Int32 → Option (Mem)) (mo : Mem) (x2 : Int32) (x5 : Int32) : Option (Mem) :=
  if (mo 20 0) ≤ x5 then Mo_orders_b110 p1 k43 mo x2 else ckI x5 6 (ckI (mo 18 x5.toNatClampNeg) 6 (stk (upm mo 19 x5.toNatClampNeg (mo 17 (mo 18 x5.toNatClampNeg).toNatClampNeg)) (fun mo_26 => stk (x5 + 1) (fun x5_27 => k76 mo_26 x2 x5_27))))
def Mo_orders_b76 (p1 : Int32) (k43 : Mem → Int32 → Int32 → Option (Mem)) : Nat → Mem → Int32 → Int32 → Option (Mem)
  | 0 => fun _ _ _ => none
  | n + 1 => Mo_orders_b76B p1 k43 (Mo_orders_b76 p1 k43 n)
def Mo_orders_b43B (p1 : Int32) (k43 : Mem → Int32 → Int32 → Option (Mem)) (mo : Mem) (x2 : Int32) (x3 : Int32) : Option (Mem) :=
  if x3 = 0 then Mo_orders_b121 p1 fl mo x2 0 else bn1 (Mo_rowCost mo) (fun r_10 => if r_10 = (-1) then Mo_orders_b110 p1 k43 mo x2 else if x2 = (-1) then Mo_orders_b76 p1 k43 fl mo r_10 0 else if x2 ≤ r_10 then Mo_orders_b110 p1 k43 mo x2 else Mo_orders_b76 p1 k43 fl mo r_10 0)
def Mo_orders_b43 (p1 : Int32) : Nat → Mem → Int32 → Int32 → Option (Mem)
  | 0 => fun _ _ _ => none
  | n + 1 => Mo_orders_b43B p1 (Mo_orders_b43 p1 n)
def Mo_orders_b7B (p1 : Int32) (k7 : Mem → Int32 → Option (Mem)) (mo : Mem) (x2 : Int32) : Option (Mem) :=
  if (mo 20 0) ≤ x2 then if (mo 20 0) ≤ 0 then Mo_orders_b43 p1 fl mo (-1) 0 else Mo_orders_b43 p1 fl mo (-1) 1 else ckI x2 6 (stk (upm mo 18 x2.toNatClampNeg x2) (fun mo_6 => stk (x2 + 1) (fun x2_7 => k7 mo_6 x2_7)))
def Mo_orders_b7 (p1 : Int32) : Nat → Mem → Int32 → Option (Mem)
  | 0 => fun _ _ => none
  | n + 1 => Mo_orders_b7B p1 (Mo_orders_b7 p1 n)
def Mo_orders (mo : Mem) (p1 : Int32) : Option (Mem) :=
  bn1 (Mo_laysTraders mo p1) (fun mo_2 => Mo_orders_b7 p1 fl mo_2 0)
set_option maxHeartbeats 4000000 in
set_option maxRecDepth 100000 in
theorem Mo_orders_b121B_w (C0 : cX RX12 cX12_orders none 6 p s m args meth c) (hK : kN D cy s) {qmo : Nat → Nat} {p1 : Int32} {mo' : Mem} (hA : ∀ q, s.heap.size ≤ q → A q) {k121 : Mem → Int32 → Int32 → Option (Mem)} (hk121 : ∀ (mo : Mem) (x2 x4 : Int32) (H : Heap) (locs : List Loc) (ls : Array Slot), va_P D vwCl (w_Mo cy qmo mo) H → va_D A (w_Mo cy qmo mo) → va_S A s.heap H locs → lv_has ls 6 [(0, .ref (qmo 0)), (1, .int p1), (2, .int x2), (4, .int x4)] → k121 mo x2 x4 = some mo' → W p l e (rmD 5) s m args below meth c H locs 0 0 (qRV D below args s A (w_Mo cy qmo mo')) (F0 m 121 ls [])) {mo : Mem} {x2 : Int32} {x4 : Int32} {H : Heap} {locs : List Loc} (hP : va_P D vwCl (w_Mo cy qmo mo) H) (hD : va_D A (w_Mo cy qmo mo)) (hS : va_S A s.heap H locs) {ls : Array Slot} (hl : lv_has ls 6 [(0, .ref (qmo 0)), (1, .int p1), (2, .int x2), (4, .int x4)]) (hp : Mo_orders_b121B p1 k121 mo x2 x4 = some mo') : W p l e (rmD 5) s m args below meth c H locs 0 0 (qRV D below args s A (w_Mo cy qmo mo')) (F0 m 121 ls []) := by
  obtain ⟨hx, hb, hr, hml, hown, hts, hk⟩ := id C0
  unfold Mo_orders_b121B at hp
  refine lv_iload hx hb dX12_orders_121 (lv_at hl 3 rfl) ?_
  refine lv_aload_n hx hb dX12_orders_123 rfl (lv_at hl 0 rfl) ?_
  refine gf_X12_261 hx hb hts hown hK hP 0 rfl rfl dX12_orders_124 ?_
  refine lv_icmp_ge (tgt := 159) hx hb dX12_orders_127 (by decide) (fun c_14 => ?_) (fun c_14 => ?_)
  · have hp := ite_p hp c_14
    simp only [Option.some.injEq, Prod.mk.injEq] at hp
    subst hp
    exact e_RV hx hb hr hk hP hD hS dX12_orders_159
  · have hp := ite_n hp c_14
    refine lv_iload_n hx hb dX12_orders_130 rfl (lv_at hl 2 rfl) ?_
    refine lv_iconst (v := (-1)) hx hb dX12_orders_131 (by decide) ?_
    refine lv_icmp_eq (tgt := 159) hx hb dX12_orders_132 (by decide) (fun c_15 => ?_) (fun c_15 => ?_)
    · have hp := ite_p hp c_15
      simp only [Option.some.injEq, Prod.mk.injEq] at hp
      subst hp
      exact e_RV hx hb hr hk hP hD hS dX12_orders_159
    · have hp := ite_n hp c_15
      refine lv_aload_n hx hb dX12_orders_135 rfl (lv_at hl 0 rfl) ?_
      refine lv_aload_n hx hb dX12_orders_136 rfl (lv_at hl 0 rfl) ?_
      refine gf_X12_33 hx hb hts hown hK hP 0 rfl rfl dX12_orders_137 ?_
      refine lv_iload hx hb dX12_orders_140 (lv_at hl 3 rfl) ?_
      obtain ⟨hi_16, hp⟩ := ckI_s hp
      refine r_ild hx hb hK hP 8 rfl hi_16 dX12_orders_142 ?_
      refine lv_aload_n hx hb dX12_orders_143 rfl (lv_at hl 0 rfl) ?_
      refine gf_X12_42 hx hb hts hown hK hP 0 rfl rfl dX12_orders_144 ?_
      refine lv_iload hx hb dX12_orders_147 (lv_at hl 3 rfl) ?_
      refine r_ild hx hb hK hP 11 rfl hi_16 dX12_orders_149 ?_
      obtain ⟨mo_18, hc_17, hp⟩ := bn1_s hp
      refine k_RVV (As := [.int (mo 16 x4.toNatClampNeg), .int (mo 19 x4.toNatClampNeg)]) (rest := []) ⟨hx, hb, hml, hown, hts⟩ hK hP hD hS hA FrS_rf (cw_X12_174 hts ⟨Nat.le_of_ble_eq_true rfl, Nat.le_of_ble_eq_true rfl⟩) 0 (ci := 12) rfl rfl rfl (c_X12_gives l D cy qmo mo (mo 16 x4.toNatClampNeg) (mo 19 x4.toNatClampNeg) mo_18 hc_17) rfl hl.1 (Nat.le_of_ble_eq_true rfl) ⟨Nat.le_refl _, Nat.le_refl _⟩ dX12_orders_150 (fun H locs hP hD hS => ?_)
      obtain ⟨x4_19, ex4_19⟩ : ∃ y : Int32, y = x4 + 1 := ⟨_, rfl⟩
      have hp := stk_e hp ex4_19
      refine lv_iinc (v := x4_19) (lv' := [(4, .int x4_19), (0, .ref (qmo 0)), (1, .int p1), (2, .int x2)]) hx hb dX12_orders_153 hl (k := 3) rfl (by rw [ex4_19]; rfl) (by decide) rfl (fun ls hl => ?_)
      refine lv_goto (tgt := 121) hx hb dX12_orders_156 (by decide) ?_
      exact hk121 mo_18 x2 x4_19 _ _ _ hP hD hS (lv_sub hl [1, 2, 3, 0] rfl) hp
theorem Mo_orders_b121_w (C0 : cX RX12 cX12_orders none 6 p s m args meth c) (hK : kN D cy s) {qmo : Nat → Nat} {p1 : Int32} {mo' : Mem} (hA : ∀ q, s.heap.size ≤ q → A q) : ∀ (n : Nat) (mo : Mem) (x2 x4 : Int32) (H : Heap) (locs : List Loc) (ls : Array Slot), va_P D vwCl (w_Mo cy qmo mo) H → va_D A (w_Mo cy qmo mo) → va_S A s.heap H locs → lv_has ls 6 [(0, .ref (qmo 0)), (1, .int p1), (2, .int x2), (4, .int x4)] → Mo_orders_b121 p1 n mo x2 x4 = some mo' → W p l e (rmD 5) s m args below meth c H locs 0 0 (qRV D below args s A (w_Mo cy qmo mo')) (F0 m 121 ls []) := by
  intro n
  induction n with
  | zero =>
    intro mo x2 x4 H locs ls hP hD hS hl hp
    cases hp
  | succ n ih =>
    intro mo x2 x4 H locs ls hP hD hS hl hp
    exact Mo_orders_b121B_w C0 hK hA  (fun mo x2 x4 H locs ls hP hD hS hl hp => ih mo x2 x4 H locs ls hP hD hS hl hp) hP hD hS hl hp
set_option maxHeartbeats 4000000 in
set_option maxRecDepth 100000 in
theorem Mo_orders_b110_w (C0 : cX RX12 cX12_orders none 6 p s m args meth c) (hK : kN D cy s) {qmo : Nat → Nat} {p1 : Int32} {mo' : Mem} (hA : ∀ q, s.heap.size ≤ q → A q) {k43 : Mem → Int32 → Int32 → Option (Mem)} (hk43 : ∀ (mo : Mem) (x2 x3 : Int32) (H : Heap) (locs : List Loc) (ls : Array Slot), va_P D vwCl (w_Mo cy qmo mo) H → va_D A (w_Mo cy qmo mo) → va_S A s.heap H locs → lv_has ls 6 [(0, .ref (qmo 0)), (1, .int p1), (2, .int x2), (3, .int x3)] → k43 mo x2 x3 = some mo' → W p l e (rmD 5) s m args below meth c H locs 0 0 (qRV D below args s A (w_Mo cy qmo mo')) (F0 m 43 ls [])) {mo : Mem} {x2 : Int32} {H : Heap} {locs : List Loc} (hP : va_P D vwCl (w_Mo cy qmo mo) H) (hD : va_D A (w_Mo cy qmo mo)) (hS : va_S A s.heap H locs) {ls : Array Slot} (hl : lv_has ls 6 [(0, .ref (qmo 0)), (1, .int p1), (2, .int x2)]) (hp : Mo_orders_b110 p1 k43 mo x2 = some mo') : W p l e (rmD 5) s m args below meth c H locs 0 0 (qRV D below args s A (w_Mo cy qmo mo')) (F0 m 110 ls []) := by
  obtain ⟨hx, hb, hr, hml, hown, hts, hk⟩ := id C0
  unfold Mo_orders_b110 at hp
  refine lv_aload_n hx hb dX12_orders_110 rfl (lv_at hl 0 rfl) ?_
  obtain ⟨r_21, mo_22, hc_20, hp⟩ := bn2_s hp
  refine k_RIV (As := []) (rest := []) ⟨hx, hb, hml, hown, hts⟩ hK hP hD hS hA FrS_rf (cw_X12_270 hts ⟨Nat.le_of_ble_eq_true rfl, Nat.le_of_ble_eq_true rfl⟩) 0 (ci := 12) rfl rfl rfl (c_X12_goesOn l D cy qmo mo r_21 mo_22 hc_20) rfl hl.1 (Nat.le_of_ble_eq_true rfl) ⟨Nat.le_refl _, Nat.le_refl _⟩ dX12_orders_111 (fun H locs hP hD hS => ?_)
  refine lv_istore_n (lv' := [(3, .int r_21), (0, .ref (qmo 0)), (1, .int p1), (2, .int x2)]) hx hb dX12_orders_114 rfl hl (by decide) rfl (fun ls hl => ?_)
  refine lv_goto (tgt := 43) hx hb dX12_orders_115 (by decide) ?_
  exact hk43 mo_22 x2 r_21 _ _ _ hP hD hS (lv_sub hl [1, 2, 3, 0] rfl) hp
set_option maxHeartbeats 4000000 in
set_option maxRecDepth 100000 in
theorem Mo_orders_b76B_w (C0 : cX RX12 cX12_orders none 6 p s m args meth c) (hK : kN D cy s) {qmo : Nat → Nat} {p1 : Int32} {mo' : Mem} (hA : ∀ q, s.heap.size ≤ q → A q) {k43 : Mem → Int32 → Int32 → Option (Mem)} (hk43 : ∀ (mo : Mem) (x2 x3 : Int32) (H : Heap) (locs : List Loc) (ls : Array Slot), va_P D vwCl (w_Mo cy qmo mo) H → va_D A (w_Mo cy qmo mo) → va_S A s.heap H locs → lv_has ls 6 [(0, .ref (qmo 0)), (1, .int p1), (2, .int x2), (3, .int x3)] → k43 mo x2 x3 = some mo' → W p l e (rmD 5) s m args below meth c H locs 0 0 (qRV D below args s A (w_Mo cy qmo mo')) (F0 m 43 ls [])) {k76 : Mem → Int32 → Int32 → Option (Mem)} (hk76 : ∀ (mo : Mem) (x2 x5 : Int32) (H : Heap) (locs : List Loc) (ls : Array Slot), va_P D vwCl (w_Mo cy qmo mo) H → va_D A (w_Mo cy qmo mo) → va_S A s.heap H locs → lv_has ls 6 [(0, .ref (qmo 0)), (1, .int p1), (2, .int x2), (5, .int x5)] → k76 mo x2 x5 = some mo' → W p l e (rmD 5) s m args below meth c H locs 0 0 (qRV D below args s A (w_Mo cy qmo mo')) (F0 m 76 ls [])) {mo : Mem} {x2 : Int32} {x5 : Int32} {H : Heap} {locs : List Loc} (hP : va_P D vwCl (w_Mo cy qmo mo) H) (hD : va_D A (w_Mo cy qmo mo)) (hS : va_S A s.heap H locs) {ls : Array Slot} (hl : lv_has ls 6 [(0, .ref (qmo 0)), (1, .int p1), (2, .int x2), (5, .int x5)]) (hp : Mo_orders_b76B p1 k43 k76 mo x2 x5 = some mo') : W p l e (rmD 5) s m args below meth c H locs 0 0 (qRV D below args s A (w_Mo cy qmo mo')) (F0 m 76 ls []) := by
  obtain ⟨hx, hb, hr, hml, hown, hts, hk⟩ := id C0
  unfold Mo_orders_b76B at hp
  refine lv_iload hx hb dX12_orders_76 (lv_at hl 3 rfl) ?_
  refine lv_aload_n hx hb dX12_orders_78 rfl (lv_at hl 0 rfl) ?_
  refine gf_X12_261 hx hb hts hown hK hP 0 rfl rfl dX12_orders_79 ?_
  refine lv_icmp_ge (tgt := 110) hx hb dX12_orders_82 (by decide) (fun c_23 => ?_) (fun c_23 => ?_)
  · have hp := ite_p hp c_23
    exact Mo_orders_b110_w C0 hK hA hk43 hP hD hS (lv_sub hl [0, 1, 2] rfl) hp
  · have hp := ite_n hp c_23
    refine lv_aload_n hx hb dX12_orders_85 rfl (lv_at hl 0 rfl) ?_
    refine gf_X12_42 hx hb hts hown hK hP 0 rfl rfl dX12_orders_86 ?_
    refine lv_iload hx hb dX12_orders_89 (lv_at hl 3 rfl) ?_
    refine lv_aload_n hx hb dX12_orders_91 rfl (lv_at hl 0 rfl) ?_
    refine gf_X12_36 hx hb hts hown hK hP 0 rfl rfl dX12_orders_92 ?_
    refine lv_aload_n hx hb dX12_orders_95 rfl (lv_at hl 0 rfl) ?_
    refine gf_X12_39 hx hb hts hown hK hP 0 rfl rfl dX12_orders_96 ?_
    refine lv_iload hx hb dX12_orders_99 (lv_at hl 3 rfl) ?_
    obtain ⟨hi_24, hp⟩ := ckI_s hp
    refine r_ild hx hb hK hP 10 rfl hi_24 dX12_orders_101 ?_
    obtain ⟨hi_25, hp⟩ := ckI_s hp
    refine r_ild hx hb hK hP 9 rfl hi_25 dX12_orders_102 ?_
    obtain ⟨mo_26, emo_26⟩ : ∃ y : Mem, y = upm mo 19 x5.toNatClampNeg (mo 17 (mo 18 x5.toNatClampNeg).toNatClampNeg) := ⟨_, rfl⟩
    have hp := stk_e hp emo_26
    refine r_ist hx hb hK hP hD hS (wn := (w_Mo cy qmo mo_26)) 11 rfl hi_24 (by subst emo_26; rfl) dX12_orders_103 (fun H locs hP hD hS => ?_)
    obtain ⟨x5_27, ex5_27⟩ : ∃ y : Int32, y = x5 + 1 := ⟨_, rfl⟩
    have hp := stk_e hp ex5_27
    refine lv_iinc (v := x5_27) (lv' := [(5, .int x5_27), (0, .ref (qmo 0)), (1, .int p1), (2, .int x2)]) hx hb dX12_orders_104 hl (k := 3) rfl (by rw [ex5_27]; rfl) (by decide) rfl (fun ls hl => ?_)
    refine lv_goto (tgt := 76) hx hb dX12_orders_107 (by decide) ?_
    exact hk76 mo_26 x2 x5_27 _ _ _ hP hD hS (lv_sub hl [1, 2, 3, 0] rfl) hp
theorem Mo_orders_b76_w (C0 : cX RX12 cX12_orders none 6 p s m args meth c) (hK : kN D cy s) {qmo : Nat → Nat} {p1 : Int32} {mo' : Mem} (hA : ∀ q, s.heap.size ≤ q → A q) {k43 : Mem → Int32 → Int32 → Option (Mem)} (hk43 : ∀ (mo : Mem) (x2 x3 : Int32) (H : Heap) (locs : List Loc) (ls : Array Slot), va_P D vwCl (w_Mo cy qmo mo) H → va_D A (w_Mo cy qmo mo) → va_S A s.heap H locs → lv_has ls 6 [(0, .ref (qmo 0)), (1, .int p1), (2, .int x2), (3, .int x3)] → k43 mo x2 x3 = some mo' → W p l e (rmD 5) s m args below meth c H locs 0 0 (qRV D below args s A (w_Mo cy qmo mo')) (F0 m 43 ls [])) : ∀ (n : Nat) (mo : Mem) (x2 x5 : Int32) (H : Heap) (locs : List Loc) (ls : Array Slot), va_P D vwCl (w_Mo cy qmo mo) H → va_D A (w_Mo cy qmo mo) → va_S A s.heap H locs → lv_has ls 6 [(0, .ref (qmo 0)), (1, .int p1), (2, .int x2), (5, .int x5)] → Mo_orders_b76 p1 k43 n mo x2 x5 = some mo' → W p l e (rmD 5) s m args below meth c H locs 0 0 (qRV D below args s A (w_Mo cy qmo mo')) (F0 m 76 ls []) := by
  intro n
  induction n with
  | zero =>
    intro mo x2 x5 H locs ls hP hD hS hl hp
    cases hp
  | succ n ih =>
    intro mo x2 x5 H locs ls hP hD hS hl hp
    exact Mo_orders_b76B_w C0 hK hA hk43 (fun mo x2 x5 H locs ls hP hD hS hl hp => ih mo x2 x5 H locs ls hP hD hS hl hp) hP hD hS hl hp
set_option maxHeartbeats 4000000 in
set_option maxRecDepth 100000 in
theorem Mo_orders_b43B_w (C0 : cX RX12 cX12_orders none 6 p s m args meth c) (hK : kN D cy s) {qmo : Nat → Nat} {p1 : Int32} {mo' : Mem} (hA : ∀ q, s.heap.size ≤ q → A q) {k43 : Mem → Int32 → Int32 → Option (Mem)} (hk43 : ∀ (mo : Mem) (x2 x3 : Int32) (H : Heap) (locs : List Loc) (ls : Array Slot), va_P D vwCl (w_Mo cy qmo mo) H → va_D A (w_Mo cy qmo mo) → va_S A s.heap H locs → lv_has ls 6 [(0, .ref (qmo 0)), (1, .int p1), (2, .int x2), (3, .int x3)] → k43 mo x2 x3 = some mo' → W p l e (rmD 5) s m args below meth c H locs 0 0 (qRV D below args s A (w_Mo cy qmo mo')) (F0 m 43 ls [])) {mo : Mem} {x2 : Int32} {x3 : Int32} {H : Heap} {locs : List Loc} (hP : va_P D vwCl (w_Mo cy qmo mo) H) (hD : va_D A (w_Mo cy qmo mo)) (hS : va_S A s.heap H locs) {ls : Array Slot} (hl : lv_has ls 6 [(0, .ref (qmo 0)), (1, .int p1), (2, .int x2), (3, .int x3)]) (hp : Mo_orders_b43B p1 k43 mo x2 x3 = some mo') : W p l e (rmD 5) s m args below meth c H locs 0 0 (qRV D below args s A (w_Mo cy qmo mo')) (F0 m 43 ls []) := by
  obtain ⟨hx, hb, hr, hml, hown, hts, hk⟩ := id C0
  unfold Mo_orders_b43B at hp
  refine lv_iload_n hx hb dX12_orders_43 rfl (lv_at hl 3 rfl) ?_
  refine lv_if_eq (tgt := 118) hx hb dX12_orders_44 (by decide) (fun c_8 => ?_) (fun c_8 => ?_)
  · have hp := ite_p hp c_8
    refine lv_iconst (v := 0) hx hb dX12_orders_118 (by decide) ?_
    refine lv_istore (lv' := [(4, .int 0), (0, .ref (qmo 0)), (1, .int p1), (2, .int x2), (3, .int x3)]) hx hb dX12_orders_119 hl (by decide) rfl (fun ls hl => ?_)
    exact Mo_orders_b121_w C0 hK hA  fl mo x2 0 _ _ _ hP hD hS (lv_sub hl [1, 2, 3, 0] rfl) hp
  · have hp := ite_n hp c_8
    refine lv_aload_n hx hb dX12_orders_47 rfl (lv_at hl 0 rfl) ?_
    obtain ⟨r_10, hc_9, hp⟩ := bn1_s hp
    refine k_ROV (As := []) (rest := []) ⟨hx, hb, hml, hown, hts⟩ hK hP (cw_X12_267 hts ⟨Nat.le_of_ble_eq_true rfl, Nat.le_of_ble_eq_true rfl⟩) 0 (ci := 12) rfl rfl rfl (c_X12_rowCost l D cy qmo mo r_10 hc_9) rfl hl.1 (Nat.le_of_ble_eq_true rfl) ⟨Nat.le_refl _, Nat.le_refl _⟩ dX12_orders_48 ?_
    refine lv_istore (lv' := [(4, .int r_10), (0, .ref (qmo 0)), (1, .int p1), (2, .int x2), (3, .int x3)]) hx hb dX12_orders_51 hl (by decide) rfl (fun ls hl => ?_)
    refine lv_iload hx hb dX12_orders_53 (lv_at hl 0 rfl) ?_
    refine lv_iconst (v := (-1)) hx hb dX12_orders_55 (by decide) ?_
    refine lv_icmp_eq (tgt := 110) hx hb dX12_orders_56 (by decide) (fun c_11 => ?_) (fun c_11 => ?_)
    · have hp := ite_p hp c_11
      exact Mo_orders_b110_w C0 hK hA hk43 hP hD hS (lv_sub hl [1, 2, 3] rfl) hp
    · have hp := ite_n hp c_11
      refine lv_iload_n hx hb dX12_orders_59 rfl (lv_at hl 3 rfl) ?_
      refine lv_iconst (v := (-1)) hx hb dX12_orders_60 (by decide) ?_
      refine lv_icmp_eq (tgt := 70) hx hb dX12_orders_61 (by decide) (fun c_12 => ?_) (fun c_12 => ?_)
      · have hp := ite_p hp c_12
        refine lv_iload hx hb dX12_orders_70 (lv_at hl 0 rfl) ?_
        refine lv_istore_n (lv' := [(2, .int r_10), (4, .int r_10), (0, .ref (qmo 0)), (1, .int p1), (3, .int x3)]) hx hb dX12_orders_72 rfl hl (by decide) rfl (fun ls hl => ?_)
        refine lv_iconst (v := 0) hx hb dX12_orders_73 (by decide) ?_
        refine lv_istore (lv' := [(5, .int 0), (2, .int r_10), (4, .int r_10), (0, .ref (qmo 0)), (1, .int p1), (3, .int x3)]) hx hb dX12_orders_74 hl (by decide) rfl (fun ls hl => ?_)
        exact Mo_orders_b76_w C0 hK hA hk43 fl mo r_10 0 _ _ _ hP hD hS (lv_sub hl [3, 4, 1, 0] rfl) hp
      · have hp := ite_n hp c_12
        refine lv_iload hx hb dX12_orders_64 (lv_at hl 0 rfl) ?_
        refine lv_iload_n hx hb dX12_orders_66 rfl (lv_at hl 3 rfl) ?_
        refine lv_icmp_ge (tgt := 110) hx hb dX12_orders_67 (by decide) (fun c_13 => ?_) (fun c_13 => ?_)
        · have hp := ite_p hp c_13
          exact Mo_orders_b110_w C0 hK hA hk43 hP hD hS (lv_sub hl [1, 2, 3] rfl) hp
        · have hp := ite_n hp c_13
          refine lv_iload hx hb dX12_orders_70 (lv_at hl 0 rfl) ?_
          refine lv_istore_n (lv' := [(2, .int r_10), (4, .int r_10), (0, .ref (qmo 0)), (1, .int p1), (3, .int x3)]) hx hb dX12_orders_72 rfl hl (by decide) rfl (fun ls hl => ?_)
          refine lv_iconst (v := 0) hx hb dX12_orders_73 (by decide) ?_
          refine lv_istore (lv' := [(5, .int 0), (2, .int r_10), (4, .int r_10), (0, .ref (qmo 0)), (1, .int p1), (3, .int x3)]) hx hb dX12_orders_74 hl (by decide) rfl (fun ls hl => ?_)
          exact Mo_orders_b76_w C0 hK hA hk43 fl mo r_10 0 _ _ _ hP hD hS (lv_sub hl [3, 4, 1, 0] rfl) hp
theorem Mo_orders_b43_w (C0 : cX RX12 cX12_orders none 6 p s m args meth c) (hK : kN D cy s) {qmo : Nat → Nat} {p1 : Int32} {mo' : Mem} (hA : ∀ q, s.heap.size ≤ q → A q) : ∀ (n : Nat) (mo : Mem) (x2 x3 : Int32) (H : Heap) (locs : List Loc) (ls : Array Slot), va_P D vwCl (w_Mo cy qmo mo) H → va_D A (w_Mo cy qmo mo) → va_S A s.heap H locs → lv_has ls 6 [(0, .ref (qmo 0)), (1, .int p1), (2, .int x2), (3, .int x3)] → Mo_orders_b43 p1 n mo x2 x3 = some mo' → W p l e (rmD 5) s m args below meth c H locs 0 0 (qRV D below args s A (w_Mo cy qmo mo')) (F0 m 43 ls []) := by
  intro n
  induction n with
  | zero =>
    intro mo x2 x3 H locs ls hP hD hS hl hp
    cases hp
  | succ n ih =>
    intro mo x2 x3 H locs ls hP hD hS hl hp
    exact Mo_orders_b43B_w C0 hK hA  (fun mo x2 x3 H locs ls hP hD hS hl hp => ih mo x2 x3 H locs ls hP hD hS hl hp) hP hD hS hl hp
set_option maxHeartbeats 4000000 in
set_option maxRecDepth 100000 in
theorem Mo_orders_b7B_w (C0 : cX RX12 cX12_orders none 6 p s m args meth c) (hK : kN D cy s) {qmo : Nat → Nat} {p1 : Int32} {mo' : Mem} (hA : ∀ q, s.heap.size ≤ q → A q) {k7 : Mem → Int32 → Option (Mem)} (hk7 : ∀ (mo : Mem) (x2 : Int32) (H : Heap) (locs : List Loc) (ls : Array Slot), va_P D vwCl (w_Mo cy qmo mo) H → va_D A (w_Mo cy qmo mo) → va_S A s.heap H locs → lv_has ls 6 [(0, .ref (qmo 0)), (1, .int p1), (2, .int x2)] → k7 mo x2 = some mo' → W p l e (rmD 5) s m args below meth c H locs 0 0 (qRV D below args s A (w_Mo cy qmo mo')) (F0 m 7 ls [])) {mo : Mem} {x2 : Int32} {H : Heap} {locs : List Loc} (hP : va_P D vwCl (w_Mo cy qmo mo) H) (hD : va_D A (w_Mo cy qmo mo)) (hS : va_S A s.heap H locs) {ls : Array Slot} (hl : lv_has ls 6 [(0, .ref (qmo 0)), (1, .int p1), (2, .int x2)]) (hp : Mo_orders_b7B p1 k7 mo x2 = some mo') : W p l e (rmD 5) s m args below meth c H locs 0 0 (qRV D below args s A (w_Mo cy qmo mo')) (F0 m 7 ls []) := by
  obtain ⟨hx, hb, hr, hml, hown, hts, hk⟩ := id C0
  unfold Mo_orders_b7B at hp
  refine lv_iload_n hx hb dX12_orders_7 rfl (lv_at hl 2 rfl) ?_
  refine lv_aload_n hx hb dX12_orders_8 rfl (lv_at hl 0 rfl) ?_
  refine gf_X12_261 hx hb hts hown hK hP 0 rfl rfl dX12_orders_9 ?_
  refine lv_icmp_ge (tgt := 28) hx hb dX12_orders_12 (by decide) (fun c_3 => ?_) (fun c_3 => ?_)
  · have hp := ite_p hp c_3
    refine lv_iconst (v := (-1)) hx hb dX12_orders_28 (by decide) ?_
    refine lv_istore_n (lv' := [(2, .int (-1)), (0, .ref (qmo 0)), (1, .int p1)]) hx hb dX12_orders_29 rfl hl (by decide) rfl (fun ls hl => ?_)
    refine lv_aload_n hx hb dX12_orders_30 rfl (lv_at hl 1 rfl) ?_
    refine gf_X12_261 hx hb hts hown hK hP 0 rfl rfl dX12_orders_31 ?_
    refine lv_if_le (tgt := 41) hx hb dX12_orders_34 (by decide) (fun c_4 => ?_) (fun c_4 => ?_)
    · have hp := ite_p hp c_4
      refine lv_iconst (v := 0) hx hb dX12_orders_41 (by decide) ?_
      refine lv_istore_n (lv' := [(3, .int 0), (2, .int (-1)), (0, .ref (qmo 0)), (1, .int p1)]) hx hb dX12_orders_42 rfl hl (by decide) rfl (fun ls hl => ?_)
      exact Mo_orders_b43_w C0 hK hA  fl mo (-1) 0 _ _ _ hP hD hS (lv_sub hl [2, 3, 1, 0] rfl) hp
    · have hp := ite_n hp c_4
      refine lv_iconst (v := 1) hx hb dX12_orders_37 (by decide) ?_
      refine lv_goto (tgt := 42) hx hb dX12_orders_38 (by decide) ?_
      refine lv_istore_n (lv' := [(3, .int 1), (2, .int (-1)), (0, .ref (qmo 0)), (1, .int p1)]) hx hb dX12_orders_42 rfl hl (by decide) rfl (fun ls hl => ?_)
      exact Mo_orders_b43_w C0 hK hA  fl mo (-1) 1 _ _ _ hP hD hS (lv_sub hl [2, 3, 1, 0] rfl) hp
  · have hp := ite_n hp c_3
    refine lv_aload_n hx hb dX12_orders_15 rfl (lv_at hl 0 rfl) ?_
    refine gf_X12_39 hx hb hts hown hK hP 0 rfl rfl dX12_orders_16 ?_
    refine lv_iload_n hx hb dX12_orders_19 rfl (lv_at hl 2 rfl) ?_
    refine lv_iload_n hx hb dX12_orders_20 rfl (lv_at hl 2 rfl) ?_
    obtain ⟨hi_5, hp⟩ := ckI_s hp
    obtain ⟨mo_6, emo_6⟩ : ∃ y : Mem, y = upm mo 18 x2.toNatClampNeg x2 := ⟨_, rfl⟩
    have hp := stk_e hp emo_6
    refine r_ist hx hb hK hP hD hS (wn := (w_Mo cy qmo mo_6)) 10 rfl hi_5 (by subst emo_6; rfl) dX12_orders_21 (fun H locs hP hD hS => ?_)
    obtain ⟨x2_7, ex2_7⟩ : ∃ y : Int32, y = x2 + 1 := ⟨_, rfl⟩
    have hp := stk_e hp ex2_7
    refine lv_iinc (v := x2_7) (lv' := [(2, .int x2_7), (0, .ref (qmo 0)), (1, .int p1)]) hx hb dX12_orders_22 hl (k := 2) rfl (by rw [ex2_7]; rfl) (by decide) rfl (fun ls hl => ?_)
    refine lv_goto (tgt := 7) hx hb dX12_orders_25 (by decide) ?_
    exact hk7 mo_6 x2_7 _ _ _ hP hD hS (lv_sub hl [1, 2, 0] rfl) hp
theorem Mo_orders_b7_w (C0 : cX RX12 cX12_orders none 6 p s m args meth c) (hK : kN D cy s) {qmo : Nat → Nat} {p1 : Int32} {mo' : Mem} (hA : ∀ q, s.heap.size ≤ q → A q) : ∀ (n : Nat) (mo : Mem) (x2 : Int32) (H : Heap) (locs : List Loc) (ls : Array Slot), va_P D vwCl (w_Mo cy qmo mo) H → va_D A (w_Mo cy qmo mo) → va_S A s.heap H locs → lv_has ls 6 [(0, .ref (qmo 0)), (1, .int p1), (2, .int x2)] → Mo_orders_b7 p1 n mo x2 = some mo' → W p l e (rmD 5) s m args below meth c H locs 0 0 (qRV D below args s A (w_Mo cy qmo mo')) (F0 m 7 ls []) := by
  intro n
  induction n with
  | zero =>
    intro mo x2 H locs ls hP hD hS hl hp
    cases hp
  | succ n ih =>
    intro mo x2 H locs ls hP hD hS hl hp
    exact Mo_orders_b7B_w C0 hK hA  (fun mo x2 H locs ls hP hD hS hl hp => ih mo x2 H locs ls hP hD hS hl hp) hP hD hS hl hp
set_option maxHeartbeats 4000000 in
set_option maxRecDepth 100000 in
theorem c_X12_orders (l : Launch) (D : va_G) (cy : Nat → ClassId) (qmo : Nat → Nat) (mo : Mem) (p1 : Int32) (mo' : Mem) (hp : Mo_orders mo p1 = some mo') : RV l yX12_orders cX12_orders 6 5 D cy [.ref (qmo 0), .int p1] (w_Mo cy qmo mo) (w_Mo cy qmo mo') := by
  refine RV_of RX12 rfl (by decide) (Nat.le_of_ble_eq_true rfl) ?_
  intro p e s m below meth c A C0 hK hP hD hS hA ls hl
  obtain ⟨hx, hb, hr, hml, hown, hts, hk⟩ := id C0
  unfold Mo_orders at hp
  have hl : lv_has ls 6 [(0, .ref (qmo 0)), (1, .int p1)] := hl
  refine lv_aload_n hx hb dX12_orders_0 rfl (lv_at hl 0 rfl) ?_
  refine lv_iload_n hx hb dX12_orders_1 rfl (lv_at hl 1 rfl) ?_
  obtain ⟨mo_2, hc_1, hp⟩ := bn1_s hp
  refine k_RVV (As := [.int p1]) (rest := []) ⟨hx, hb, hml, hown, hts⟩ hK hP hD hS hA FrS_rf (cw_X12_264 hts ⟨Nat.le_of_ble_eq_true rfl, Nat.le_of_ble_eq_true rfl⟩) 0 (ci := 12) rfl rfl rfl (c_X12_laysTraders l D cy qmo mo p1 mo_2 hc_1) rfl hl.1 (Nat.le_of_ble_eq_true rfl) ⟨Nat.le_refl _, Nat.le_refl _⟩ dX12_orders_2 (fun H locs hP hD hS => ?_)
  refine lv_iconst (v := 0) hx hb dX12_orders_5 (by decide) ?_
  refine lv_istore_n (lv' := [(2, .int 0), (0, .ref (qmo 0)), (1, .int p1)]) hx hb dX12_orders_6 rfl hl (by decide) rfl (fun ls hl => ?_)
  exact Mo_orders_b7_w C0 hK hA  fl mo_2 0 _ _ _ hP hD hS (lv_sub hl [1, 2, 0] rfl) hp
/-! StormSlotsModel.bestOrder(II)I -/
def Mo_bestOrder_b78 (p1 : Int32) (p2 : Int32) (mo : Mem) (y0 : Int32) : Option (Int32 × Mem) :=
  bn1 (Mo_takes mo 8) (fun mo_25 => some (y0, mo_25))
def Mo_bestOrder_b48 (p1 : Int32) (p2 : Int32) (mo : Mem) : Option (Int32 × Mem) :=
  bn1 (Mo_lays mo 8) (fun mo_16 => bn1 (Mo_orders mo_16 p1) (fun mo_18 => if p2 = (-1) then bn1 (Mo_lineCost mo_18 p1) (fun r_23 => Mo_bestOrder_b78 p1 p2 mo_18 r_23) else bn1 (Mo_of mo_18 p2 4) (fun r_21 => Mo_bestOrder_b78 p1 p2 mo_18 r_21)))
def Mo_bestOrder_b22 (p1 : Int32) (p2 : Int32) (mo : Mem) : Option (Int32 × Mem) :=
  if p2 = (-1) then Mo_bestOrder_b48 p1 p2 mo else bn1 (Mo_of mo p2 0) (fun r_10 => if r_10 = p1 then bn1 (Mo_isPlanned mo p2) (fun r_13 => if r_13 = 0 then some ((-2), mo) else Mo_bestOrder_b48 p1 p2 mo) else some ((-2), mo))
def Mo_bestOrder (mo : Mem) (p1 : Int32) (p2 : Int32) : Option (Int32 × Mem) :=
  bn1 (Mo_isLine p1) (fun r_2 => if r_2 = 0 then some ((-1), mo) else if p2 = (-1) then Mo_bestOrder_b22 p1 p2 mo else bn1 (Mo_isFlight mo p2) (fun r_6 => if r_6 = 0 then some ((-1), mo) else Mo_bestOrder_b22 p1 p2 mo))
set_option maxHeartbeats 4000000 in
set_option maxRecDepth 100000 in
theorem Mo_bestOrder_b78_w (C0 : cX RX12 cX12_bestOrder (some .int) 4 p s m args meth c) (hK : kN D cy s) {qmo : Nat → Nat} {p1 p2 : Int32} {r : Int32} {mo' : Mem} (hA : ∀ q, s.heap.size ≤ q → A q) {mo : Mem} {y0 : Int32} {H : Heap} {locs : List Loc} (hP : va_P D vwCl (w_Mo cy qmo mo) H) (hD : va_D A (w_Mo cy qmo mo)) (hS : va_S A s.heap H locs) {ls : Array Slot} (hl : lv_has ls 4 [(0, .ref (qmo 0)), (1, .int p1), (2, .int p2)]) (hp : Mo_bestOrder_b78 p1 p2 mo y0 = some (r, mo')) : W p l e (rmD 6) s m args below meth c H locs 0 0 (qRI D below args s A (w_Mo cy qmo mo') r) (F0 m 78 ls [.int y0]) := by
  obtain ⟨hx, hb, hr, hml, hown, hts, hk⟩ := id C0
  unfold Mo_bestOrder_b78 at hp
  refine lv_istore_n (lv' := [(3, .int y0), (0, .ref (qmo 0)), (1, .int p1), (2, .int p2)]) hx hb dX12_bestOrder_78 rfl hl (by decide) rfl (fun ls hl => ?_)
  refine lv_aload_n hx hb dX12_bestOrder_79 rfl (lv_at hl 1 rfl) ?_
  refine lv_bipush (v := 8) hx hb dX12_bestOrder_80 (by decide) ?_
  obtain ⟨mo_25, hc_24, hp⟩ := bn1_s hp
  refine k_RVV (As := [.int 8]) (rest := []) ⟨hx, hb, hml, hown, hts⟩ hK hP hD hS hA FrS_rf (cw_X12_246 hts ⟨Nat.le_of_ble_eq_true rfl, Nat.le_of_ble_eq_true rfl⟩) 0 (ci := 12) rfl rfl rfl (c_X12_takes l D cy qmo mo 8 mo_25 hc_24) rfl hl.1 (Nat.le_of_ble_eq_true rfl) ⟨Nat.le_refl _, Nat.le_refl _⟩ dX12_bestOrder_82 (fun H locs hP hD hS => ?_)
  refine lv_iload_n hx hb dX12_bestOrder_85 rfl (lv_at hl 0 rfl) ?_
  simp only [Option.some.injEq, Prod.mk.injEq] at hp
  obtain ⟨h0, rfl⟩ := hp
  exact e_RIi hx hb hr hk hP hD hS dX12_bestOrder_86 h0
set_option maxHeartbeats 4000000 in
set_option maxRecDepth 100000 in
theorem Mo_bestOrder_b48_w (C0 : cX RX12 cX12_bestOrder (some .int) 4 p s m args meth c) (hK : kN D cy s) {qmo : Nat → Nat} {p1 p2 : Int32} {r : Int32} {mo' : Mem} (hA : ∀ q, s.heap.size ≤ q → A q) {mo : Mem} {H : Heap} {locs : List Loc} (hP : va_P D vwCl (w_Mo cy qmo mo) H) (hD : va_D A (w_Mo cy qmo mo)) (hS : va_S A s.heap H locs) {ls : Array Slot} (hl : lv_has ls 4 [(0, .ref (qmo 0)), (1, .int p1), (2, .int p2)]) (hp : Mo_bestOrder_b48 p1 p2 mo = some (r, mo')) : W p l e (rmD 6) s m args below meth c H locs 0 0 (qRI D below args s A (w_Mo cy qmo mo') r) (F0 m 48 ls []) := by
  obtain ⟨hx, hb, hr, hml, hown, hts, hk⟩ := id C0
  unfold Mo_bestOrder_b48 at hp
  refine lv_aload_n hx hb dX12_bestOrder_48 rfl (lv_at hl 0 rfl) ?_
  refine lv_bipush (v := 8) hx hb dX12_bestOrder_49 (by decide) ?_
  obtain ⟨mo_16, hc_15, hp⟩ := bn1_s hp
  refine k_RVV (As := [.int 8]) (rest := []) ⟨hx, hb, hml, hown, hts⟩ hK hP hD hS hA FrS_rf (cw_X12_243 hts ⟨Nat.le_of_ble_eq_true rfl, Nat.le_of_ble_eq_true rfl⟩) 0 (ci := 12) rfl rfl rfl (c_X12_lays l D cy qmo mo 8 mo_16 hc_15) rfl hl.1 (Nat.le_of_ble_eq_true rfl) ⟨Nat.le_refl _, Nat.le_refl _⟩ dX12_bestOrder_51 (fun H locs hP hD hS => ?_)
  refine lv_aload_n hx hb dX12_bestOrder_54 rfl (lv_at hl 0 rfl) ?_
  refine lv_iload_n hx hb dX12_bestOrder_55 rfl (lv_at hl 1 rfl) ?_
  obtain ⟨mo_18, hc_17, hp⟩ := bn1_s hp
  refine k_RVV (As := [.int p1]) (rest := []) ⟨hx, hb, hml, hown, hts⟩ hK hP hD hS hA FrS_rf (cw_X12_274 hts ⟨Nat.le_of_ble_eq_true rfl, Nat.le_of_ble_eq_true rfl⟩) 0 (ci := 12) rfl rfl rfl (c_X12_orders l D cy qmo mo_16 p1 mo_18 hc_17) rfl hl.1 (Nat.le_of_ble_eq_true rfl) ⟨Nat.le_refl _, Nat.le_refl _⟩ dX12_bestOrder_56 (fun H locs hP hD hS => ?_)
  refine lv_iload_n hx hb dX12_bestOrder_59 rfl (lv_at hl 2 rfl) ?_
  refine lv_iconst (v := (-1)) hx hb dX12_bestOrder_60 (by decide) ?_
  refine lv_icmp_ne (tgt := 72) hx hb dX12_bestOrder_61 (by decide) (fun c_19 => ?_) (fun c_19 => ?_)
  · have hp := ite_n hp c_19
    refine lv_aload_n hx hb dX12_bestOrder_72 rfl (lv_at hl 0 rfl) ?_
    refine lv_iload_n hx hb dX12_bestOrder_73 rfl (lv_at hl 2 rfl) ?_
    refine lv_iconst (v := 4) hx hb dX12_bestOrder_74 (by decide) ?_
    obtain ⟨r_21, hc_20, hp⟩ := bn1_s hp
    refine k_ROV (As := [.int p2, .int 4]) (rest := []) ⟨hx, hb, hml, hown, hts⟩ hK hP (cw_X12_128 hts ⟨Nat.le_of_ble_eq_true rfl, Nat.le_of_ble_eq_true rfl⟩) 0 (ci := 12) rfl rfl rfl (c_X12_of l D cy qmo mo_18 p2 4 r_21 hc_20) rfl hl.1 (Nat.le_of_ble_eq_true rfl) ⟨Nat.le_refl _, Nat.le_refl _⟩ dX12_bestOrder_75 ?_
    exact Mo_bestOrder_b78_w C0 hK hA  hP hD hS hl hp
  · have hp := ite_p hp c_19
    refine lv_aload_n hx hb dX12_bestOrder_64 rfl (lv_at hl 0 rfl) ?_
    refine lv_iload_n hx hb dX12_bestOrder_65 rfl (lv_at hl 1 rfl) ?_
    obtain ⟨r_23, hc_22, hp⟩ := bn1_s hp
    refine k_ROV (As := [.int p1]) (rest := []) ⟨hx, hb, hml, hown, hts⟩ hK hP (cw_X12_252 hts ⟨Nat.le_of_ble_eq_true rfl, Nat.le_of_ble_eq_true rfl⟩) 0 (ci := 12) rfl rfl rfl (c_X12_lineCost l D cy qmo mo_18 p1 r_23 hc_22) rfl hl.1 (Nat.le_of_ble_eq_true rfl) ⟨Nat.le_refl _, Nat.le_refl _⟩ dX12_bestOrder_66 ?_
    refine lv_goto (tgt := 78) hx hb dX12_bestOrder_69 (by decide) ?_
    exact Mo_bestOrder_b78_w C0 hK hA  hP hD hS hl hp
set_option maxHeartbeats 4000000 in
set_option maxRecDepth 100000 in
theorem Mo_bestOrder_b22_w (C0 : cX RX12 cX12_bestOrder (some .int) 4 p s m args meth c) (hK : kN D cy s) {qmo : Nat → Nat} {p1 p2 : Int32} {r : Int32} {mo' : Mem} (hA : ∀ q, s.heap.size ≤ q → A q) {mo : Mem} {H : Heap} {locs : List Loc} (hP : va_P D vwCl (w_Mo cy qmo mo) H) (hD : va_D A (w_Mo cy qmo mo)) (hS : va_S A s.heap H locs) {ls : Array Slot} (hl : lv_has ls 4 [(0, .ref (qmo 0)), (1, .int p1), (2, .int p2)]) (hp : Mo_bestOrder_b22 p1 p2 mo = some (r, mo')) : W p l e (rmD 6) s m args below meth c H locs 0 0 (qRI D below args s A (w_Mo cy qmo mo') r) (F0 m 22 ls []) := by
  obtain ⟨hx, hb, hr, hml, hown, hts, hk⟩ := id C0
  unfold Mo_bestOrder_b22 at hp
  refine lv_iload_n hx hb dX12_bestOrder_22 rfl (lv_at hl 2 rfl) ?_
  refine lv_iconst (v := (-1)) hx hb dX12_bestOrder_23 (by decide) ?_
  refine lv_icmp_eq (tgt := 48) hx hb dX12_bestOrder_24 (by decide) (fun c_8 => ?_) (fun c_8 => ?_)
  · have hp := ite_p hp c_8
    exact Mo_bestOrder_b48_w C0 hK hA  hP hD hS hl hp
  · have hp := ite_n hp c_8
    refine lv_aload_n hx hb dX12_bestOrder_27 rfl (lv_at hl 0 rfl) ?_
    refine lv_iload_n hx hb dX12_bestOrder_28 rfl (lv_at hl 2 rfl) ?_
    refine lv_iconst (v := 0) hx hb dX12_bestOrder_29 (by decide) ?_
    obtain ⟨r_10, hc_9, hp⟩ := bn1_s hp
    refine k_ROV (As := [.int p2, .int 0]) (rest := []) ⟨hx, hb, hml, hown, hts⟩ hK hP (cw_X12_128 hts ⟨Nat.le_of_ble_eq_true rfl, Nat.le_of_ble_eq_true rfl⟩) 0 (ci := 12) rfl rfl rfl (c_X12_of l D cy qmo mo p2 0 r_10 hc_9) rfl hl.1 (Nat.le_of_ble_eq_true rfl) ⟨Nat.le_refl _, Nat.le_refl _⟩ dX12_bestOrder_30 ?_
    refine lv_iload_n hx hb dX12_bestOrder_33 rfl (lv_at hl 1 rfl) ?_
    refine lv_icmp_ne (tgt := 45) hx hb dX12_bestOrder_34 (by decide) (fun c_11 => ?_) (fun c_11 => ?_)
    · have hp := ite_n hp c_11
      refine lv_bipush (v := (-2)) hx hb dX12_bestOrder_45 (by decide) ?_
      simp only [Option.some.injEq, Prod.mk.injEq] at hp
      obtain ⟨h0, rfl⟩ := hp
      exact e_RIi hx hb hr hk hP hD hS dX12_bestOrder_47 h0
    · have hp := ite_p hp c_11
      refine lv_aload_n hx hb dX12_bestOrder_37 rfl (lv_at hl 0 rfl) ?_
      refine lv_iload_n hx hb dX12_bestOrder_38 rfl (lv_at hl 2 rfl) ?_
      obtain ⟨r_13, hc_12, hp⟩ := bn1_s hp
      refine k_ROV (As := [.int p2]) (rest := []) ⟨hx, hb, hml, hown, hts⟩ hK hP (cw_X12_144 hts ⟨Nat.le_of_ble_eq_true rfl, Nat.le_of_ble_eq_true rfl⟩) 0 (ci := 12) rfl rfl rfl (c_X12_isPlanned l D cy qmo mo p2 r_13 hc_12) rfl hl.1 (Nat.le_of_ble_eq_true rfl) ⟨Nat.le_refl _, Nat.le_refl _⟩ dX12_bestOrder_39 ?_
      refine lv_if_ne (tgt := 48) hx hb dX12_bestOrder_42 (by decide) (fun c_14 => ?_) (fun c_14 => ?_)
      · have hp := ite_n hp c_14
        exact Mo_bestOrder_b48_w C0 hK hA  hP hD hS hl hp
      · have hp := ite_p hp c_14
        refine lv_bipush (v := (-2)) hx hb dX12_bestOrder_45 (by decide) ?_
        simp only [Option.some.injEq, Prod.mk.injEq] at hp
        obtain ⟨h0, rfl⟩ := hp
        exact e_RIi hx hb hr hk hP hD hS dX12_bestOrder_47 h0
set_option maxHeartbeats 4000000 in
set_option maxRecDepth 100000 in
theorem c_X12_bestOrder (l : Launch) (D : va_G) (cy : Nat → ClassId) (qmo : Nat → Nat) (mo : Mem) (p1 p2 : Int32) (r : Int32) (mo' : Mem) (hp : Mo_bestOrder mo p1 p2 = some (r, mo')) : RI l yX12_bestOrder cX12_bestOrder 4 (some .int) 6 D cy [.ref (qmo 0), .int p1, .int p2] (w_Mo cy qmo mo) (w_Mo cy qmo mo') r := by
  refine RI_of RX12 rfl (by decide) (Nat.le_of_ble_eq_true rfl) ?_
  intro p e s m below meth c A C0 hK hP hD hS hA ls hl
  obtain ⟨hx, hb, hr, hml, hown, hts, hk⟩ := id C0
  unfold Mo_bestOrder at hp
  have hl : lv_has ls 4 [(0, .ref (qmo 0)), (1, .int p1), (2, .int p2)] := hl
  refine lv_iload_n hx hb dX12_bestOrder_0 rfl (lv_at hl 1 rfl) ?_
  obtain ⟨r_2, hc_1, hp⟩ := bn1_s hp
  refine k_ROS (As := [.int p1]) (rest := []) ⟨hx, hb, hml, hown, hts⟩ hK (show va_P D vwCl [] _ from fun k q h => by simp at h) (cw_X12_104 hts ⟨Nat.le_of_ble_eq_true rfl, Nat.le_of_ble_eq_true rfl⟩) (c_X12_isLine l D cy p1 r_2 hc_1) rfl hl.1 (Nat.le_of_ble_eq_true rfl) ⟨Nat.le_refl _, Nat.le_refl _⟩ dX12_bestOrder_1 ?_
  refine lv_if_eq (tgt := 20) hx hb dX12_bestOrder_4 (by decide) (fun c_3 => ?_) (fun c_3 => ?_)
  · have hp := ite_p hp c_3
    refine lv_iconst (v := (-1)) hx hb dX12_bestOrder_20 (by decide) ?_
    simp only [Option.some.injEq, Prod.mk.injEq] at hp
    obtain ⟨h0, rfl⟩ := hp
    exact e_RIi hx hb hr hk hP hD hS dX12_bestOrder_21 h0
  · have hp := ite_n hp c_3
    refine lv_iload_n hx hb dX12_bestOrder_7 rfl (lv_at hl 2 rfl) ?_
    refine lv_iconst (v := (-1)) hx hb dX12_bestOrder_8 (by decide) ?_
    refine lv_icmp_eq (tgt := 22) hx hb dX12_bestOrder_9 (by decide) (fun c_4 => ?_) (fun c_4 => ?_)
    · have hp := ite_p hp c_4
      exact Mo_bestOrder_b22_w C0 hK hA  hP hD hS hl hp
    · have hp := ite_n hp c_4
      refine lv_aload_n hx hb dX12_bestOrder_12 rfl (lv_at hl 0 rfl) ?_
      refine lv_iload_n hx hb dX12_bestOrder_13 rfl (lv_at hl 2 rfl) ?_
      obtain ⟨r_6, hc_5, hp⟩ := bn1_s hp
      refine k_ROV (As := [.int p2]) (rest := []) ⟨hx, hb, hml, hown, hts⟩ hK hP (cw_X12_153 hts ⟨Nat.le_of_ble_eq_true rfl, Nat.le_of_ble_eq_true rfl⟩) 0 (ci := 12) rfl rfl rfl (c_X12_isFlight l D cy qmo mo p2 r_6 hc_5) rfl hl.1 (Nat.le_of_ble_eq_true rfl) ⟨Nat.le_refl _, Nat.le_refl _⟩ dX12_bestOrder_14 ?_
      refine lv_if_ne (tgt := 22) hx hb dX12_bestOrder_17 (by decide) (fun c_7 => ?_) (fun c_7 => ?_)
      · have hp := ite_n hp c_7
        exact Mo_bestOrder_b22_w C0 hK hA  hP hD hS hl hp
      · have hp := ite_p hp c_7
        refine lv_iconst (v := (-1)) hx hb dX12_bestOrder_20 (by decide) ?_
        simp only [Option.some.injEq, Prod.mk.injEq] at hp
        obtain ⟨h0, rfl⟩ := hp
        exact e_RIi hx hb hr hk hP hD hS dX12_bestOrder_21 h0
/-! StormSlotsModel.order(I)I -/
def Mo_order (mo : Mem) (p1 : Int32) : Option (Int32 × Mem) :=
  bn1 (Mo_isLine p1) (fun r_2 => if r_2 = 0 then some ((-1), mo) else bn1 (Mo_lineCost mo p1) (fun r_5 => bn1 (Mo_orders mo p1) (fun mo_7 => bn1 (Mo_lineCost mo_7 p1) (fun r_9 => some ((r_5 - r_9), mo_7)))))
set_option maxHeartbeats 4000000 in
set_option maxRecDepth 100000 in
theorem c_X12_order (l : Launch) (D : va_G) (cy : Nat → ClassId) (qmo : Nat → Nat) (mo : Mem) (p1 : Int32) (r : Int32) (mo' : Mem) (hp : Mo_order mo p1 = some (r, mo')) : RI l yX12_order cX12_order 3 (some .int) 6 D cy [.ref (qmo 0), .int p1] (w_Mo cy qmo mo) (w_Mo cy qmo mo') r := by
  refine RI_of RX12 rfl (by decide) (Nat.le_of_ble_eq_true rfl) ?_
  intro p e s m below meth c A C0 hK hP hD hS hA ls hl
  obtain ⟨hx, hb, hr, hml, hown, hts, hk⟩ := id C0
  unfold Mo_order at hp
  have hl : lv_has ls 3 [(0, .ref (qmo 0)), (1, .int p1)] := hl
  refine lv_iload_n hx hb dX12_order_0 rfl (lv_at hl 1 rfl) ?_
  obtain ⟨r_2, hc_1, hp⟩ := bn1_s hp
  refine k_ROS (As := [.int p1]) (rest := []) ⟨hx, hb, hml, hown, hts⟩ hK (show va_P D vwCl [] _ from fun k q h => by simp at h) (cw_X12_104 hts ⟨Nat.le_of_ble_eq_true rfl, Nat.le_of_ble_eq_true rfl⟩) (c_X12_isLine l D cy p1 r_2 hc_1) rfl hl.1 (Nat.le_of_ble_eq_true rfl) ⟨Nat.le_refl _, Nat.le_refl _⟩ dX12_order_1 ?_
  refine lv_if_ne (tgt := 9) hx hb dX12_order_4 (by decide) (fun c_3 => ?_) (fun c_3 => ?_)
  · have hp := ite_n hp c_3
    refine lv_aload_n hx hb dX12_order_9 rfl (lv_at hl 0 rfl) ?_
    refine lv_iload_n hx hb dX12_order_10 rfl (lv_at hl 1 rfl) ?_
    obtain ⟨r_5, hc_4, hp⟩ := bn1_s hp
    refine k_ROV (As := [.int p1]) (rest := []) ⟨hx, hb, hml, hown, hts⟩ hK hP (cw_X12_252 hts ⟨Nat.le_of_ble_eq_true rfl, Nat.le_of_ble_eq_true rfl⟩) 0 (ci := 12) rfl rfl rfl (c_X12_lineCost l D cy qmo mo p1 r_5 hc_4) rfl hl.1 (Nat.le_of_ble_eq_true rfl) ⟨Nat.le_refl _, Nat.le_refl _⟩ dX12_order_11 ?_
    refine lv_istore_n (lv' := [(2, .int r_5), (0, .ref (qmo 0)), (1, .int p1)]) hx hb dX12_order_14 rfl hl (by decide) rfl (fun ls hl => ?_)
    refine lv_aload_n hx hb dX12_order_15 rfl (lv_at hl 1 rfl) ?_
    refine lv_iload_n hx hb dX12_order_16 rfl (lv_at hl 2 rfl) ?_
    obtain ⟨mo_7, hc_6, hp⟩ := bn1_s hp
    refine k_RVV (As := [.int p1]) (rest := []) ⟨hx, hb, hml, hown, hts⟩ hK hP hD hS hA FrS_rf (cw_X12_274 hts ⟨Nat.le_of_ble_eq_true rfl, Nat.le_of_ble_eq_true rfl⟩) 0 (ci := 12) rfl rfl rfl (c_X12_orders l D cy qmo mo p1 mo_7 hc_6) rfl hl.1 (Nat.le_of_ble_eq_true rfl) ⟨Nat.le_refl _, Nat.le_refl _⟩ dX12_order_17 (fun H locs hP hD hS => ?_)
    refine lv_iload_n hx hb dX12_order_20 rfl (lv_at hl 0 rfl) ?_
    refine lv_aload_n hx hb dX12_order_21 rfl (lv_at hl 1 rfl) ?_
    refine lv_iload_n hx hb dX12_order_22 rfl (lv_at hl 2 rfl) ?_
    obtain ⟨r_9, hc_8, hp⟩ := bn1_s hp
    refine k_ROV (As := [.int p1]) (rest := [.int r_5]) ⟨hx, hb, hml, hown, hts⟩ hK hP (cw_X12_252 hts ⟨Nat.le_of_ble_eq_true rfl, Nat.le_of_ble_eq_true rfl⟩) 0 (ci := 12) rfl rfl rfl (c_X12_lineCost l D cy qmo mo_7 p1 r_9 hc_8) rfl hl.1 (Nat.le_of_ble_eq_true rfl) ⟨Nat.le_refl _, Nat.le_refl _⟩ dX12_order_23 ?_
    refine lv_isub hx hb dX12_order_26 ?_
    simp only [Option.some.injEq, Prod.mk.injEq] at hp
    obtain ⟨h0, rfl⟩ := hp
    exact e_RIi hx hb hr hk hP hD hS dX12_order_27 h0
  · have hp := ite_p hp c_3
    refine lv_iconst (v := (-1)) hx hb dX12_order_7 (by decide) ?_
    simp only [Option.some.injEq, Prod.mk.injEq] at hp
    obtain ⟨h0, rfl⟩ := hp
    exact e_RIi hx hb hr hk hP hD hS dX12_order_8 h0
/-! StormSlotsModel.bestCancel(II)I -/
def Mo_bestCancel_b105 (p1 : Int32) (p2 : Int32) (k26 : Mem → Int32 → Int32 → Int32 → Option (Int32 × Mem)) (mo : Mem) (x3 : Int32) (x4 : Int32) (x5 : Int32) (x6 : Int32) (x7 : Int32) : Option (Int32 × Mem) :=
  if 0 ≤ x6 then stk (x5 + 1) (fun x5_34 => k26 mo x5 x7 x5_34) else stk (x5 + 1) (fun x5_35 => k26 mo x3 x4 x5_35)
def Mo_bestCancel_b26B (p1 : Int32) (p2 : Int32) (k26 : Mem → Int32 → Int32 → Int32 → Option (Int32 × Mem)) (mo : Mem) (x3 : Int32) (x4 : Int32) (x5 : Int32) : Option (Int32 × Mem) :=
  ckI 173 1452 (if (mo 0 (173 : Int32).toNatClampNeg) ≤ x5 then if x3 = (-1) then some ((-2), mo) else if p2 = 0 then some (x3, mo) else some (x4, mo) else bn1 (Mo_of mo x5 0) (fun r_12 => if r_12 = p1 then bn1 (Mo_isGround mo x5) (fun r_16 => if r_16 = 0 then stk (x5 + 1) (fun x5_32 => k26 mo x3 x4 x5_32) else bn1 (Mo_lays mo 8) (fun mo_19 => bn1 (Mo_cancels mo_19 x5) (fun mo_21 => bn2 (Mo_fills mo_21) (fun r_23 mo_24 => bn1 (Mo_lineCost mo_24 p1) (fun r_26 => bn1 (Mo_takes mo_24 8) (fun mo_28 => if x3 = (-1) then Mo_bestCancel_b105 p1 p2 k26 mo_28 x3 x4 x5 r_23 r_26 else if x4 ≤ r_26 then stk (x5 + 1) (fun x5_31 => k26 mo_28 x3 x4 x5_31) else Mo_bestCancel_b105 p1 p2 k26 mo_28 x3 x4 x5 r_23 r_26)))))) else stk (x5 + 1) (fun x5_14 => k26 mo x3 x4 x5_14)))
def Mo_bestCancel_b26 (p1 : Int32) (p2 : Int32) : Nat → Mem → Int32 → Int32 → Int32 → Option (Int32 × Mem)
  | 0 => fun _ _ _ _ => none
  | n + 1 => Mo_bestCancel_b26B p1 p2 (Mo_bestCancel_b26 p1 p2 n)
def Mo_bestCancel (mo : Mem) (p1 : Int32) (p2 : Int32) : Option (Int32 × Mem) :=
  bn1 (Mo_isLine p1) (fun r_2 => if r_2 = 0 then some ((-1), mo) else bn1 (Mo_in p2 0 1) (fun r_5 => if r_5 = 0 then some ((-1), mo) else Mo_bestCancel_b26 p1 p2 fl mo (-1) 0 0))
set_option maxHeartbeats 4000000 in
set_option maxRecDepth 100000 in
theorem Mo_bestCancel_b105_w (C0 : cX RX12 cX12_bestCancel (some .int) 8 p s m args meth c) (hK : kN D cy s) {qmo : Nat → Nat} {p1 p2 : Int32} {r : Int32} {mo' : Mem} (hA : ∀ q, s.heap.size ≤ q → A q) {k26 : Mem → Int32 → Int32 → Int32 → Option (Int32 × Mem)} (hk26 : ∀ (mo : Mem) (x3 x4 x5 : Int32) (H : Heap) (locs : List Loc) (ls : Array Slot), va_P D vwCl (w_Mo cy qmo mo) H → va_D A (w_Mo cy qmo mo) → va_S A s.heap H locs → lv_has ls 8 [(0, .ref (qmo 0)), (1, .int p1), (2, .int p2), (3, .int x3), (4, .int x4), (5, .int x5)] → k26 mo x3 x4 x5 = some (r, mo') → W p l e (rmD 6) s m args below meth c H locs 0 0 (qRI D below args s A (w_Mo cy qmo mo') r) (F0 m 26 ls [])) {mo : Mem} {x3 : Int32} {x4 : Int32} {x5 : Int32} {x6 : Int32} {x7 : Int32} {H : Heap} {locs : List Loc} (hP : va_P D vwCl (w_Mo cy qmo mo) H) (hD : va_D A (w_Mo cy qmo mo)) (hS : va_S A s.heap H locs) {ls : Array Slot} (hl : lv_has ls 8 [(0, .ref (qmo 0)), (1, .int p1), (2, .int p2), (3, .int x3), (4, .int x4), (5, .int x5), (6, .int x6), (7, .int x7)]) (hp : Mo_bestCancel_b105 p1 p2 k26 mo x3 x4 x5 x6 x7 = some (r, mo')) : W p l e (rmD 6) s m args below meth c H locs 0 0 (qRI D below args s A (w_Mo cy qmo mo') r) (F0 m 105 ls []) := by
  obtain ⟨hx, hb, hr, hml, hown, hts, hk⟩ := id C0
  unfold Mo_bestCancel_b105 at hp
  refine lv_iload hx hb dX12_bestCancel_105 (lv_at hl 6 rfl) ?_
  refine lv_if_ge (tgt := 113) hx hb dX12_bestCancel_107 (by decide) (fun c_33 => ?_) (fun c_33 => ?_)
  · have hp := ite_p hp c_33
    refine lv_iload hx hb dX12_bestCancel_113 (lv_at hl 5 rfl) ?_
    refine lv_istore_n (lv' := [(3, .int x5), (0, .ref (qmo 0)), (1, .int p1), (2, .int p2), (4, .int x4), (5, .int x5), (6, .int x6), (7, .int x7)]) hx hb dX12_bestCancel_115 rfl hl (by decide) rfl (fun ls hl => ?_)
    refine lv_iload hx hb dX12_bestCancel_116 (lv_at hl 7 rfl) ?_
    refine lv_istore (lv' := [(4, .int x7), (3, .int x5), (0, .ref (qmo 0)), (1, .int p1), (2, .int p2), (5, .int x5), (6, .int x6), (7, .int x7)]) hx hb dX12_bestCancel_118 hl (by decide) rfl (fun ls hl => ?_)
    obtain ⟨x5_34, ex5_34⟩ : ∃ y : Int32, y = x5 + 1 := ⟨_, rfl⟩
    have hp := stk_e hp ex5_34
    refine lv_iinc (v := x5_34) (lv' := [(5, .int x5_34), (4, .int x7), (3, .int x5), (0, .ref (qmo 0)), (1, .int p1), (2, .int p2), (6, .int x6), (7, .int x7)]) hx hb dX12_bestCancel_120 hl (k := 5) rfl (by rw [ex5_34]; rfl) (by decide) rfl (fun ls hl => ?_)
    refine lv_goto (tgt := 26) hx hb dX12_bestCancel_123 (by decide) ?_
    exact hk26 mo x5 x7 x5_34 _ _ _ hP hD hS (lv_sub hl [3, 4, 5, 2, 1, 0] rfl) hp
  · have hp := ite_n hp c_33
    refine lv_goto (tgt := 120) hx hb dX12_bestCancel_110 (by decide) ?_
    obtain ⟨x5_35, ex5_35⟩ : ∃ y : Int32, y = x5 + 1 := ⟨_, rfl⟩
    have hp := stk_e hp ex5_35
    refine lv_iinc (v := x5_35) (lv' := [(5, .int x5_35), (0, .ref (qmo 0)), (1, .int p1), (2, .int p2), (3, .int x3), (4, .int x4), (6, .int x6), (7, .int x7)]) hx hb dX12_bestCancel_120 hl (k := 5) rfl (by rw [ex5_35]; rfl) (by decide) rfl (fun ls hl => ?_)
    refine lv_goto (tgt := 26) hx hb dX12_bestCancel_123 (by decide) ?_
    exact hk26 mo x3 x4 x5_35 _ _ _ hP hD hS (lv_sub hl [1, 2, 3, 4, 5, 0] rfl) hp
set_option maxHeartbeats 4000000 in
set_option maxRecDepth 100000 in
theorem Mo_bestCancel_b26B_w (C0 : cX RX12 cX12_bestCancel (some .int) 8 p s m args meth c) (hK : kN D cy s) {qmo : Nat → Nat} {p1 p2 : Int32} {r : Int32} {mo' : Mem} (hA : ∀ q, s.heap.size ≤ q → A q) {k26 : Mem → Int32 → Int32 → Int32 → Option (Int32 × Mem)} (hk26 : ∀ (mo : Mem) (x3 x4 x5 : Int32) (H : Heap) (locs : List Loc) (ls : Array Slot), va_P D vwCl (w_Mo cy qmo mo) H → va_D A (w_Mo cy qmo mo) → va_S A s.heap H locs → lv_has ls 8 [(0, .ref (qmo 0)), (1, .int p1), (2, .int p2), (3, .int x3), (4, .int x4), (5, .int x5)] → k26 mo x3 x4 x5 = some (r, mo') → W p l e (rmD 6) s m args below meth c H locs 0 0 (qRI D below args s A (w_Mo cy qmo mo') r) (F0 m 26 ls [])) {mo : Mem} {x3 : Int32} {x4 : Int32} {x5 : Int32} {H : Heap} {locs : List Loc} (hP : va_P D vwCl (w_Mo cy qmo mo) H) (hD : va_D A (w_Mo cy qmo mo)) (hS : va_S A s.heap H locs) {ls : Array Slot} (hl : lv_has ls 8 [(0, .ref (qmo 0)), (1, .int p1), (2, .int p2), (3, .int x3), (4, .int x4), (5, .int x5)]) (hp : Mo_bestCancel_b26B p1 p2 k26 mo x3 x4 x5 = some (r, mo')) : W p l e (rmD 6) s m args below meth c H locs 0 0 (qRI D below args s A (w_Mo cy qmo mo') r) (F0 m 26 ls []) := by
  obtain ⟨hx, hb, hr, hml, hown, hts, hk⟩ := id C0
  unfold Mo_bestCancel_b26B at hp
  refine lv_iload hx hb dX12_bestCancel_26 (lv_at hl 5 rfl) ?_
  refine lv_aload_n hx hb dX12_bestCancel_28 rfl (lv_at hl 0 rfl) ?_
  refine gf_X12_7 hx hb hts hown hK hP 0 rfl rfl dX12_bestCancel_29 ?_
  refine lv_sipush (v := 173) hx hb dX12_bestCancel_32 (by decide) ?_
  obtain ⟨hi_7, hp⟩ := ckI_s hp
  refine r_ild hx hb hK hP 1 rfl hi_7 dX12_bestCancel_35 ?_
  refine lv_icmp_ge (tgt := 126) hx hb dX12_bestCancel_36 (by decide) (fun c_8 => ?_) (fun c_8 => ?_)
  · have hp := ite_p hp c_8
    refine lv_iload_n hx hb dX12_bestCancel_126 rfl (lv_at hl 3 rfl) ?_
    refine lv_iconst (v := (-1)) hx hb dX12_bestCancel_127 (by decide) ?_
    refine lv_icmp_ne (tgt := 136) hx hb dX12_bestCancel_128 (by decide) (fun c_9 => ?_) (fun c_9 => ?_)
    · have hp := ite_n hp c_9
      refine lv_iload_n hx hb dX12_bestCancel_136 rfl (lv_at hl 2 rfl) ?_
      refine lv_if_ne (tgt := 144) hx hb dX12_bestCancel_137 (by decide) (fun c_10 => ?_) (fun c_10 => ?_)
      · have hp := ite_n hp c_10
        refine lv_iload hx hb dX12_bestCancel_144 (lv_at hl 4 rfl) ?_
        simp only [Option.some.injEq, Prod.mk.injEq] at hp
        obtain ⟨h0, rfl⟩ := hp
        exact e_RIi hx hb hr hk hP hD hS dX12_bestCancel_146 h0
      · have hp := ite_p hp c_10
        refine lv_iload_n hx hb dX12_bestCancel_140 rfl (lv_at hl 3 rfl) ?_
        refine lv_goto (tgt := 146) hx hb dX12_bestCancel_141 (by decide) ?_
        simp only [Option.some.injEq, Prod.mk.injEq] at hp
        obtain ⟨h0, rfl⟩ := hp
        exact e_RIi hx hb hr hk hP hD hS dX12_bestCancel_146 h0
    · have hp := ite_p hp c_9
      refine lv_bipush (v := (-2)) hx hb dX12_bestCancel_131 (by decide) ?_
      refine lv_goto (tgt := 146) hx hb dX12_bestCancel_133 (by decide) ?_
      simp only [Option.some.injEq, Prod.mk.injEq] at hp
      obtain ⟨h0, rfl⟩ := hp
      exact e_RIi hx hb hr hk hP hD hS dX12_bestCancel_146 h0
  · have hp := ite_n hp c_8
    refine lv_aload_n hx hb dX12_bestCancel_39 rfl (lv_at hl 0 rfl) ?_
    refine lv_iload hx hb dX12_bestCancel_40 (lv_at hl 5 rfl) ?_
    refine lv_iconst (v := 0) hx hb dX12_bestCancel_42 (by decide) ?_
    obtain ⟨r_12, hc_11, hp⟩ := bn1_s hp
    refine k_ROV (As := [.int x5, .int 0]) (rest := []) ⟨hx, hb, hml, hown, hts⟩ hK hP (cw_X12_128 hts ⟨Nat.le_of_ble_eq_true rfl, Nat.le_of_ble_eq_true rfl⟩) 0 (ci := 12) rfl rfl rfl (c_X12_of l D cy qmo mo x5 0 r_12 hc_11) rfl hl.1 (Nat.le_of_ble_eq_true rfl) ⟨Nat.le_refl _, Nat.le_refl _⟩ dX12_bestCancel_43 ?_
    refine lv_iload_n hx hb dX12_bestCancel_46 rfl (lv_at hl 1 rfl) ?_
    refine lv_icmp_ne (tgt := 120) hx hb dX12_bestCancel_47 (by decide) (fun c_13 => ?_) (fun c_13 => ?_)
    · have hp := ite_n hp c_13
      obtain ⟨x5_14, ex5_14⟩ : ∃ y : Int32, y = x5 + 1 := ⟨_, rfl⟩
      have hp := stk_e hp ex5_14
      refine lv_iinc (v := x5_14) (lv' := [(5, .int x5_14), (0, .ref (qmo 0)), (1, .int p1), (2, .int p2), (3, .int x3), (4, .int x4)]) hx hb dX12_bestCancel_120 hl (k := 5) rfl (by rw [ex5_14]; rfl) (by decide) rfl (fun ls hl => ?_)
      refine lv_goto (tgt := 26) hx hb dX12_bestCancel_123 (by decide) ?_
      exact hk26 mo x3 x4 x5_14 _ _ _ hP hD hS (lv_sub hl [1, 2, 3, 4, 5, 0] rfl) hp
    · have hp := ite_p hp c_13
      refine lv_aload_n hx hb dX12_bestCancel_50 rfl (lv_at hl 0 rfl) ?_
      refine lv_iload hx hb dX12_bestCancel_51 (lv_at hl 5 rfl) ?_
      obtain ⟨r_16, hc_15, hp⟩ := bn1_s hp
      refine k_ROV (As := [.int x5]) (rest := []) ⟨hx, hb, hml, hown, hts⟩ hK hP (cw_X12_203 hts ⟨Nat.le_of_ble_eq_true rfl, Nat.le_of_ble_eq_true rfl⟩) 0 (ci := 12) rfl rfl rfl (c_X12_isGround l D cy qmo mo x5 r_16 hc_15) rfl hl.1 (Nat.le_of_ble_eq_true rfl) ⟨Nat.le_refl _, Nat.le_refl _⟩ dX12_bestCancel_53 ?_
      refine lv_if_ne (tgt := 62) hx hb dX12_bestCancel_56 (by decide) (fun c_17 => ?_) (fun c_17 => ?_)
      · have hp := ite_n hp c_17
        refine lv_aload_n hx hb dX12_bestCancel_62 rfl (lv_at hl 0 rfl) ?_
        refine lv_bipush (v := 8) hx hb dX12_bestCancel_63 (by decide) ?_
        obtain ⟨mo_19, hc_18, hp⟩ := bn1_s hp
        refine k_RVV (As := [.int 8]) (rest := []) ⟨hx, hb, hml, hown, hts⟩ hK hP hD hS hA FrS_rf (cw_X12_243 hts ⟨Nat.le_of_ble_eq_true rfl, Nat.le_of_ble_eq_true rfl⟩) 0 (ci := 12) rfl rfl rfl (c_X12_lays l D cy qmo mo 8 mo_19 hc_18) rfl hl.1 (Nat.le_of_ble_eq_true rfl) ⟨Nat.le_refl _, Nat.le_refl _⟩ dX12_bestCancel_65 (fun H locs hP hD hS => ?_)
        refine lv_aload_n hx hb dX12_bestCancel_68 rfl (lv_at hl 0 rfl) ?_
        refine lv_iload hx hb dX12_bestCancel_69 (lv_at hl 5 rfl) ?_
        obtain ⟨mo_21, hc_20, hp⟩ := bn1_s hp
        refine k_RVV (As := [.int x5]) (rest := []) ⟨hx, hb, hml, hown, hts⟩ hK hP hD hS hA FrS_rf (cw_X12_200 hts ⟨Nat.le_of_ble_eq_true rfl, Nat.le_of_ble_eq_true rfl⟩) 0 (ci := 12) rfl rfl rfl (c_X12_cancels l D cy qmo mo_19 x5 mo_21 hc_20) rfl hl.1 (Nat.le_of_ble_eq_true rfl) ⟨Nat.le_refl _, Nat.le_refl _⟩ dX12_bestCancel_71 (fun H locs hP hD hS => ?_)
        refine lv_aload_n hx hb dX12_bestCancel_74 rfl (lv_at hl 0 rfl) ?_
        obtain ⟨r_23, mo_24, hc_22, hp⟩ := bn2_s hp
        refine k_RIV (As := []) (rest := []) ⟨hx, hb, hml, hown, hts⟩ hK hP hD hS hA FrS_rf (cw_X12_219 hts ⟨Nat.le_of_ble_eq_true rfl, Nat.le_of_ble_eq_true rfl⟩) 0 (ci := 12) rfl rfl rfl (c_X12_fills l D cy qmo mo_21 r_23 mo_24 hc_22) rfl hl.1 (Nat.le_of_ble_eq_true rfl) ⟨Nat.le_refl _, Nat.le_refl _⟩ dX12_bestCancel_75 (fun H locs hP hD hS => ?_)
        refine lv_istore (lv' := [(6, .int r_23), (0, .ref (qmo 0)), (1, .int p1), (2, .int p2), (3, .int x3), (4, .int x4), (5, .int x5)]) hx hb dX12_bestCancel_78 hl (by decide) rfl (fun ls hl => ?_)
        refine lv_aload_n hx hb dX12_bestCancel_80 rfl (lv_at hl 1 rfl) ?_
        refine lv_iload_n hx hb dX12_bestCancel_81 rfl (lv_at hl 2 rfl) ?_
        obtain ⟨r_26, hc_25, hp⟩ := bn1_s hp
        refine k_ROV (As := [.int p1]) (rest := []) ⟨hx, hb, hml, hown, hts⟩ hK hP (cw_X12_252 hts ⟨Nat.le_of_ble_eq_true rfl, Nat.le_of_ble_eq_true rfl⟩) 0 (ci := 12) rfl rfl rfl (c_X12_lineCost l D cy qmo mo_24 p1 r_26 hc_25) rfl hl.1 (Nat.le_of_ble_eq_true rfl) ⟨Nat.le_refl _, Nat.le_refl _⟩ dX12_bestCancel_82 ?_
        refine lv_istore (lv' := [(7, .int r_26), (6, .int r_23), (0, .ref (qmo 0)), (1, .int p1), (2, .int p2), (3, .int x3), (4, .int x4), (5, .int x5)]) hx hb dX12_bestCancel_85 hl (by decide) rfl (fun ls hl => ?_)
        refine lv_aload_n hx hb dX12_bestCancel_87 rfl (lv_at hl 2 rfl) ?_
        refine lv_bipush (v := 8) hx hb dX12_bestCancel_88 (by decide) ?_
        obtain ⟨mo_28, hc_27, hp⟩ := bn1_s hp
        refine k_RVV (As := [.int 8]) (rest := []) ⟨hx, hb, hml, hown, hts⟩ hK hP hD hS hA FrS_rf (cw_X12_246 hts ⟨Nat.le_of_ble_eq_true rfl, Nat.le_of_ble_eq_true rfl⟩) 0 (ci := 12) rfl rfl rfl (c_X12_takes l D cy qmo mo_24 8 mo_28 hc_27) rfl hl.1 (Nat.le_of_ble_eq_true rfl) ⟨Nat.le_refl _, Nat.le_refl _⟩ dX12_bestCancel_90 (fun H locs hP hD hS => ?_)
        refine lv_iload_n hx hb dX12_bestCancel_93 rfl (lv_at hl 5 rfl) ?_
        refine lv_iconst (v := (-1)) hx hb dX12_bestCancel_94 (by decide) ?_
        refine lv_icmp_eq (tgt := 105) hx hb dX12_bestCancel_95 (by decide) (fun c_29 => ?_) (fun c_29 => ?_)
        · have hp := ite_p hp c_29
          exact Mo_bestCancel_b105_w C0 hK hA hk26 hP hD hS (lv_sub hl [2, 3, 4, 5, 6, 7, 1, 0] rfl) hp
        · have hp := ite_n hp c_29
          refine lv_iload hx hb dX12_bestCancel_98 (lv_at hl 0 rfl) ?_
          refine lv_iload hx hb dX12_bestCancel_100 (lv_at hl 6 rfl) ?_
          refine lv_icmp_ge (tgt := 120) hx hb dX12_bestCancel_102 (by decide) (fun c_30 => ?_) (fun c_30 => ?_)
          · have hp := ite_p hp c_30
            obtain ⟨x5_31, ex5_31⟩ : ∃ y : Int32, y = x5 + 1 := ⟨_, rfl⟩
            have hp := stk_e hp ex5_31
            refine lv_iinc (v := x5_31) (lv' := [(5, .int x5_31), (7, .int r_26), (6, .int r_23), (0, .ref (qmo 0)), (1, .int p1), (2, .int p2), (3, .int x3), (4, .int x4)]) hx hb dX12_bestCancel_120 hl (k := 7) rfl (by rw [ex5_31]; rfl) (by decide) rfl (fun ls hl => ?_)
            refine lv_goto (tgt := 26) hx hb dX12_bestCancel_123 (by decide) ?_
            exact hk26 mo_28 x3 x4 x5_31 _ _ _ hP hD hS (lv_sub hl [3, 4, 5, 6, 7, 0] rfl) hp
          · have hp := ite_n hp c_30
            exact Mo_bestCancel_b105_w C0 hK hA hk26 hP hD hS (lv_sub hl [2, 3, 4, 5, 6, 7, 1, 0] rfl) hp
      · have hp := ite_p hp c_17
        refine lv_goto (tgt := 120) hx hb dX12_bestCancel_59 (by decide) ?_
        obtain ⟨x5_32, ex5_32⟩ : ∃ y : Int32, y = x5 + 1 := ⟨_, rfl⟩
        have hp := stk_e hp ex5_32
        refine lv_iinc (v := x5_32) (lv' := [(5, .int x5_32), (0, .ref (qmo 0)), (1, .int p1), (2, .int p2), (3, .int x3), (4, .int x4)]) hx hb dX12_bestCancel_120 hl (k := 5) rfl (by rw [ex5_32]; rfl) (by decide) rfl (fun ls hl => ?_)
        refine lv_goto (tgt := 26) hx hb dX12_bestCancel_123 (by decide) ?_
        exact hk26 mo x3 x4 x5_32 _ _ _ hP hD hS (lv_sub hl [1, 2, 3, 4, 5, 0] rfl) hp
theorem Mo_bestCancel_b26_w (C0 : cX RX12 cX12_bestCancel (some .int) 8 p s m args meth c) (hK : kN D cy s) {qmo : Nat → Nat} {p1 p2 : Int32} {r : Int32} {mo' : Mem} (hA : ∀ q, s.heap.size ≤ q → A q) : ∀ (n : Nat) (mo : Mem) (x3 x4 x5 : Int32) (H : Heap) (locs : List Loc) (ls : Array Slot), va_P D vwCl (w_Mo cy qmo mo) H → va_D A (w_Mo cy qmo mo) → va_S A s.heap H locs → lv_has ls 8 [(0, .ref (qmo 0)), (1, .int p1), (2, .int p2), (3, .int x3), (4, .int x4), (5, .int x5)] → Mo_bestCancel_b26 p1 p2 n mo x3 x4 x5 = some (r, mo') → W p l e (rmD 6) s m args below meth c H locs 0 0 (qRI D below args s A (w_Mo cy qmo mo') r) (F0 m 26 ls []) := by
  intro n
  induction n with
  | zero =>
    intro mo x3 x4 x5 H locs ls hP hD hS hl hp
    cases hp
  | succ n ih =>
    intro mo x3 x4 x5 H locs ls hP hD hS hl hp
    exact Mo_bestCancel_b26B_w C0 hK hA  (fun mo x3 x4 x5 H locs ls hP hD hS hl hp => ih mo x3 x4 x5 H locs ls hP hD hS hl hp) hP hD hS hl hp
set_option maxHeartbeats 4000000 in
set_option maxRecDepth 100000 in
theorem c_X12_bestCancel (l : Launch) (D : va_G) (cy : Nat → ClassId) (qmo : Nat → Nat) (mo : Mem) (p1 p2 : Int32) (r : Int32) (mo' : Mem) (hp : Mo_bestCancel mo p1 p2 = some (r, mo')) : RI l yX12_bestCancel cX12_bestCancel 8 (some .int) 6 D cy [.ref (qmo 0), .int p1, .int p2] (w_Mo cy qmo mo) (w_Mo cy qmo mo') r := by
  refine RI_of RX12 rfl (by decide) (Nat.le_of_ble_eq_true rfl) ?_
  intro p e s m below meth c A C0 hK hP hD hS hA ls hl
  obtain ⟨hx, hb, hr, hml, hown, hts, hk⟩ := id C0
  unfold Mo_bestCancel at hp
  have hl : lv_has ls 8 [(0, .ref (qmo 0)), (1, .int p1), (2, .int p2)] := hl
  refine lv_iload_n hx hb dX12_bestCancel_0 rfl (lv_at hl 1 rfl) ?_
  obtain ⟨r_2, hc_1, hp⟩ := bn1_s hp
  refine k_ROS (As := [.int p1]) (rest := []) ⟨hx, hb, hml, hown, hts⟩ hK (show va_P D vwCl [] _ from fun k q h => by simp at h) (cw_X12_104 hts ⟨Nat.le_of_ble_eq_true rfl, Nat.le_of_ble_eq_true rfl⟩) (c_X12_isLine l D cy p1 r_2 hc_1) rfl hl.1 (Nat.le_of_ble_eq_true rfl) ⟨Nat.le_refl _, Nat.le_refl _⟩ dX12_bestCancel_1 ?_
  refine lv_if_eq (tgt := 16) hx hb dX12_bestCancel_4 (by decide) (fun c_3 => ?_) (fun c_3 => ?_)
  · have hp := ite_p hp c_3
    refine lv_iconst (v := (-1)) hx hb dX12_bestCancel_16 (by decide) ?_
    simp only [Option.some.injEq, Prod.mk.injEq] at hp
    obtain ⟨h0, rfl⟩ := hp
    exact e_RIi hx hb hr hk hP hD hS dX12_bestCancel_17 h0
  · have hp := ite_n hp c_3
    refine lv_iload_n hx hb dX12_bestCancel_7 rfl (lv_at hl 2 rfl) ?_
    refine lv_iconst (v := 0) hx hb dX12_bestCancel_8 (by decide) ?_
    refine lv_iconst (v := 1) hx hb dX12_bestCancel_9 (by decide) ?_
    obtain ⟨r_5, hc_4, hp⟩ := bn1_s hp
    refine k_ROS (As := [.int p2, .int 0, .int 1]) (rest := []) ⟨hx, hb, hml, hown, hts⟩ hK (show va_P D vwCl [] _ from fun k q h => by simp at h) (cw_X12_45 hts ⟨Nat.le_of_ble_eq_true rfl, Nat.le_of_ble_eq_true rfl⟩) (c_X12_in l D cy p2 0 1 r_5 hc_4) rfl hl.1 (Nat.le_of_ble_eq_true rfl) ⟨Nat.le_refl _, Nat.le_refl _⟩ dX12_bestCancel_10 ?_
    refine lv_if_ne (tgt := 18) hx hb dX12_bestCancel_13 (by decide) (fun c_6 => ?_) (fun c_6 => ?_)
    · have hp := ite_n hp c_6
      refine lv_iconst (v := (-1)) hx hb dX12_bestCancel_18 (by decide) ?_
      refine lv_istore_n (lv' := [(3, .int (-1)), (0, .ref (qmo 0)), (1, .int p1), (2, .int p2)]) hx hb dX12_bestCancel_19 rfl hl (by decide) rfl (fun ls hl => ?_)
      refine lv_iconst (v := 0) hx hb dX12_bestCancel_20 (by decide) ?_
      refine lv_istore (lv' := [(4, .int 0), (3, .int (-1)), (0, .ref (qmo 0)), (1, .int p1), (2, .int p2)]) hx hb dX12_bestCancel_21 hl (by decide) rfl (fun ls hl => ?_)
      refine lv_iconst (v := 0) hx hb dX12_bestCancel_23 (by decide) ?_
      refine lv_istore (lv' := [(5, .int 0), (4, .int 0), (3, .int (-1)), (0, .ref (qmo 0)), (1, .int p1), (2, .int p2)]) hx hb dX12_bestCancel_24 hl (by decide) rfl (fun ls hl => ?_)
      exact Mo_bestCancel_b26_w C0 hK hA  fl mo (-1) 0 0 _ _ _ hP hD hS (lv_sub hl [3, 4, 5, 2, 1, 0] rfl) hp
    · have hp := ite_p hp c_6
      refine lv_iconst (v := (-1)) hx hb dX12_bestCancel_16 (by decide) ?_
      simp only [Option.some.injEq, Prod.mk.injEq] at hp
      obtain ⟨h0, rfl⟩ := hp
      exact e_RIi hx hb hr hk hP hD hS dX12_bestCancel_17 h0
/-! StormSlotsModel.helps(II)I -/
def Mo_helps (mo : Mem) (p1 : Int32) (p2 : Int32) : Option (Int32 × Mem) :=
  bn1 (Mo_isGroundFlight mo p1) (fun r_2 => if r_2 = 0 then some ((-1000000), mo) else bn1 (Mo_isLine p2) (fun r_5 => if r_5 = 0 then some ((-1000000), mo) else bn1 (Mo_lays mo 8) (fun mo_8 => bn1 (Mo_cancels mo_8 p1) (fun mo_10 => bn1 (Mo_lineWaits mo_10 p2) (fun r_12 => bn2 (Mo_fills mo_10) (fun r_14 mo_15 => bn1 (Mo_lineWaits mo_15 p2) (fun r_17 => stk (r_12 - r_17) (fun x5_18 => bn1 (Mo_takes mo_15 8) (fun mo_20 => if 0 ≤ r_14 then some (x5_18, mo_20) else some ((-1000000), mo_20))))))))))
set_option maxHeartbeats 4000000 in
set_option maxRecDepth 100000 in
theorem c_X12_helps (l : Launch) (D : va_G) (cy : Nat → ClassId) (qmo : Nat → Nat) (mo : Mem) (p1 p2 : Int32) (r : Int32) (mo' : Mem) (hp : Mo_helps mo p1 p2 = some (r, mo')) : RI l yX12_helps cX12_helps 6 (some .int) 6 D cy [.ref (qmo 0), .int p1, .int p2] (w_Mo cy qmo mo) (w_Mo cy qmo mo') r := by
  refine RI_of RX12 rfl (by decide) (Nat.le_of_ble_eq_true rfl) ?_
  intro p e s m below meth c A C0 hK hP hD hS hA ls hl
  obtain ⟨hx, hb, hr, hml, hown, hts, hk⟩ := id C0
  unfold Mo_helps at hp
  have hl : lv_has ls 6 [(0, .ref (qmo 0)), (1, .int p1), (2, .int p2)] := hl
  refine lv_aload_n hx hb dX12_helps_0 rfl (lv_at hl 0 rfl) ?_
  refine lv_iload_n hx hb dX12_helps_1 rfl (lv_at hl 1 rfl) ?_
  obtain ⟨r_2, hc_1, hp⟩ := bn1_s hp
  refine k_ROV (As := [.int p1]) (rest := []) ⟨hx, hb, hml, hown, hts⟩ hK hP (cw_X12_206 hts ⟨Nat.le_of_ble_eq_true rfl, Nat.le_of_ble_eq_true rfl⟩) 0 (ci := 12) rfl rfl rfl (c_X12_isGroundFlight l D cy qmo mo p1 r_2 hc_1) rfl hl.1 (Nat.le_of_ble_eq_true rfl) ⟨Nat.le_refl _, Nat.le_refl _⟩ dX12_helps_2 ?_
  refine lv_if_eq (tgt := 15) hx hb dX12_helps_5 (by decide) (fun c_3 => ?_) (fun c_3 => ?_)
  · have hp := ite_p hp c_3
    refine lc_X12_209 hx hb hts hown dX12_helps_15 ?_
    simp only [Option.some.injEq, Prod.mk.injEq] at hp
    obtain ⟨h0, rfl⟩ := hp
    exact e_RIi hx hb hr hk hP hD hS dX12_helps_17 h0
  · have hp := ite_n hp c_3
    refine lv_iload_n hx hb dX12_helps_8 rfl (lv_at hl 2 rfl) ?_
    obtain ⟨r_5, hc_4, hp⟩ := bn1_s hp
    refine k_ROS (As := [.int p2]) (rest := []) ⟨hx, hb, hml, hown, hts⟩ hK (show va_P D vwCl [] _ from fun k q h => by simp at h) (cw_X12_104 hts ⟨Nat.le_of_ble_eq_true rfl, Nat.le_of_ble_eq_true rfl⟩) (c_X12_isLine l D cy p2 r_5 hc_4) rfl hl.1 (Nat.le_of_ble_eq_true rfl) ⟨Nat.le_refl _, Nat.le_refl _⟩ dX12_helps_9 ?_
    refine lv_if_ne (tgt := 18) hx hb dX12_helps_12 (by decide) (fun c_6 => ?_) (fun c_6 => ?_)
    · have hp := ite_n hp c_6
      refine lv_aload_n hx hb dX12_helps_18 rfl (lv_at hl 0 rfl) ?_
      refine lv_bipush (v := 8) hx hb dX12_helps_19 (by decide) ?_
      obtain ⟨mo_8, hc_7, hp⟩ := bn1_s hp
      refine k_RVV (As := [.int 8]) (rest := []) ⟨hx, hb, hml, hown, hts⟩ hK hP hD hS hA FrS_rf (cw_X12_243 hts ⟨Nat.le_of_ble_eq_true rfl, Nat.le_of_ble_eq_true rfl⟩) 0 (ci := 12) rfl rfl rfl (c_X12_lays l D cy qmo mo 8 mo_8 hc_7) rfl hl.1 (Nat.le_of_ble_eq_true rfl) ⟨Nat.le_refl _, Nat.le_refl _⟩ dX12_helps_21 (fun H locs hP hD hS => ?_)
      refine lv_aload_n hx hb dX12_helps_24 rfl (lv_at hl 0 rfl) ?_
      refine lv_iload_n hx hb dX12_helps_25 rfl (lv_at hl 1 rfl) ?_
      obtain ⟨mo_10, hc_9, hp⟩ := bn1_s hp
      refine k_RVV (As := [.int p1]) (rest := []) ⟨hx, hb, hml, hown, hts⟩ hK hP hD hS hA FrS_rf (cw_X12_200 hts ⟨Nat.le_of_ble_eq_true rfl, Nat.le_of_ble_eq_true rfl⟩) 0 (ci := 12) rfl rfl rfl (c_X12_cancels l D cy qmo mo_8 p1 mo_10 hc_9) rfl hl.1 (Nat.le_of_ble_eq_true rfl) ⟨Nat.le_refl _, Nat.le_refl _⟩ dX12_helps_26 (fun H locs hP hD hS => ?_)
      refine lv_aload_n hx hb dX12_helps_29 rfl (lv_at hl 0 rfl) ?_
      refine lv_iload_n hx hb dX12_helps_30 rfl (lv_at hl 2 rfl) ?_
      obtain ⟨r_12, hc_11, hp⟩ := bn1_s hp
      refine k_ROV (As := [.int p2]) (rest := []) ⟨hx, hb, hml, hown, hts⟩ hK hP (cw_X12_249 hts ⟨Nat.le_of_ble_eq_true rfl, Nat.le_of_ble_eq_true rfl⟩) 0 (ci := 12) rfl rfl rfl (c_X12_lineWaits l D cy qmo mo_10 p2 r_12 hc_11) rfl hl.1 (Nat.le_of_ble_eq_true rfl) ⟨Nat.le_refl _, Nat.le_refl _⟩ dX12_helps_31 ?_
      refine lv_istore_n (lv' := [(3, .int r_12), (0, .ref (qmo 0)), (1, .int p1), (2, .int p2)]) hx hb dX12_helps_34 rfl hl (by decide) rfl (fun ls hl => ?_)
      refine lv_aload_n hx hb dX12_helps_35 rfl (lv_at hl 1 rfl) ?_
      obtain ⟨r_14, mo_15, hc_13, hp⟩ := bn2_s hp
      refine k_RIV (As := []) (rest := []) ⟨hx, hb, hml, hown, hts⟩ hK hP hD hS hA FrS_rf (cw_X12_219 hts ⟨Nat.le_of_ble_eq_true rfl, Nat.le_of_ble_eq_true rfl⟩) 0 (ci := 12) rfl rfl rfl (c_X12_fills l D cy qmo mo_10 r_14 mo_15 hc_13) rfl hl.1 (Nat.le_of_ble_eq_true rfl) ⟨Nat.le_refl _, Nat.le_refl _⟩ dX12_helps_36 (fun H locs hP hD hS => ?_)
      refine lv_istore (lv' := [(4, .int r_14), (3, .int r_12), (0, .ref (qmo 0)), (1, .int p1), (2, .int p2)]) hx hb dX12_helps_39 hl (by decide) rfl (fun ls hl => ?_)
      refine lv_iload_n hx hb dX12_helps_41 rfl (lv_at hl 1 rfl) ?_
      refine lv_aload_n hx hb dX12_helps_42 rfl (lv_at hl 2 rfl) ?_
      refine lv_iload_n hx hb dX12_helps_43 rfl (lv_at hl 4 rfl) ?_
      obtain ⟨r_17, hc_16, hp⟩ := bn1_s hp
      refine k_ROV (As := [.int p2]) (rest := [.int r_12]) ⟨hx, hb, hml, hown, hts⟩ hK hP (cw_X12_249 hts ⟨Nat.le_of_ble_eq_true rfl, Nat.le_of_ble_eq_true rfl⟩) 0 (ci := 12) rfl rfl rfl (c_X12_lineWaits l D cy qmo mo_15 p2 r_17 hc_16) rfl hl.1 (Nat.le_of_ble_eq_true rfl) ⟨Nat.le_refl _, Nat.le_refl _⟩ dX12_helps_44 ?_
      refine lv_isub hx hb dX12_helps_47 ?_
      refine lv_topi (fun x5_18 ex5_18 => ?_)
      have hp := stk_e hp ex5_18
      refine lv_istore (lv' := [(5, .int x5_18), (4, .int r_14), (3, .int r_12), (0, .ref (qmo 0)), (1, .int p1), (2, .int p2)]) hx hb dX12_helps_48 hl (by decide) rfl (fun ls hl => ?_)
      refine lv_aload_n hx hb dX12_helps_50 rfl (lv_at hl 3 rfl) ?_
      refine lv_bipush (v := 8) hx hb dX12_helps_51 (by decide) ?_
      obtain ⟨mo_20, hc_19, hp⟩ := bn1_s hp
      refine k_RVV (As := [.int 8]) (rest := []) ⟨hx, hb, hml, hown, hts⟩ hK hP hD hS hA FrS_rf (cw_X12_246 hts ⟨Nat.le_of_ble_eq_true rfl, Nat.le_of_ble_eq_true rfl⟩) 0 (ci := 12) rfl rfl rfl (c_X12_takes l D cy qmo mo_15 8 mo_20 hc_19) rfl hl.1 (Nat.le_of_ble_eq_true rfl) ⟨Nat.le_refl _, Nat.le_refl _⟩ dX12_helps_53 (fun H locs hP hD hS => ?_)
      refine lv_iload hx hb dX12_helps_56 (lv_at hl 1 rfl) ?_
      refine lv_if_ge (tgt := 66) hx hb dX12_helps_58 (by decide) (fun c_21 => ?_) (fun c_21 => ?_)
      · have hp := ite_p hp c_21
        refine lv_iload hx hb dX12_helps_66 (lv_at hl 0 rfl) ?_
        simp only [Option.some.injEq, Prod.mk.injEq] at hp
        obtain ⟨h0, rfl⟩ := hp
        exact e_RIi hx hb hr hk hP hD hS dX12_helps_68 h0
      · have hp := ite_n hp c_21
        refine lc_X12_209 hx hb hts hown dX12_helps_61 ?_
        refine lv_goto (tgt := 68) hx hb dX12_helps_63 (by decide) ?_
        simp only [Option.some.injEq, Prod.mk.injEq] at hp
        obtain ⟨h0, rfl⟩ := hp
        exact e_RIi hx hb hr hk hP hD hS dX12_helps_68 h0
    · have hp := ite_p hp c_6
      refine lc_X12_209 hx hb hts hown dX12_helps_15 ?_
      simp only [Option.some.injEq, Prod.mk.injEq] at hp
      obtain ⟨h0, rfl⟩ := hp
      exact e_RIi hx hb hr hk hP hD hS dX12_helps_17 h0
/-! StormSlotsModel.waitsMore(II)Z -/
def Mo_waitsMore (mo : Mem) (p1 : Int32) (p2 : Int32) : Option (Int32) :=
  bn1 (Mo_lineWaits mo p1) (fun r_2 => bn1 (Mo_lineFlights mo p2) (fun r_4 => bn1 (Mo_lineWaits mo p2) (fun r_6 => bn1 (Mo_lineFlights mo p1) (fun r_8 => if (r_2 * r_4) ≤ (r_6 * r_8) then some 0 else some 1))))
set_option maxHeartbeats 4000000 in
set_option maxRecDepth 100000 in
theorem c_X12_waitsMore (l : Launch) (D : va_G) (cy : Nat → ClassId) (qmo : Nat → Nat) (mo : Mem) (p1 p2 : Int32) (r : Int32) (hp : Mo_waitsMore mo p1 p2 = some r) : RO l yX12_waitsMore cX12_waitsMore 3 (some .boolean) 4 D cy [.ref (qmo 0), .int p1, .int p2] (w_Mo cy qmo mo) r := by
  refine RO_of RX12 rfl (by decide) (Nat.le_of_ble_eq_true rfl) ?_
  intro p e s m below meth c C0 hK hP ls hl
  obtain ⟨hx, hb, hr, hml, hown, hts, hk⟩ := id C0
  unfold Mo_waitsMore at hp
  have hl : lv_has ls 3 [(0, .ref (qmo 0)), (1, .int p1), (2, .int p2)] := hl
  refine lv_aload_n hx hb dX12_waitsMore_0 rfl (lv_at hl 0 rfl) ?_
  refine lv_iload_n hx hb dX12_waitsMore_1 rfl (lv_at hl 1 rfl) ?_
  obtain ⟨r_2, hc_1, hp⟩ := bn1_s hp
  refine k_ROV (As := [.int p1]) (rest := []) ⟨hx, hb, hml, hown, hts⟩ hK hP (cw_X12_249 hts ⟨Nat.le_of_ble_eq_true rfl, Nat.le_of_ble_eq_true rfl⟩) 0 (ci := 12) rfl rfl rfl (c_X12_lineWaits l D cy qmo mo p1 r_2 hc_1) rfl hl.1 (Nat.le_of_ble_eq_true rfl) ⟨Nat.le_refl _, Nat.le_refl _⟩ dX12_waitsMore_2 ?_
  refine lv_aload_n hx hb dX12_waitsMore_5 rfl (lv_at hl 0 rfl) ?_
  refine lv_iload_n hx hb dX12_waitsMore_6 rfl (lv_at hl 2 rfl) ?_
  obtain ⟨r_4, hc_3, hp⟩ := bn1_s hp
  refine k_ROV (As := [.int p2]) (rest := [.int r_2]) ⟨hx, hb, hml, hown, hts⟩ hK hP (cw_X12_277 hts ⟨Nat.le_of_ble_eq_true rfl, Nat.le_of_ble_eq_true rfl⟩) 0 (ci := 12) rfl rfl rfl (c_X12_lineFlights l D cy qmo mo p2 r_4 hc_3) rfl hl.1 (Nat.le_of_ble_eq_true rfl) ⟨Nat.le_refl _, Nat.le_refl _⟩ dX12_waitsMore_7 ?_
  refine lv_imul hx hb dX12_waitsMore_10 ?_
  refine lv_aload_n hx hb dX12_waitsMore_11 rfl (lv_at hl 0 rfl) ?_
  refine lv_iload_n hx hb dX12_waitsMore_12 rfl (lv_at hl 2 rfl) ?_
  obtain ⟨r_6, hc_5, hp⟩ := bn1_s hp
  refine k_ROV (As := [.int p2]) (rest := [.int (r_2 * r_4)]) ⟨hx, hb, hml, hown, hts⟩ hK hP (cw_X12_249 hts ⟨Nat.le_of_ble_eq_true rfl, Nat.le_of_ble_eq_true rfl⟩) 0 (ci := 12) rfl rfl rfl (c_X12_lineWaits l D cy qmo mo p2 r_6 hc_5) rfl hl.1 (Nat.le_of_ble_eq_true rfl) ⟨Nat.le_refl _, Nat.le_refl _⟩ dX12_waitsMore_13 ?_
  refine lv_aload_n hx hb dX12_waitsMore_16 rfl (lv_at hl 0 rfl) ?_
  refine lv_iload_n hx hb dX12_waitsMore_17 rfl (lv_at hl 1 rfl) ?_
  obtain ⟨r_8, hc_7, hp⟩ := bn1_s hp
  refine k_ROV (As := [.int p1]) (rest := [.int r_6, .int (r_2 * r_4)]) ⟨hx, hb, hml, hown, hts⟩ hK hP (cw_X12_277 hts ⟨Nat.le_of_ble_eq_true rfl, Nat.le_of_ble_eq_true rfl⟩) 0 (ci := 12) rfl rfl rfl (c_X12_lineFlights l D cy qmo mo p1 r_8 hc_7) rfl hl.1 (Nat.le_of_ble_eq_true rfl) ⟨Nat.le_refl _, Nat.le_refl _⟩ dX12_waitsMore_18 ?_
  refine lv_imul hx hb dX12_waitsMore_21 ?_
  refine lv_icmp_le (tgt := 29) hx hb dX12_waitsMore_22 (by decide) (fun c_9 => ?_) (fun c_9 => ?_)
  · have hp := ite_p hp c_9
    refine lv_iconst (v := 0) hx hb dX12_waitsMore_29 (by decide) ?_
    exact e_ROz hx hb hr hk (Or.inl rfl) dX12_waitsMore_30 (Option.some.inj hp)
  · have hp := ite_n hp c_9
    refine lv_iconst (v := 1) hx hb dX12_waitsMore_25 (by decide) ?_
    refine lv_goto (tgt := 30) hx hb dX12_waitsMore_26 (by decide) ?_
    exact e_ROz hx hb hr hk (Or.inr rfl) dX12_waitsMore_30 (Option.some.inj hp)
/-! StormSlotsModel.rank(I)I -/
def Mo_rank_b29B (mo : Mem) (p1 : Int32) (k8 : Int32 → Option (Int32)) (k29 : Int32 → Int32 → Int32 → Option (Int32)) (x2 : Int32) (x3 : Int32) (x4 : Int32) : Option (Int32) :=
  if 5 ≤ x4 then if x3 = p1 then some x2 else stk (x2 + 1) (fun x2_9 => k8 x2_9) else if x4 = x2 then stk (x3 + 0) (fun x3_11 => stk (x4 + 1) (fun x4_12 => k29 x2 x3_11 x4_12)) else bn1 (Mo_lineFlights mo x4) (fun r_14 => if r_14 ≤ 0 then stk (x3 + 0) (fun x3_16 => stk (x4 + 1) (fun x4_17 => k29 x2 x3_16 x4_17)) else bn1 (Mo_waitsMore mo x4 x2) (fun r_19 => if r_19 = 0 then if x2 ≤ x4 then stk (x3 + 0) (fun x3_24 => stk (x4 + 1) (fun x4_25 => k29 x2 x3_24 x4_25)) else bn1 (Mo_waitsMore mo x2 x4) (fun r_27 => if r_27 = 0 then stk (x3 + 1) (fun x3_31 => stk (x4 + 1) (fun x4_32 => k29 x2 x3_31 x4_32)) else stk (x3 + 0) (fun x3_29 => stk (x4 + 1) (fun x4_30 => k29 x2 x3_29 x4_30))) else stk (x3 + 1) (fun x3_21 => stk (x4 + 1) (fun x4_22 => k29 x2 x3_21 x4_22))))
def Mo_rank_b29 (mo : Mem) (p1 : Int32) (k8 : Int32 → Option (Int32)) : Nat → Int32 → Int32 → Int32 → Option (Int32)
  | 0 => fun _ _ _ => none
  | n + 1 => Mo_rank_b29B mo p1 k8 (Mo_rank_b29 mo p1 k8 n)
def Mo_rank_b8B (mo : Mem) (p1 : Int32) (k8 : Int32 → Option (Int32)) (x2 : Int32) : Option (Int32) :=
  if 5 ≤ x2 then some (-2) else bn1 (Mo_lineFlights mo x2) (fun r_4 => if r_4 = 0 then stk (x2 + 1) (fun x2_6 => k8 x2_6) else Mo_rank_b29 mo p1 k8 fl x2 0 0)
def Mo_rank_b8 (mo : Mem) (p1 : Int32) : Nat → Int32 → Option (Int32)
  | 0 => fun _ => none
  | n + 1 => Mo_rank_b8B mo p1 (Mo_rank_b8 mo p1 n)
def Mo_rank (mo : Mem) (p1 : Int32) : Option (Int32) :=
  if 0 ≤ p1 then Mo_rank_b8 mo p1 fl 0 else some (-1)
set_option maxHeartbeats 4000000 in
set_option maxRecDepth 100000 in
theorem Mo_rank_b29B_w (C0 : cX RX12 cX12_rank (some .int) 5 p s m args meth c) (hK : kN D cy s) {qmo : Nat → Nat} {mo : Mem} {p1 : Int32} {r : Int32} (hP : va_P D vwCl (w_Mo cy qmo mo) s.heap) {k8 : Int32 → Option (Int32)} (hk8 : ∀ (x2 : Int32) (ls : Array Slot), lv_has ls 5 [(0, .ref (qmo 0)), (1, .int p1), (2, .int x2)] → k8 x2 = some r → W p l e (rmD 5) s m args below meth c s.heap [] 0 0 (qRO below args s r) (F0 m 8 ls [])) {k29 : Int32 → Int32 → Int32 → Option (Int32)} (hk29 : ∀ (x2 x3 x4 : Int32) (ls : Array Slot), lv_has ls 5 [(0, .ref (qmo 0)), (1, .int p1), (2, .int x2), (3, .int x3), (4, .int x4)] → k29 x2 x3 x4 = some r → W p l e (rmD 5) s m args below meth c s.heap [] 0 0 (qRO below args s r) (F0 m 29 ls [])) {x2 : Int32} {x3 : Int32} {x4 : Int32} {ls : Array Slot} (hl : lv_has ls 5 [(0, .ref (qmo 0)), (1, .int p1), (2, .int x2), (3, .int x3), (4, .int x4)]) (hp : Mo_rank_b29B mo p1 k8 k29 x2 x3 x4 = some r) : W p l e (rmD 5) s m args below meth c s.heap [] 0 0 (qRO below args s r) (F0 m 29 ls []) := by
  obtain ⟨hx, hb, hr, hml, hown, hts, hk⟩ := id C0
  unfold Mo_rank_b29B at hp
  refine lv_iload hx hb dX12_rank_29 (lv_at hl 4 rfl) ?_
  refine lv_iconst (v := 5) hx hb dX12_rank_31 (by decide) ?_
  refine lv_icmp_ge (tgt := 90) hx hb dX12_rank_32 (by decide) (fun c_7 => ?_) (fun c_7 => ?_)
  · have hp := ite_p hp c_7
    refine lv_iload_n hx hb dX12_rank_90 rfl (lv_at hl 3 rfl) ?_
    refine lv_iload_n hx hb dX12_rank_91 rfl (lv_at hl 1 rfl) ?_
    refine lv_icmp_ne (tgt := 97) hx hb dX12_rank_92 (by decide) (fun c_8 => ?_) (fun c_8 => ?_)
    · have hp := ite_n hp c_8
      obtain ⟨x2_9, ex2_9⟩ : ∃ y : Int32, y = x2 + 1 := ⟨_, rfl⟩
      have hp := stk_e hp ex2_9
      refine lv_iinc (v := x2_9) (lv' := [(2, .int x2_9), (0, .ref (qmo 0)), (1, .int p1), (3, .int x3), (4, .int x4)]) hx hb dX12_rank_97 hl (k := 2) rfl (by rw [ex2_9]; rfl) (by decide) rfl (fun ls hl => ?_)
      refine lv_goto (tgt := 8) hx hb dX12_rank_100 (by decide) ?_
      exact hk8 x2_9 _ (lv_sub hl [1, 2, 0] rfl) hp
    · have hp := ite_p hp c_8
      refine lv_iload_n hx hb dX12_rank_95 rfl (lv_at hl 2 rfl) ?_
      exact e_ROi hx hb hr hk dX12_rank_96 (Option.some.inj hp)
  · have hp := ite_n hp c_7
    refine lv_iload_n hx hb dX12_rank_35 rfl (lv_at hl 3 rfl) ?_
    refine lv_iload hx hb dX12_rank_36 (lv_at hl 4 rfl) ?_
    refine lv_iload_n hx hb dX12_rank_38 rfl (lv_at hl 2 rfl) ?_
    refine lv_icmp_eq (tgt := 81) hx hb dX12_rank_39 (by decide) (fun c_10 => ?_) (fun c_10 => ?_)
    · have hp := ite_p hp c_10
      refine lv_iconst (v := 0) hx hb dX12_rank_81 (by decide) ?_
      refine lv_iadd hx hb dX12_rank_82 ?_
      refine lv_topi (fun x3_11 ex3_11 => ?_)
      have hp := stk_e hp ex3_11
      refine lv_istore_n (lv' := [(3, .int x3_11), (0, .ref (qmo 0)), (1, .int p1), (2, .int x2), (4, .int x4)]) hx hb dX12_rank_83 rfl hl (by decide) rfl (fun ls hl => ?_)
      obtain ⟨x4_12, ex4_12⟩ : ∃ y : Int32, y = x4 + 1 := ⟨_, rfl⟩
      have hp := stk_e hp ex4_12
      refine lv_iinc (v := x4_12) (lv' := [(4, .int x4_12), (3, .int x3_11), (0, .ref (qmo 0)), (1, .int p1), (2, .int x2)]) hx hb dX12_rank_84 hl (k := 4) rfl (by rw [ex4_12]; rfl) (by decide) rfl (fun ls hl => ?_)
      refine lv_goto (tgt := 29) hx hb dX12_rank_87 (by decide) ?_
      exact hk29 x2 x3_11 x4_12 _ (lv_sub hl [2, 3, 4, 1, 0] rfl) hp
    · have hp := ite_n hp c_10
      refine lv_aload_n hx hb dX12_rank_42 rfl (lv_at hl 0 rfl) ?_
      refine lv_iload hx hb dX12_rank_43 (lv_at hl 4 rfl) ?_
      obtain ⟨r_14, hc_13, hp⟩ := bn1_s hp
      refine k_ROV (As := [.int x4]) (rest := [.int x3]) ⟨hx, hb, hml, hown, hts⟩ hK hP (cw_X12_277 hts ⟨Nat.le_of_ble_eq_true rfl, Nat.le_of_ble_eq_true rfl⟩) 0 (ci := 12) rfl rfl rfl (c_X12_lineFlights l D cy qmo mo x4 r_14 hc_13) rfl hl.1 (Nat.le_of_ble_eq_true rfl) ⟨Nat.le_refl _, Nat.le_refl _⟩ dX12_rank_45 ?_
      refine lv_if_le (tgt := 81) hx hb dX12_rank_48 (by decide) (fun c_15 => ?_) (fun c_15 => ?_)
      · have hp := ite_p hp c_15
        refine lv_iconst (v := 0) hx hb dX12_rank_81 (by decide) ?_
        refine lv_iadd hx hb dX12_rank_82 ?_
        refine lv_topi (fun x3_16 ex3_16 => ?_)
        have hp := stk_e hp ex3_16
        refine lv_istore_n (lv' := [(3, .int x3_16), (0, .ref (qmo 0)), (1, .int p1), (2, .int x2), (4, .int x4)]) hx hb dX12_rank_83 rfl hl (by decide) rfl (fun ls hl => ?_)
        obtain ⟨x4_17, ex4_17⟩ : ∃ y : Int32, y = x4 + 1 := ⟨_, rfl⟩
        have hp := stk_e hp ex4_17
        refine lv_iinc (v := x4_17) (lv' := [(4, .int x4_17), (3, .int x3_16), (0, .ref (qmo 0)), (1, .int p1), (2, .int x2)]) hx hb dX12_rank_84 hl (k := 4) rfl (by rw [ex4_17]; rfl) (by decide) rfl (fun ls hl => ?_)
        refine lv_goto (tgt := 29) hx hb dX12_rank_87 (by decide) ?_
        exact hk29 x2 x3_16 x4_17 _ (lv_sub hl [2, 3, 4, 1, 0] rfl) hp
      · have hp := ite_n hp c_15
        refine lv_aload_n hx hb dX12_rank_51 rfl (lv_at hl 0 rfl) ?_
        refine lv_iload hx hb dX12_rank_52 (lv_at hl 4 rfl) ?_
        refine lv_iload_n hx hb dX12_rank_54 rfl (lv_at hl 2 rfl) ?_
        obtain ⟨r_19, hc_18, hp⟩ := bn1_s hp
        refine k_ROV (As := [.int x4, .int x2]) (rest := [.int x3]) ⟨hx, hb, hml, hown, hts⟩ hK hP (cw_X12_280 hts ⟨Nat.le_of_ble_eq_true rfl, Nat.le_of_ble_eq_true rfl⟩) 0 (ci := 12) rfl rfl rfl (c_X12_waitsMore l D cy qmo mo x4 x2 r_19 hc_18) rfl hl.1 (Nat.le_of_ble_eq_true rfl) ⟨Nat.le_refl _, Nat.le_refl _⟩ dX12_rank_55 ?_
        refine lv_if_ne (tgt := 77) hx hb dX12_rank_58 (by decide) (fun c_20 => ?_) (fun c_20 => ?_)
        · have hp := ite_n hp c_20
          refine lv_iconst (v := 1) hx hb dX12_rank_77 (by decide) ?_
          refine lv_goto (tgt := 82) hx hb dX12_rank_78 (by decide) ?_
          refine lv_iadd hx hb dX12_rank_82 ?_
          refine lv_topi (fun x3_21 ex3_21 => ?_)
          have hp := stk_e hp ex3_21
          refine lv_istore_n (lv' := [(3, .int x3_21), (0, .ref (qmo 0)), (1, .int p1), (2, .int x2), (4, .int x4)]) hx hb dX12_rank_83 rfl hl (by decide) rfl (fun ls hl => ?_)
          obtain ⟨x4_22, ex4_22⟩ : ∃ y : Int32, y = x4 + 1 := ⟨_, rfl⟩
          have hp := stk_e hp ex4_22
          refine lv_iinc (v := x4_22) (lv' := [(4, .int x4_22), (3, .int x3_21), (0, .ref (qmo 0)), (1, .int p1), (2, .int x2)]) hx hb dX12_rank_84 hl (k := 4) rfl (by rw [ex4_22]; rfl) (by decide) rfl (fun ls hl => ?_)
          refine lv_goto (tgt := 29) hx hb dX12_rank_87 (by decide) ?_
          exact hk29 x2 x3_21 x4_22 _ (lv_sub hl [2, 3, 4, 1, 0] rfl) hp
        · have hp := ite_p hp c_20
          refine lv_iload hx hb dX12_rank_61 (lv_at hl 4 rfl) ?_
          refine lv_iload_n hx hb dX12_rank_63 rfl (lv_at hl 2 rfl) ?_
          refine lv_icmp_ge (tgt := 81) hx hb dX12_rank_64 (by decide) (fun c_23 => ?_) (fun c_23 => ?_)
          · have hp := ite_p hp c_23
            refine lv_iconst (v := 0) hx hb dX12_rank_81 (by decide) ?_
            refine lv_iadd hx hb dX12_rank_82 ?_
            refine lv_topi (fun x3_24 ex3_24 => ?_)
            have hp := stk_e hp ex3_24
            refine lv_istore_n (lv' := [(3, .int x3_24), (0, .ref (qmo 0)), (1, .int p1), (2, .int x2), (4, .int x4)]) hx hb dX12_rank_83 rfl hl (by decide) rfl (fun ls hl => ?_)
            obtain ⟨x4_25, ex4_25⟩ : ∃ y : Int32, y = x4 + 1 := ⟨_, rfl⟩
            have hp := stk_e hp ex4_25
            refine lv_iinc (v := x4_25) (lv' := [(4, .int x4_25), (3, .int x3_24), (0, .ref (qmo 0)), (1, .int p1), (2, .int x2)]) hx hb dX12_rank_84 hl (k := 4) rfl (by rw [ex4_25]; rfl) (by decide) rfl (fun ls hl => ?_)
            refine lv_goto (tgt := 29) hx hb dX12_rank_87 (by decide) ?_
            exact hk29 x2 x3_24 x4_25 _ (lv_sub hl [2, 3, 4, 1, 0] rfl) hp
          · have hp := ite_n hp c_23
            refine lv_aload_n hx hb dX12_rank_67 rfl (lv_at hl 0 rfl) ?_
            refine lv_iload_n hx hb dX12_rank_68 rfl (lv_at hl 2 rfl) ?_
            refine lv_iload hx hb dX12_rank_69 (lv_at hl 4 rfl) ?_
            obtain ⟨r_27, hc_26, hp⟩ := bn1_s hp
            refine k_ROV (As := [.int x2, .int x4]) (rest := [.int x3]) ⟨hx, hb, hml, hown, hts⟩ hK hP (cw_X12_280 hts ⟨Nat.le_of_ble_eq_true rfl, Nat.le_of_ble_eq_true rfl⟩) 0 (ci := 12) rfl rfl rfl (c_X12_waitsMore l D cy qmo mo x2 x4 r_27 hc_26) rfl hl.1 (Nat.le_of_ble_eq_true rfl) ⟨Nat.le_refl _, Nat.le_refl _⟩ dX12_rank_71 ?_
            refine lv_if_ne (tgt := 81) hx hb dX12_rank_74 (by decide) (fun c_28 => ?_) (fun c_28 => ?_)
            · have hp := ite_n hp c_28
              refine lv_iconst (v := 0) hx hb dX12_rank_81 (by decide) ?_
              refine lv_iadd hx hb dX12_rank_82 ?_
              refine lv_topi (fun x3_29 ex3_29 => ?_)
              have hp := stk_e hp ex3_29
              refine lv_istore_n (lv' := [(3, .int x3_29), (0, .ref (qmo 0)), (1, .int p1), (2, .int x2), (4, .int x4)]) hx hb dX12_rank_83 rfl hl (by decide) rfl (fun ls hl => ?_)
              obtain ⟨x4_30, ex4_30⟩ : ∃ y : Int32, y = x4 + 1 := ⟨_, rfl⟩
              have hp := stk_e hp ex4_30
              refine lv_iinc (v := x4_30) (lv' := [(4, .int x4_30), (3, .int x3_29), (0, .ref (qmo 0)), (1, .int p1), (2, .int x2)]) hx hb dX12_rank_84 hl (k := 4) rfl (by rw [ex4_30]; rfl) (by decide) rfl (fun ls hl => ?_)
              refine lv_goto (tgt := 29) hx hb dX12_rank_87 (by decide) ?_
              exact hk29 x2 x3_29 x4_30 _ (lv_sub hl [2, 3, 4, 1, 0] rfl) hp
            · have hp := ite_p hp c_28
              refine lv_iconst (v := 1) hx hb dX12_rank_77 (by decide) ?_
              refine lv_goto (tgt := 82) hx hb dX12_rank_78 (by decide) ?_
              refine lv_iadd hx hb dX12_rank_82 ?_
              refine lv_topi (fun x3_31 ex3_31 => ?_)
              have hp := stk_e hp ex3_31
              refine lv_istore_n (lv' := [(3, .int x3_31), (0, .ref (qmo 0)), (1, .int p1), (2, .int x2), (4, .int x4)]) hx hb dX12_rank_83 rfl hl (by decide) rfl (fun ls hl => ?_)
              obtain ⟨x4_32, ex4_32⟩ : ∃ y : Int32, y = x4 + 1 := ⟨_, rfl⟩
              have hp := stk_e hp ex4_32
              refine lv_iinc (v := x4_32) (lv' := [(4, .int x4_32), (3, .int x3_31), (0, .ref (qmo 0)), (1, .int p1), (2, .int x2)]) hx hb dX12_rank_84 hl (k := 4) rfl (by rw [ex4_32]; rfl) (by decide) rfl (fun ls hl => ?_)
              refine lv_goto (tgt := 29) hx hb dX12_rank_87 (by decide) ?_
              exact hk29 x2 x3_31 x4_32 _ (lv_sub hl [2, 3, 4, 1, 0] rfl) hp
theorem Mo_rank_b29_w (C0 : cX RX12 cX12_rank (some .int) 5 p s m args meth c) (hK : kN D cy s) {qmo : Nat → Nat} {mo : Mem} {p1 : Int32} {r : Int32} (hP : va_P D vwCl (w_Mo cy qmo mo) s.heap) {k8 : Int32 → Option (Int32)} (hk8 : ∀ (x2 : Int32) (ls : Array Slot), lv_has ls 5 [(0, .ref (qmo 0)), (1, .int p1), (2, .int x2)] → k8 x2 = some r → W p l e (rmD 5) s m args below meth c s.heap [] 0 0 (qRO below args s r) (F0 m 8 ls [])) : ∀ (n : Nat) (x2 x3 x4 : Int32) (ls : Array Slot), lv_has ls 5 [(0, .ref (qmo 0)), (1, .int p1), (2, .int x2), (3, .int x3), (4, .int x4)] → Mo_rank_b29 mo p1 k8 n x2 x3 x4 = some r → W p l e (rmD 5) s m args below meth c s.heap [] 0 0 (qRO below args s r) (F0 m 29 ls []) := by
  intro n
  induction n with
  | zero =>
    intro x2 x3 x4 ls hl hp
    cases hp
  | succ n ih =>
    intro x2 x3 x4 ls hl hp
    exact Mo_rank_b29B_w C0 hK hP hk8 (fun x2 x3 x4 ls hl hp => ih x2 x3 x4 ls hl hp) hl hp
set_option maxHeartbeats 4000000 in
set_option maxRecDepth 100000 in
theorem Mo_rank_b8B_w (C0 : cX RX12 cX12_rank (some .int) 5 p s m args meth c) (hK : kN D cy s) {qmo : Nat → Nat} {mo : Mem} {p1 : Int32} {r : Int32} (hP : va_P D vwCl (w_Mo cy qmo mo) s.heap) {k8 : Int32 → Option (Int32)} (hk8 : ∀ (x2 : Int32) (ls : Array Slot), lv_has ls 5 [(0, .ref (qmo 0)), (1, .int p1), (2, .int x2)] → k8 x2 = some r → W p l e (rmD 5) s m args below meth c s.heap [] 0 0 (qRO below args s r) (F0 m 8 ls [])) {x2 : Int32} {ls : Array Slot} (hl : lv_has ls 5 [(0, .ref (qmo 0)), (1, .int p1), (2, .int x2)]) (hp : Mo_rank_b8B mo p1 k8 x2 = some r) : W p l e (rmD 5) s m args below meth c s.heap [] 0 0 (qRO below args s r) (F0 m 8 ls []) := by
  obtain ⟨hx, hb, hr, hml, hown, hts, hk⟩ := id C0
  unfold Mo_rank_b8B at hp
  refine lv_iload_n hx hb dX12_rank_8 rfl (lv_at hl 2 rfl) ?_
  refine lv_iconst (v := 5) hx hb dX12_rank_9 (by decide) ?_
  refine lv_icmp_ge (tgt := 103) hx hb dX12_rank_10 (by decide) (fun c_2 => ?_) (fun c_2 => ?_)
  · have hp := ite_p hp c_2
    refine lv_bipush (v := (-2)) hx hb dX12_rank_103 (by decide) ?_
    exact e_ROi hx hb hr hk dX12_rank_105 (Option.some.inj hp)
  · have hp := ite_n hp c_2
    refine lv_aload_n hx hb dX12_rank_13 rfl (lv_at hl 0 rfl) ?_
    refine lv_iload_n hx hb dX12_rank_14 rfl (lv_at hl 2 rfl) ?_
    obtain ⟨r_4, hc_3, hp⟩ := bn1_s hp
    refine k_ROV (As := [.int x2]) (rest := []) ⟨hx, hb, hml, hown, hts⟩ hK hP (cw_X12_277 hts ⟨Nat.le_of_ble_eq_true rfl, Nat.le_of_ble_eq_true rfl⟩) 0 (ci := 12) rfl rfl rfl (c_X12_lineFlights l D cy qmo mo x2 r_4 hc_3) rfl hl.1 (Nat.le_of_ble_eq_true rfl) ⟨Nat.le_refl _, Nat.le_refl _⟩ dX12_rank_15 ?_
    refine lv_if_ne (tgt := 24) hx hb dX12_rank_18 (by decide) (fun c_5 => ?_) (fun c_5 => ?_)
    · have hp := ite_n hp c_5
      refine lv_iconst (v := 0) hx hb dX12_rank_24 (by decide) ?_
      refine lv_istore_n (lv' := [(3, .int 0), (0, .ref (qmo 0)), (1, .int p1), (2, .int x2)]) hx hb dX12_rank_25 rfl hl (by decide) rfl (fun ls hl => ?_)
      refine lv_iconst (v := 0) hx hb dX12_rank_26 (by decide) ?_
      refine lv_istore (lv' := [(4, .int 0), (3, .int 0), (0, .ref (qmo 0)), (1, .int p1), (2, .int x2)]) hx hb dX12_rank_27 hl (by decide) rfl (fun ls hl => ?_)
      exact Mo_rank_b29_w C0 hK hP hk8 fl x2 0 0 _ (lv_sub hl [2, 3, 4, 1, 0] rfl) hp
    · have hp := ite_p hp c_5
      refine lv_goto (tgt := 97) hx hb dX12_rank_21 (by decide) ?_
      obtain ⟨x2_6, ex2_6⟩ : ∃ y : Int32, y = x2 + 1 := ⟨_, rfl⟩
      have hp := stk_e hp ex2_6
      refine lv_iinc (v := x2_6) (lv' := [(2, .int x2_6), (0, .ref (qmo 0)), (1, .int p1)]) hx hb dX12_rank_97 hl (k := 2) rfl (by rw [ex2_6]; rfl) (by decide) rfl (fun ls hl => ?_)
      refine lv_goto (tgt := 8) hx hb dX12_rank_100 (by decide) ?_
      exact hk8 x2_6 _ (lv_sub hl [1, 2, 0] rfl) hp
theorem Mo_rank_b8_w (C0 : cX RX12 cX12_rank (some .int) 5 p s m args meth c) (hK : kN D cy s) {qmo : Nat → Nat} {mo : Mem} {p1 : Int32} {r : Int32} (hP : va_P D vwCl (w_Mo cy qmo mo) s.heap) : ∀ (n : Nat) (x2 : Int32) (ls : Array Slot), lv_has ls 5 [(0, .ref (qmo 0)), (1, .int p1), (2, .int x2)] → Mo_rank_b8 mo p1 n x2 = some r → W p l e (rmD 5) s m args below meth c s.heap [] 0 0 (qRO below args s r) (F0 m 8 ls []) := by
  intro n
  induction n with
  | zero =>
    intro x2 ls hl hp
    cases hp
  | succ n ih =>
    intro x2 ls hl hp
    exact Mo_rank_b8B_w C0 hK hP  (fun x2 ls hl hp => ih x2 ls hl hp) hl hp
set_option maxHeartbeats 4000000 in
set_option maxRecDepth 100000 in
theorem c_X12_rank (l : Launch) (D : va_G) (cy : Nat → ClassId) (qmo : Nat → Nat) (mo : Mem) (p1 : Int32) (r : Int32) (hp : Mo_rank mo p1 = some r) : RO l yX12_rank cX12_rank 5 (some .int) 5 D cy [.ref (qmo 0), .int p1] (w_Mo cy qmo mo) r := by
  refine RO_of RX12 rfl (by decide) (Nat.le_of_ble_eq_true rfl) ?_
  intro p e s m below meth c C0 hK hP ls hl
  obtain ⟨hx, hb, hr, hml, hown, hts, hk⟩ := id C0
  unfold Mo_rank at hp
  have hl : lv_has ls 5 [(0, .ref (qmo 0)), (1, .int p1)] := hl
  refine lv_iload_n hx hb dX12_rank_0 rfl (lv_at hl 1 rfl) ?_
  refine lv_if_ge (tgt := 6) hx hb dX12_rank_1 (by decide) (fun c_1 => ?_) (fun c_1 => ?_)
  · have hp := ite_p hp c_1
    refine lv_iconst (v := 0) hx hb dX12_rank_6 (by decide) ?_
    refine lv_istore_n (lv' := [(2, .int 0), (0, .ref (qmo 0)), (1, .int p1)]) hx hb dX12_rank_7 rfl hl (by decide) rfl (fun ls hl => ?_)
    exact Mo_rank_b8_w C0 hK hP  fl 0 _ (lv_sub hl [1, 2, 0] rfl) hp
  · have hp := ite_n hp c_1
    refine lv_iconst (v := (-1)) hx hb dX12_rank_4 (by decide) ?_
    exact e_ROi hx hb hr hk dX12_rank_5 (Option.some.inj hp)
/-! StormSlotsModel.unfairNow()I -/
def Mo_unfairNow_b6B (mo : Mem) (k6 : Int32 → Int32 → Int32 → Option (Int32)) (x1 : Int32) (x2 : Int32) (x3 : Int32) : Option (Int32) :=
  if 5 ≤ x3 then if x1 = (-1) then some (-2) else some (x1 - x2) else bn1 (Mo_lineFlights mo x3) (fun r_4 => if r_4 = 0 then stk (x3 + 1) (fun x3_17 => k6 x1 x2 x3_17) else bn1 (Mo_lineWaits mo x3) (fun r_7 => ckD r_4 (stk ((r_7 * 100) / r_4) (fun x5_9 => bn1 (Mo_more x1 x5_9) (fun r_11 => if x2 = (-1) then stk (x3 + 1) (fun x3_13 => k6 r_11 x5_9 x3_13) else if x2 ≤ x5_9 then stk (x3 + 1) (fun x3_15 => k6 r_11 x2 x3_15) else stk (x3 + 1) (fun x3_16 => k6 r_11 x5_9 x3_16))))))
def Mo_unfairNow_b6 (mo : Mem) : Nat → Int32 → Int32 → Int32 → Option (Int32)
  | 0 => fun _ _ _ => none
  | n + 1 => Mo_unfairNow_b6B mo (Mo_unfairNow_b6 mo n)
def Mo_unfairNow (mo : Mem) : Option (Int32) :=
  Mo_unfairNow_b6 mo fl (-1) (-1) 0
set_option maxHeartbeats 4000000 in
set_option maxRecDepth 100000 in
theorem Mo_unfairNow_b6B_w (C0 : cX RX12 cX12_unfairNow (some .int) 6 p s m args meth c) (hK : kN D cy s) {qmo : Nat → Nat} {mo : Mem} {r : Int32} (hP : va_P D vwCl (w_Mo cy qmo mo) s.heap) {k6 : Int32 → Int32 → Int32 → Option (Int32)} (hk6 : ∀ (x1 x2 x3 : Int32) (ls : Array Slot), lv_has ls 6 [(0, .ref (qmo 0)), (1, .int x1), (2, .int x2), (3, .int x3)] → k6 x1 x2 x3 = some r → W p l e (rmD 4) s m args below meth c s.heap [] 0 0 (qRO below args s r) (F0 m 6 ls [])) {x1 : Int32} {x2 : Int32} {x3 : Int32} {ls : Array Slot} (hl : lv_has ls 6 [(0, .ref (qmo 0)), (1, .int x1), (2, .int x2), (3, .int x3)]) (hp : Mo_unfairNow_b6B mo k6 x1 x2 x3 = some r) : W p l e (rmD 4) s m args below meth c s.heap [] 0 0 (qRO below args s r) (F0 m 6 ls []) := by
  obtain ⟨hx, hb, hr, hml, hown, hts, hk⟩ := id C0
  unfold Mo_unfairNow_b6B at hp
  refine lv_iload_n hx hb dX12_unfairNow_6 rfl (lv_at hl 3 rfl) ?_
  refine lv_iconst (v := 5) hx hb dX12_unfairNow_7 (by decide) ?_
  refine lv_icmp_ge (tgt := 70) hx hb dX12_unfairNow_8 (by decide) (fun c_1 => ?_) (fun c_1 => ?_)
  · have hp := ite_p hp c_1
    refine lv_iload_n hx hb dX12_unfairNow_70 rfl (lv_at hl 1 rfl) ?_
    refine lv_iconst (v := (-1)) hx hb dX12_unfairNow_71 (by decide) ?_
    refine lv_icmp_ne (tgt := 80) hx hb dX12_unfairNow_72 (by decide) (fun c_2 => ?_) (fun c_2 => ?_)
    · have hp := ite_n hp c_2
      refine lv_iload_n hx hb dX12_unfairNow_80 rfl (lv_at hl 1 rfl) ?_
      refine lv_iload_n hx hb dX12_unfairNow_81 rfl (lv_at hl 2 rfl) ?_
      refine lv_isub hx hb dX12_unfairNow_82 ?_
      exact e_ROi hx hb hr hk dX12_unfairNow_83 (Option.some.inj hp)
    · have hp := ite_p hp c_2
      refine lv_bipush (v := (-2)) hx hb dX12_unfairNow_75 (by decide) ?_
      refine lv_goto (tgt := 83) hx hb dX12_unfairNow_77 (by decide) ?_
      exact e_ROi hx hb hr hk dX12_unfairNow_83 (Option.some.inj hp)
  · have hp := ite_n hp c_1
    refine lv_aload_n hx hb dX12_unfairNow_11 rfl (lv_at hl 0 rfl) ?_
    refine lv_iload_n hx hb dX12_unfairNow_12 rfl (lv_at hl 3 rfl) ?_
    obtain ⟨r_4, hc_3, hp⟩ := bn1_s hp
    refine k_ROV (As := [.int x3]) (rest := []) ⟨hx, hb, hml, hown, hts⟩ hK hP (cw_X12_277 hts ⟨Nat.le_of_ble_eq_true rfl, Nat.le_of_ble_eq_true rfl⟩) 0 (ci := 12) rfl rfl rfl (c_X12_lineFlights l D cy qmo mo x3 r_4 hc_3) rfl hl.1 (Nat.le_of_ble_eq_true rfl) ⟨Nat.le_refl _, Nat.le_refl _⟩ dX12_unfairNow_13 ?_
    refine lv_istore (lv' := [(4, .int r_4), (0, .ref (qmo 0)), (1, .int x1), (2, .int x2), (3, .int x3)]) hx hb dX12_unfairNow_16 hl (by decide) rfl (fun ls hl => ?_)
    refine lv_iload hx hb dX12_unfairNow_18 (lv_at hl 0 rfl) ?_
    refine lv_if_ne (tgt := 26) hx hb dX12_unfairNow_20 (by decide) (fun c_5 => ?_) (fun c_5 => ?_)
    · have hp := ite_n hp c_5
      refine lv_aload_n hx hb dX12_unfairNow_26 rfl (lv_at hl 1 rfl) ?_
      refine lv_iload_n hx hb dX12_unfairNow_27 rfl (lv_at hl 4 rfl) ?_
      obtain ⟨r_7, hc_6, hp⟩ := bn1_s hp
      refine k_ROV (As := [.int x3]) (rest := []) ⟨hx, hb, hml, hown, hts⟩ hK hP (cw_X12_249 hts ⟨Nat.le_of_ble_eq_true rfl, Nat.le_of_ble_eq_true rfl⟩) 0 (ci := 12) rfl rfl rfl (c_X12_lineWaits l D cy qmo mo x3 r_7 hc_6) rfl hl.1 (Nat.le_of_ble_eq_true rfl) ⟨Nat.le_refl _, Nat.le_refl _⟩ dX12_unfairNow_28 ?_
      refine lv_bipush (v := 100) hx hb dX12_unfairNow_31 (by decide) ?_
      refine lv_imul hx hb dX12_unfairNow_33 ?_
      refine lv_iload hx hb dX12_unfairNow_34 (lv_at hl 0 rfl) ?_
      obtain ⟨hd_8, hp⟩ := ckD_s hp
      refine lv_idiv hx hb dX12_unfairNow_36 hd_8 ?_
      refine lv_topi (fun x5_9 ex5_9 => ?_)
      have hp := stk_e hp ex5_9
      refine lv_istore (lv' := [(5, .int x5_9), (4, .int r_4), (0, .ref (qmo 0)), (1, .int x1), (2, .int x2), (3, .int x3)]) hx hb dX12_unfairNow_37 hl (by decide) rfl (fun ls hl => ?_)
      refine lv_iload_n hx hb dX12_unfairNow_39 rfl (lv_at hl 3 rfl) ?_
      refine lv_iload hx hb dX12_unfairNow_40 (lv_at hl 0 rfl) ?_
      obtain ⟨r_11, hc_10, hp⟩ := bn1_s hp
      refine k_ROS (As := [.int x1, .int x5_9]) (rest := []) ⟨hx, hb, hml, hown, hts⟩ hK (show va_P D vwCl [] _ from fun k q h => by simp at h) (cw_X12_141 hts ⟨Nat.le_of_ble_eq_true rfl, Nat.le_of_ble_eq_true rfl⟩) (c_X12_more l D cy x1 x5_9 r_11 hc_10) rfl hl.1 (Nat.le_of_ble_eq_true rfl) ⟨Nat.le_refl _, Nat.le_refl _⟩ dX12_unfairNow_42 ?_
      refine lv_istore_n (lv' := [(1, .int r_11), (5, .int x5_9), (4, .int r_4), (0, .ref (qmo 0)), (2, .int x2), (3, .int x3)]) hx hb dX12_unfairNow_45 rfl hl (by decide) rfl (fun ls hl => ?_)
      refine lv_iload_n hx hb dX12_unfairNow_46 rfl (lv_at hl 4 rfl) ?_
      refine lv_iconst (v := (-1)) hx hb dX12_unfairNow_47 (by decide) ?_
      refine lv_icmp_eq (tgt := 57) hx hb dX12_unfairNow_48 (by decide) (fun c_12 => ?_) (fun c_12 => ?_)
      · have hp := ite_p hp c_12
        refine lv_iload hx hb dX12_unfairNow_57 (lv_at hl 1 rfl) ?_
        refine lv_goto (tgt := 63) hx hb dX12_unfairNow_59 (by decide) ?_
        refine lv_istore_n (lv' := [(2, .int x5_9), (1, .int r_11), (5, .int x5_9), (4, .int r_4), (0, .ref (qmo 0)), (3, .int x3)]) hx hb dX12_unfairNow_63 rfl hl (by decide) rfl (fun ls hl => ?_)
        obtain ⟨x3_13, ex3_13⟩ : ∃ y : Int32, y = x3 + 1 := ⟨_, rfl⟩
        have hp := stk_e hp ex3_13
        refine lv_iinc (v := x3_13) (lv' := [(3, .int x3_13), (2, .int x5_9), (1, .int r_11), (5, .int x5_9), (4, .int r_4), (0, .ref (qmo 0))]) hx hb dX12_unfairNow_64 hl (k := 5) rfl (by rw [ex3_13]; rfl) (by decide) rfl (fun ls hl => ?_)
        refine lv_goto (tgt := 6) hx hb dX12_unfairNow_67 (by decide) ?_
        exact hk6 r_11 x5_9 x3_13 _ (lv_sub hl [5, 2, 1, 0] rfl) hp
      · have hp := ite_n hp c_12
        refine lv_iload hx hb dX12_unfairNow_51 (lv_at hl 1 rfl) ?_
        refine lv_iload_n hx hb dX12_unfairNow_53 rfl (lv_at hl 4 rfl) ?_
        refine lv_icmp_ge (tgt := 62) hx hb dX12_unfairNow_54 (by decide) (fun c_14 => ?_) (fun c_14 => ?_)
        · have hp := ite_p hp c_14
          refine lv_iload_n hx hb dX12_unfairNow_62 rfl (lv_at hl 4 rfl) ?_
          refine lv_istore_n (lv' := [(2, .int x2), (1, .int r_11), (5, .int x5_9), (4, .int r_4), (0, .ref (qmo 0)), (3, .int x3)]) hx hb dX12_unfairNow_63 rfl hl (by decide) rfl (fun ls hl => ?_)
          obtain ⟨x3_15, ex3_15⟩ : ∃ y : Int32, y = x3 + 1 := ⟨_, rfl⟩
          have hp := stk_e hp ex3_15
          refine lv_iinc (v := x3_15) (lv' := [(3, .int x3_15), (2, .int x2), (1, .int r_11), (5, .int x5_9), (4, .int r_4), (0, .ref (qmo 0))]) hx hb dX12_unfairNow_64 hl (k := 5) rfl (by rw [ex3_15]; rfl) (by decide) rfl (fun ls hl => ?_)
          refine lv_goto (tgt := 6) hx hb dX12_unfairNow_67 (by decide) ?_
          exact hk6 r_11 x2 x3_15 _ (lv_sub hl [5, 2, 1, 0] rfl) hp
        · have hp := ite_n hp c_14
          refine lv_iload hx hb dX12_unfairNow_57 (lv_at hl 1 rfl) ?_
          refine lv_goto (tgt := 63) hx hb dX12_unfairNow_59 (by decide) ?_
          refine lv_istore_n (lv' := [(2, .int x5_9), (1, .int r_11), (5, .int x5_9), (4, .int r_4), (0, .ref (qmo 0)), (3, .int x3)]) hx hb dX12_unfairNow_63 rfl hl (by decide) rfl (fun ls hl => ?_)
          obtain ⟨x3_16, ex3_16⟩ : ∃ y : Int32, y = x3 + 1 := ⟨_, rfl⟩
          have hp := stk_e hp ex3_16
          refine lv_iinc (v := x3_16) (lv' := [(3, .int x3_16), (2, .int x5_9), (1, .int r_11), (5, .int x5_9), (4, .int r_4), (0, .ref (qmo 0))]) hx hb dX12_unfairNow_64 hl (k := 5) rfl (by rw [ex3_16]; rfl) (by decide) rfl (fun ls hl => ?_)
          refine lv_goto (tgt := 6) hx hb dX12_unfairNow_67 (by decide) ?_
          exact hk6 r_11 x5_9 x3_16 _ (lv_sub hl [5, 2, 1, 0] rfl) hp
    · have hp := ite_p hp c_5
      refine lv_goto (tgt := 64) hx hb dX12_unfairNow_23 (by decide) ?_
      obtain ⟨x3_17, ex3_17⟩ : ∃ y : Int32, y = x3 + 1 := ⟨_, rfl⟩
      have hp := stk_e hp ex3_17
      refine lv_iinc (v := x3_17) (lv' := [(3, .int x3_17), (4, .int r_4), (0, .ref (qmo 0)), (1, .int x1), (2, .int x2)]) hx hb dX12_unfairNow_64 hl (k := 4) rfl (by rw [ex3_17]; rfl) (by decide) rfl (fun ls hl => ?_)
      refine lv_goto (tgt := 6) hx hb dX12_unfairNow_67 (by decide) ?_
      exact hk6 x1 x2 x3_17 _ (lv_sub hl [2, 3, 4, 0] rfl) hp
theorem Mo_unfairNow_b6_w (C0 : cX RX12 cX12_unfairNow (some .int) 6 p s m args meth c) (hK : kN D cy s) {qmo : Nat → Nat} {mo : Mem} {r : Int32} (hP : va_P D vwCl (w_Mo cy qmo mo) s.heap) : ∀ (n : Nat) (x1 x2 x3 : Int32) (ls : Array Slot), lv_has ls 6 [(0, .ref (qmo 0)), (1, .int x1), (2, .int x2), (3, .int x3)] → Mo_unfairNow_b6 mo n x1 x2 x3 = some r → W p l e (rmD 4) s m args below meth c s.heap [] 0 0 (qRO below args s r) (F0 m 6 ls []) := by
  intro n
  induction n with
  | zero =>
    intro x1 x2 x3 ls hl hp
    cases hp
  | succ n ih =>
    intro x1 x2 x3 ls hl hp
    exact Mo_unfairNow_b6B_w C0 hK hP  (fun x1 x2 x3 ls hl hp => ih x1 x2 x3 ls hl hp) hl hp
set_option maxHeartbeats 4000000 in
set_option maxRecDepth 100000 in
theorem c_X12_unfairNow (l : Launch) (D : va_G) (cy : Nat → ClassId) (qmo : Nat → Nat) (mo : Mem) (r : Int32) (hp : Mo_unfairNow mo = some r) : RO l yX12_unfairNow cX12_unfairNow 6 (some .int) 4 D cy [.ref (qmo 0)] (w_Mo cy qmo mo) r := by
  refine RO_of RX12 rfl (by decide) (Nat.le_of_ble_eq_true rfl) ?_
  intro p e s m below meth c C0 hK hP ls hl
  obtain ⟨hx, hb, hr, hml, hown, hts, hk⟩ := id C0
  unfold Mo_unfairNow at hp
  have hl : lv_has ls 6 [(0, .ref (qmo 0))] := hl
  refine lv_iconst (v := (-1)) hx hb dX12_unfairNow_0 (by decide) ?_
  refine lv_istore_n (lv' := [(1, .int (-1)), (0, .ref (qmo 0))]) hx hb dX12_unfairNow_1 rfl hl (by decide) rfl (fun ls hl => ?_)
  refine lv_iconst (v := (-1)) hx hb dX12_unfairNow_2 (by decide) ?_
  refine lv_istore_n (lv' := [(2, .int (-1)), (1, .int (-1)), (0, .ref (qmo 0))]) hx hb dX12_unfairNow_3 rfl hl (by decide) rfl (fun ls hl => ?_)
  refine lv_iconst (v := 0) hx hb dX12_unfairNow_4 (by decide) ?_
  refine lv_istore_n (lv' := [(3, .int 0), (2, .int (-1)), (1, .int (-1)), (0, .ref (qmo 0))]) hx hb dX12_unfairNow_5 rfl hl (by decide) rfl (fun ls hl => ?_)
  exact Mo_unfairNow_b6_w C0 hK hP  fl (-1) (-1) 0 _ (lv_sub hl [3, 2, 1, 0] rfl) hp
/-! StormSlotsModel.unfair()I -/
def Mo_unfair (mo : Mem) : Option (Int32) :=
  bn1 (Mo_unfairNow mo) (fun r_2 => some r_2)
set_option maxHeartbeats 4000000 in
set_option maxRecDepth 100000 in
theorem c_X12_unfair (l : Launch) (D : va_G) (cy : Nat → ClassId) (qmo : Nat → Nat) (mo : Mem) (r : Int32) (hp : Mo_unfair mo = some r) : RO l yX12_unfair cX12_unfair 1 (some .int) 5 D cy [.ref (qmo 0)] (w_Mo cy qmo mo) r := by
  refine RO_of RX12 rfl (by decide) (Nat.le_of_ble_eq_true rfl) ?_
  intro p e s m below meth c C0 hK hP ls hl
  obtain ⟨hx, hb, hr, hml, hown, hts, hk⟩ := id C0
  unfold Mo_unfair at hp
  have hl : lv_has ls 1 [(0, .ref (qmo 0))] := hl
  refine lv_aload_n hx hb dX12_unfair_0 rfl (lv_at hl 0 rfl) ?_
  obtain ⟨r_2, hc_1, hp⟩ := bn1_s hp
  refine k_ROV (As := []) (rest := []) ⟨hx, hb, hml, hown, hts⟩ hK hP (cw_X12_283 hts ⟨Nat.le_of_ble_eq_true rfl, Nat.le_of_ble_eq_true rfl⟩) 0 (ci := 12) rfl rfl rfl (c_X12_unfairNow l D cy qmo mo r_2 hc_1) rfl hl.1 (Nat.le_of_ble_eq_true rfl) ⟨Nat.le_refl _, Nat.le_refl _⟩ dX12_unfair_1 ?_
  exact e_ROi hx hb hr hk dX12_unfair_4 (Option.some.inj hp)
/-! StormSlotsModel.link(III)I -/
def Mo_link (mo : Mem) (p1 : Int32) (p2 : Int32) (p3 : Int32) : Option (Int32 × Mem) :=
  bn1 (Mo_isFlight mo p1) (fun r_2 => if r_2 = 0 then some ((-1), mo) else bn1 (Mo_isFlight mo p2) (fun r_5 => if r_5 = 0 then some ((-1), mo) else if p1 = p2 then some ((-1), mo) else bn1 (Mo_in p3 0 300) (fun r_9 => if r_9 = 0 then some ((-1), mo) else ckI 175 1452 (if (mo 0 (175 : Int32).toNatClampNeg) = 12 then some ((-2), mo) else stk (216 + (3 * (mo 0 (175 : Int32).toNatClampNeg))) (fun x4_13 => ckI x4_13 1452 (stk (upm mo 0 x4_13.toNatClampNeg p1) (fun mo_15 => ckI (x4_13 + 1) 1452 (stk (upm mo_15 0 (x4_13 + 1).toNatClampNeg p2) (fun mo_17 => ckI (x4_13 + 2) 1452 (stk (upm mo_17 0 (x4_13 + 2).toNatClampNeg p3) (fun mo_19 => stk (upm mo_19 0 (175 : Int32).toNatClampNeg ((mo_19 0 (175 : Int32).toNatClampNeg) + 1)) (fun mo_20 => some (((mo_20 0 (175 : Int32).toNatClampNeg) - 1), mo_20)))))))))))))
set_option maxHeartbeats 4000000 in
set_option maxRecDepth 100000 in
theorem c_X12_link (l : Launch) (D : va_G) (cy : Nat → ClassId) (qmo : Nat → Nat) (mo : Mem) (p1 p2 p3 : Int32) (r : Int32) (mo' : Mem) (hp : Mo_link mo p1 p2 p3 = some (r, mo')) : RI l yX12_link cX12_link 5 (some .int) 2 D cy [.ref (qmo 0), .int p1, .int p2, .int p3] (w_Mo cy qmo mo) (w_Mo cy qmo mo') r := by
  refine RI_of RX12 rfl (by decide) (Nat.le_of_ble_eq_true rfl) ?_
  intro p e s m below meth c A C0 hK hP hD hS hA ls hl
  obtain ⟨hx, hb, hr, hml, hown, hts, hk⟩ := id C0
  unfold Mo_link at hp
  have hl : lv_has ls 5 [(0, .ref (qmo 0)), (1, .int p1), (2, .int p2), (3, .int p3)] := hl
  refine lv_aload_n hx hb dX12_link_0 rfl (lv_at hl 0 rfl) ?_
  refine lv_iload_n hx hb dX12_link_1 rfl (lv_at hl 1 rfl) ?_
  obtain ⟨r_2, hc_1, hp⟩ := bn1_s hp
  refine k_ROV (As := [.int p1]) (rest := []) ⟨hx, hb, hml, hown, hts⟩ hK hP (cw_X12_153 hts ⟨Nat.le_of_ble_eq_true rfl, Nat.le_of_ble_eq_true rfl⟩) 0 (ci := 12) rfl rfl rfl (c_X12_isFlight l D cy qmo mo p1 r_2 hc_1) rfl hl.1 (Nat.le_of_ble_eq_true rfl) ⟨Nat.le_refl _, Nat.le_refl _⟩ dX12_link_2 ?_
  refine lv_if_eq (tgt := 32) hx hb dX12_link_5 (by decide) (fun c_3 => ?_) (fun c_3 => ?_)
  · have hp := ite_p hp c_3
    refine lv_iconst (v := (-1)) hx hb dX12_link_32 (by decide) ?_
    simp only [Option.some.injEq, Prod.mk.injEq] at hp
    obtain ⟨h0, rfl⟩ := hp
    exact e_RIi hx hb hr hk hP hD hS dX12_link_33 h0
  · have hp := ite_n hp c_3
    refine lv_aload_n hx hb dX12_link_8 rfl (lv_at hl 0 rfl) ?_
    refine lv_iload_n hx hb dX12_link_9 rfl (lv_at hl 2 rfl) ?_
    obtain ⟨r_5, hc_4, hp⟩ := bn1_s hp
    refine k_ROV (As := [.int p2]) (rest := []) ⟨hx, hb, hml, hown, hts⟩ hK hP (cw_X12_153 hts ⟨Nat.le_of_ble_eq_true rfl, Nat.le_of_ble_eq_true rfl⟩) 0 (ci := 12) rfl rfl rfl (c_X12_isFlight l D cy qmo mo p2 r_5 hc_4) rfl hl.1 (Nat.le_of_ble_eq_true rfl) ⟨Nat.le_refl _, Nat.le_refl _⟩ dX12_link_10 ?_
    refine lv_if_eq (tgt := 32) hx hb dX12_link_13 (by decide) (fun c_6 => ?_) (fun c_6 => ?_)
    · have hp := ite_p hp c_6
      refine lv_iconst (v := (-1)) hx hb dX12_link_32 (by decide) ?_
      simp only [Option.some.injEq, Prod.mk.injEq] at hp
      obtain ⟨h0, rfl⟩ := hp
      exact e_RIi hx hb hr hk hP hD hS dX12_link_33 h0
    · have hp := ite_n hp c_6
      refine lv_iload_n hx hb dX12_link_16 rfl (lv_at hl 1 rfl) ?_
      refine lv_iload_n hx hb dX12_link_17 rfl (lv_at hl 2 rfl) ?_
      refine lv_icmp_eq (tgt := 32) hx hb dX12_link_18 (by decide) (fun c_7 => ?_) (fun c_7 => ?_)
      · have hp := ite_p hp c_7
        refine lv_iconst (v := (-1)) hx hb dX12_link_32 (by decide) ?_
        simp only [Option.some.injEq, Prod.mk.injEq] at hp
        obtain ⟨h0, rfl⟩ := hp
        exact e_RIi hx hb hr hk hP hD hS dX12_link_33 h0
      · have hp := ite_n hp c_7
        refine lv_iload_n hx hb dX12_link_21 rfl (lv_at hl 3 rfl) ?_
        refine lv_iconst (v := 0) hx hb dX12_link_22 (by decide) ?_
        refine lv_sipush (v := 300) hx hb dX12_link_23 (by decide) ?_
        obtain ⟨r_9, hc_8, hp⟩ := bn1_s hp
        refine k_ROS (As := [.int p3, .int 0, .int 300]) (rest := []) ⟨hx, hb, hml, hown, hts⟩ hK (show va_P D vwCl [] _ from fun k q h => by simp at h) (cw_X12_45 hts ⟨Nat.le_of_ble_eq_true rfl, Nat.le_of_ble_eq_true rfl⟩) (c_X12_in l D cy p3 0 300 r_9 hc_8) rfl hl.1 (Nat.le_of_ble_eq_true rfl) ⟨Nat.le_refl _, Nat.le_refl _⟩ dX12_link_26 ?_
        refine lv_if_ne (tgt := 34) hx hb dX12_link_29 (by decide) (fun c_10 => ?_) (fun c_10 => ?_)
        · have hp := ite_n hp c_10
          refine lv_aload_n hx hb dX12_link_34 rfl (lv_at hl 0 rfl) ?_
          refine gf_X12_7 hx hb hts hown hK hP 0 rfl rfl dX12_link_35 ?_
          refine lv_sipush (v := 175) hx hb dX12_link_38 (by decide) ?_
          obtain ⟨hi_11, hp⟩ := ckI_s hp
          refine r_ild hx hb hK hP 1 rfl hi_11 dX12_link_41 ?_
          refine lv_bipush (v := 12) hx hb dX12_link_42 (by decide) ?_
          refine lv_icmp_ne (tgt := 50) hx hb dX12_link_44 (by decide) (fun c_12 => ?_) (fun c_12 => ?_)
          · have hp := ite_n hp c_12
            refine lv_sipush (v := 216) hx hb dX12_link_50 (by decide) ?_
            refine lv_iconst (v := 3) hx hb dX12_link_53 (by decide) ?_
            refine lv_aload_n hx hb dX12_link_54 rfl (lv_at hl 0 rfl) ?_
            refine gf_X12_7 hx hb hts hown hK hP 0 rfl rfl dX12_link_55 ?_
            refine lv_sipush (v := 175) hx hb dX12_link_58 (by decide) ?_
            refine r_ild hx hb hK hP 1 rfl hi_11 dX12_link_61 ?_
            refine lv_imul hx hb dX12_link_62 ?_
            refine lv_iadd hx hb dX12_link_63 ?_
            refine lv_topi (fun x4_13 ex4_13 => ?_)
            have hp := stk_e hp ex4_13
            refine lv_istore (lv' := [(4, .int x4_13), (0, .ref (qmo 0)), (1, .int p1), (2, .int p2), (3, .int p3)]) hx hb dX12_link_64 hl (by decide) rfl (fun ls hl => ?_)
            refine lv_aload_n hx hb dX12_link_66 rfl (lv_at hl 1 rfl) ?_
            refine gf_X12_7 hx hb hts hown hK hP 0 rfl rfl dX12_link_67 ?_
            refine lv_iload hx hb dX12_link_70 (lv_at hl 0 rfl) ?_
            refine lv_iload_n hx hb dX12_link_72 rfl (lv_at hl 2 rfl) ?_
            obtain ⟨hi_14, hp⟩ := ckI_s hp
            obtain ⟨mo_15, emo_15⟩ : ∃ y : Mem, y = upm mo 0 x4_13.toNatClampNeg p1 := ⟨_, rfl⟩
            have hp := stk_e hp emo_15
            refine r_ist hx hb hK hP hD hS (wn := (w_Mo cy qmo mo_15)) 1 rfl hi_14 (by subst emo_15; rfl) dX12_link_73 (fun H locs hP hD hS => ?_)
            refine lv_aload_n hx hb dX12_link_74 rfl (lv_at hl 1 rfl) ?_
            refine gf_X12_7 hx hb hts hown hK hP 0 rfl rfl dX12_link_75 ?_
            refine lv_iload hx hb dX12_link_78 (lv_at hl 0 rfl) ?_
            refine lv_iconst (v := 1) hx hb dX12_link_80 (by decide) ?_
            refine lv_iadd hx hb dX12_link_81 ?_
            refine lv_iload_n hx hb dX12_link_82 rfl (lv_at hl 3 rfl) ?_
            obtain ⟨hi_16, hp⟩ := ckI_s hp
            obtain ⟨mo_17, emo_17⟩ : ∃ y : Mem, y = upm mo_15 0 (x4_13 + 1).toNatClampNeg p2 := ⟨_, rfl⟩
            have hp := stk_e hp emo_17
            refine r_ist hx hb hK hP hD hS (wn := (w_Mo cy qmo mo_17)) 1 rfl hi_16 (by subst emo_17; rfl) dX12_link_83 (fun H locs hP hD hS => ?_)
            refine lv_aload_n hx hb dX12_link_84 rfl (lv_at hl 1 rfl) ?_
            refine gf_X12_7 hx hb hts hown hK hP 0 rfl rfl dX12_link_85 ?_
            refine lv_iload hx hb dX12_link_88 (lv_at hl 0 rfl) ?_
            refine lv_iconst (v := 2) hx hb dX12_link_90 (by decide) ?_
            refine lv_iadd hx hb dX12_link_91 ?_
            refine lv_iload_n hx hb dX12_link_92 rfl (lv_at hl 4 rfl) ?_
            obtain ⟨hi_18, hp⟩ := ckI_s hp
            obtain ⟨mo_19, emo_19⟩ : ∃ y : Mem, y = upm mo_17 0 (x4_13 + 2).toNatClampNeg p3 := ⟨_, rfl⟩
            have hp := stk_e hp emo_19
            refine r_ist hx hb hK hP hD hS (wn := (w_Mo cy qmo mo_19)) 1 rfl hi_18 (by subst emo_19; rfl) dX12_link_93 (fun H locs hP hD hS => ?_)
            refine lv_aload_n hx hb dX12_link_94 rfl (lv_at hl 1 rfl) ?_
            refine gf_X12_7 hx hb hts hown hK hP 0 rfl rfl dX12_link_95 ?_
            refine lv_sipush (v := 175) hx hb dX12_link_98 (by decide) ?_
            refine lv_aload_n hx hb dX12_link_101 rfl (lv_at hl 1 rfl) ?_
            refine gf_X12_7 hx hb hts hown hK hP 0 rfl rfl dX12_link_102 ?_
            refine lv_sipush (v := 175) hx hb dX12_link_105 (by decide) ?_
            refine r_ild hx hb hK hP 1 rfl hi_11 dX12_link_108 ?_
            refine lv_iconst (v := 1) hx hb dX12_link_109 (by decide) ?_
            refine lv_iadd hx hb dX12_link_110 ?_
            obtain ⟨mo_20, emo_20⟩ : ∃ y : Mem, y = upm mo_19 0 (175 : Int32).toNatClampNeg ((mo_19 0 (175 : Int32).toNatClampNeg) + 1) := ⟨_, rfl⟩
            have hp := stk_e hp emo_20
            refine r_ist hx hb hK hP hD hS (wn := (w_Mo cy qmo mo_20)) 1 rfl hi_11 (by subst emo_20; rfl) dX12_link_111 (fun H locs hP hD hS => ?_)
            refine lv_aload_n hx hb dX12_link_112 rfl (lv_at hl 1 rfl) ?_
            refine gf_X12_7 hx hb hts hown hK hP 0 rfl rfl dX12_link_113 ?_
            refine lv_sipush (v := 175) hx hb dX12_link_116 (by decide) ?_
            refine r_ild hx hb hK hP 1 rfl hi_11 dX12_link_119 ?_
            refine lv_iconst (v := 1) hx hb dX12_link_120 (by decide) ?_
            refine lv_isub hx hb dX12_link_121 ?_
            simp only [Option.some.injEq, Prod.mk.injEq] at hp
            obtain ⟨h0, rfl⟩ := hp
            exact e_RIi hx hb hr hk hP hD hS dX12_link_122 h0
          · have hp := ite_p hp c_12
            refine lv_bipush (v := (-2)) hx hb dX12_link_47 (by decide) ?_
            simp only [Option.some.injEq, Prod.mk.injEq] at hp
            obtain ⟨h0, rfl⟩ := hp
            exact e_RIi hx hb hr hk hP hD hS dX12_link_49 h0
        · have hp := ite_p hp c_10
          refine lv_iconst (v := (-1)) hx hb dX12_link_32 (by decide) ?_
          simp only [Option.some.injEq, Prod.mk.injEq] at hp
          obtain ⟨h0, rfl⟩ := hp
          exact e_RIi hx hb hr hk hP hD hS dX12_link_33 h0
/-! StormSlotsModel.lacks(I)I -/
def Mo_lacks (mo : Mem) (p1 : Int32) : Option (Int32) :=
  stk (216 + (3 * p1)) (fun x2_1 => ckI x2_1 1452 (bn1 (Mo_isPlanned mo (mo 0 x2_1.toNatClampNeg)) (fun r_4 => if r_4 = 0 then some (-2) else ckI (x2_1 + 1) 1452 (bn1 (Mo_isPlanned mo (mo 0 (x2_1 + 1).toNatClampNeg)) (fun r_8 => if r_8 = 0 then some (-2) else bn1 (Mo_of mo (mo 0 x2_1.toNatClampNeg) 4) (fun r_11 => ckI (x2_1 + 2) 1452 (bn1 (Mo_offOf mo (mo 0 (x2_1 + 1).toNatClampNeg)) (fun r_14 => bn1 (Mo_of mo (mo 0 (x2_1 + 1).toNatClampNeg) 5) (fun r_16 => bn1 (Mo_more 0 (((r_11 + (mo 0 (x2_1 + 2).toNatClampNeg)) - r_14) - r_16)) (fun r_18 => some r_18))))))))))
set_option maxHeartbeats 4000000 in
set_option maxRecDepth 100000 in
theorem c_X12_lacks (l : Launch) (D : va_G) (cy : Nat → ClassId) (qmo : Nat → Nat) (mo : Mem) (p1 : Int32) (r : Int32) (hp : Mo_lacks mo p1 = some r) : RO l yX12_lacks cX12_lacks 3 (some .int) 2 D cy [.ref (qmo 0), .int p1] (w_Mo cy qmo mo) r := by
  refine RO_of RX12 rfl (by decide) (Nat.le_of_ble_eq_true rfl) ?_
  intro p e s m below meth c C0 hK hP ls hl
  obtain ⟨hx, hb, hr, hml, hown, hts, hk⟩ := id C0
  unfold Mo_lacks at hp
  have hl : lv_has ls 3 [(0, .ref (qmo 0)), (1, .int p1)] := hl
  refine lv_sipush (v := 216) hx hb dX12_lacks_0 (by decide) ?_
  refine lv_iconst (v := 3) hx hb dX12_lacks_3 (by decide) ?_
  refine lv_iload_n hx hb dX12_lacks_4 rfl (lv_at hl 1 rfl) ?_
  refine lv_imul hx hb dX12_lacks_5 ?_
  refine lv_iadd hx hb dX12_lacks_6 ?_
  refine lv_topi (fun x2_1 ex2_1 => ?_)
  have hp := stk_e hp ex2_1
  refine lv_istore_n (lv' := [(2, .int x2_1), (0, .ref (qmo 0)), (1, .int p1)]) hx hb dX12_lacks_7 rfl hl (by decide) rfl (fun ls hl => ?_)
  refine lv_aload_n hx hb dX12_lacks_8 rfl (lv_at hl 1 rfl) ?_
  refine lv_aload_n hx hb dX12_lacks_9 rfl (lv_at hl 1 rfl) ?_
  refine gf_X12_7 hx hb hts hown hK hP 0 rfl rfl dX12_lacks_10 ?_
  refine lv_iload_n hx hb dX12_lacks_13 rfl (lv_at hl 0 rfl) ?_
  obtain ⟨hi_2, hp⟩ := ckI_s hp
  refine r_ild hx hb hK hP 1 rfl hi_2 dX12_lacks_14 ?_
  obtain ⟨r_4, hc_3, hp⟩ := bn1_s hp
  refine k_ROV (As := [.int (mo 0 x2_1.toNatClampNeg)]) (rest := []) ⟨hx, hb, hml, hown, hts⟩ hK hP (cw_X12_144 hts ⟨Nat.le_of_ble_eq_true rfl, Nat.le_of_ble_eq_true rfl⟩) 0 (ci := 12) rfl rfl rfl (c_X12_isPlanned l D cy qmo mo (mo 0 x2_1.toNatClampNeg) r_4 hc_3) rfl hl.1 (Nat.le_of_ble_eq_true rfl) ⟨Nat.le_refl _, Nat.le_refl _⟩ dX12_lacks_15 ?_
  refine lv_if_eq (tgt := 36) hx hb dX12_lacks_18 (by decide) (fun c_5 => ?_) (fun c_5 => ?_)
  · have hp := ite_p hp c_5
    refine lv_bipush (v := (-2)) hx hb dX12_lacks_36 (by decide) ?_
    exact e_ROi hx hb hr hk dX12_lacks_38 (Option.some.inj hp)
  · have hp := ite_n hp c_5
    refine lv_aload_n hx hb dX12_lacks_21 rfl (lv_at hl 1 rfl) ?_
    refine lv_aload_n hx hb dX12_lacks_22 rfl (lv_at hl 1 rfl) ?_
    refine gf_X12_7 hx hb hts hown hK hP 0 rfl rfl dX12_lacks_23 ?_
    refine lv_iload_n hx hb dX12_lacks_26 rfl (lv_at hl 0 rfl) ?_
    refine lv_iconst (v := 1) hx hb dX12_lacks_27 (by decide) ?_
    refine lv_iadd hx hb dX12_lacks_28 ?_
    obtain ⟨hi_6, hp⟩ := ckI_s hp
    refine r_ild hx hb hK hP 1 rfl hi_6 dX12_lacks_29 ?_
    obtain ⟨r_8, hc_7, hp⟩ := bn1_s hp
    refine k_ROV (As := [.int (mo 0 (x2_1 + 1).toNatClampNeg)]) (rest := []) ⟨hx, hb, hml, hown, hts⟩ hK hP (cw_X12_144 hts ⟨Nat.le_of_ble_eq_true rfl, Nat.le_of_ble_eq_true rfl⟩) 0 (ci := 12) rfl rfl rfl (c_X12_isPlanned l D cy qmo mo (mo 0 (x2_1 + 1).toNatClampNeg) r_8 hc_7) rfl hl.1 (Nat.le_of_ble_eq_true rfl) ⟨Nat.le_refl _, Nat.le_refl _⟩ dX12_lacks_30 ?_
    refine lv_if_ne (tgt := 39) hx hb dX12_lacks_33 (by decide) (fun c_9 => ?_) (fun c_9 => ?_)
    · have hp := ite_n hp c_9
      refine lv_iconst (v := 0) hx hb dX12_lacks_39 (by decide) ?_
      refine lv_aload_n hx hb dX12_lacks_40 rfl (lv_at hl 1 rfl) ?_
      refine lv_aload_n hx hb dX12_lacks_41 rfl (lv_at hl 1 rfl) ?_
      refine gf_X12_7 hx hb hts hown hK hP 0 rfl rfl dX12_lacks_42 ?_
      refine lv_iload_n hx hb dX12_lacks_45 rfl (lv_at hl 0 rfl) ?_
      refine r_ild hx hb hK hP 1 rfl hi_2 dX12_lacks_46 ?_
      refine lv_iconst (v := 4) hx hb dX12_lacks_47 (by decide) ?_
      obtain ⟨r_11, hc_10, hp⟩ := bn1_s hp
      refine k_ROV (As := [.int (mo 0 x2_1.toNatClampNeg), .int 4]) (rest := [.int 0]) ⟨hx, hb, hml, hown, hts⟩ hK hP (cw_X12_128 hts ⟨Nat.le_of_ble_eq_true rfl, Nat.le_of_ble_eq_true rfl⟩) 0 (ci := 12) rfl rfl rfl (c_X12_of l D cy qmo mo (mo 0 x2_1.toNatClampNeg) 4 r_11 hc_10) rfl hl.1 (Nat.le_of_ble_eq_true rfl) ⟨Nat.le_refl _, Nat.le_refl _⟩ dX12_lacks_48 ?_
      refine lv_aload_n hx hb dX12_lacks_51 rfl (lv_at hl 1 rfl) ?_
      refine gf_X12_7 hx hb hts hown hK hP 0 rfl rfl dX12_lacks_52 ?_
      refine lv_iload_n hx hb dX12_lacks_55 rfl (lv_at hl 0 rfl) ?_
      refine lv_iconst (v := 2) hx hb dX12_lacks_56 (by decide) ?_
      refine lv_iadd hx hb dX12_lacks_57 ?_
      obtain ⟨hi_12, hp⟩ := ckI_s hp
      refine r_ild hx hb hK hP 1 rfl hi_12 dX12_lacks_58 ?_
      refine lv_iadd hx hb dX12_lacks_59 ?_
      refine lv_aload_n hx hb dX12_lacks_60 rfl (lv_at hl 1 rfl) ?_
      refine lv_aload_n hx hb dX12_lacks_61 rfl (lv_at hl 1 rfl) ?_
      refine gf_X12_7 hx hb hts hown hK hP 0 rfl rfl dX12_lacks_62 ?_
      refine lv_iload_n hx hb dX12_lacks_65 rfl (lv_at hl 0 rfl) ?_
      refine lv_iconst (v := 1) hx hb dX12_lacks_66 (by decide) ?_
      refine lv_iadd hx hb dX12_lacks_67 ?_
      refine r_ild hx hb hK hP 1 rfl hi_6 dX12_lacks_68 ?_
      obtain ⟨r_14, hc_13, hp⟩ := bn1_s hp
      refine k_ROV (As := [.int (mo 0 (x2_1 + 1).toNatClampNeg)]) (rest := [.int (r_11 + (mo 0 (x2_1 + 2).toNatClampNeg)), .int 0]) ⟨hx, hb, hml, hown, hts⟩ hK hP (cw_X12_147 hts ⟨Nat.le_of_ble_eq_true rfl, Nat.le_of_ble_eq_true rfl⟩) 0 (ci := 12) rfl rfl rfl (c_X12_offOf l D cy qmo mo (mo 0 (x2_1 + 1).toNatClampNeg) r_14 hc_13) rfl hl.1 (Nat.le_of_ble_eq_true rfl) ⟨Nat.le_refl _, Nat.le_refl _⟩ dX12_lacks_69 ?_
      refine lv_isub hx hb dX12_lacks_72 ?_
      refine lv_aload_n hx hb dX12_lacks_73 rfl (lv_at hl 1 rfl) ?_
      refine lv_aload_n hx hb dX12_lacks_74 rfl (lv_at hl 1 rfl) ?_
      refine gf_X12_7 hx hb hts hown hK hP 0 rfl rfl dX12_lacks_75 ?_
      refine lv_iload_n hx hb dX12_lacks_78 rfl (lv_at hl 0 rfl) ?_
      refine lv_iconst (v := 1) hx hb dX12_lacks_79 (by decide) ?_
      refine lv_iadd hx hb dX12_lacks_80 ?_
      refine r_ild hx hb hK hP 1 rfl hi_6 dX12_lacks_81 ?_
      refine lv_iconst (v := 5) hx hb dX12_lacks_82 (by decide) ?_
      obtain ⟨r_16, hc_15, hp⟩ := bn1_s hp
      refine k_ROV (As := [.int (mo 0 (x2_1 + 1).toNatClampNeg), .int 5]) (rest := [.int ((r_11 + (mo 0 (x2_1 + 2).toNatClampNeg)) - r_14), .int 0]) ⟨hx, hb, hml, hown, hts⟩ hK hP (cw_X12_128 hts ⟨Nat.le_of_ble_eq_true rfl, Nat.le_of_ble_eq_true rfl⟩) 0 (ci := 12) rfl rfl rfl (c_X12_of l D cy qmo mo (mo 0 (x2_1 + 1).toNatClampNeg) 5 r_16 hc_15) rfl hl.1 (Nat.le_of_ble_eq_true rfl) ⟨Nat.le_refl _, Nat.le_refl _⟩ dX12_lacks_83 ?_
      refine lv_isub hx hb dX12_lacks_86 ?_
      obtain ⟨r_18, hc_17, hp⟩ := bn1_s hp
      refine k_ROS (As := [.int 0, .int (((r_11 + (mo 0 (x2_1 + 2).toNatClampNeg)) - r_14) - r_16)]) (rest := []) ⟨hx, hb, hml, hown, hts⟩ hK (show va_P D vwCl [] _ from fun k q h => by simp at h) (cw_X12_141 hts ⟨Nat.le_of_ble_eq_true rfl, Nat.le_of_ble_eq_true rfl⟩) (c_X12_more l D cy 0 (((r_11 + (mo 0 (x2_1 + 2).toNatClampNeg)) - r_14) - r_16) r_18 hc_17) rfl hl.1 (Nat.le_of_ble_eq_true rfl) ⟨Nat.le_refl _, Nat.le_refl _⟩ dX12_lacks_87 ?_
      exact e_ROi hx hb hr hk dX12_lacks_90 (Option.some.inj hp)
    · have hp := ite_p hp c_9
      refine lv_bipush (v := (-2)) hx hb dX12_lacks_36 (by decide) ?_
      exact e_ROi hx hb hr hk dX12_lacks_38 (Option.some.inj hp)
/-! StormSlotsModel.broken()I -/
def Mo_broken_b4B (mo : Mem) (k4 : Int32 → Int32 → Option (Int32)) (x1 : Int32) (x2 : Int32) : Option (Int32) :=
  ckI 175 1452 (if (mo 0 (175 : Int32).toNatClampNeg) ≤ x2 then some x1 else bn1 (Mo_lacks mo x2) (fun r_4 => if r_4 = 0 then stk (x1 + 0) (fun x1_8 => stk (x2 + 1) (fun x2_9 => k4 x1_8 x2_9)) else stk (x1 + 1) (fun x1_6 => stk (x2 + 1) (fun x2_7 => k4 x1_6 x2_7))))
def Mo_broken_b4 (mo : Mem) : Nat → Int32 → Int32 → Option (Int32)
  | 0 => fun _ _ => none
  | n + 1 => Mo_broken_b4B mo (Mo_broken_b4 mo n)
def Mo_broken (mo : Mem) : Option (Int32) :=
  Mo_broken_b4 mo fl 0 0
set_option maxHeartbeats 4000000 in
set_option maxRecDepth 100000 in
theorem Mo_broken_b4B_w (C0 : cX RX12 cX12_broken (some .int) 3 p s m args meth c) (hK : kN D cy s) {qmo : Nat → Nat} {mo : Mem} {r : Int32} (hP : va_P D vwCl (w_Mo cy qmo mo) s.heap) {k4 : Int32 → Int32 → Option (Int32)} (hk4 : ∀ (x1 x2 : Int32) (ls : Array Slot), lv_has ls 3 [(0, .ref (qmo 0)), (1, .int x1), (2, .int x2)] → k4 x1 x2 = some r → W p l e (rmD 3) s m args below meth c s.heap [] 0 0 (qRO below args s r) (F0 m 4 ls [])) {x1 : Int32} {x2 : Int32} {ls : Array Slot} (hl : lv_has ls 3 [(0, .ref (qmo 0)), (1, .int x1), (2, .int x2)]) (hp : Mo_broken_b4B mo k4 x1 x2 = some r) : W p l e (rmD 3) s m args below meth c s.heap [] 0 0 (qRO below args s r) (F0 m 4 ls []) := by
  obtain ⟨hx, hb, hr, hml, hown, hts, hk⟩ := id C0
  unfold Mo_broken_b4B at hp
  refine lv_iload_n hx hb dX12_broken_4 rfl (lv_at hl 2 rfl) ?_
  refine lv_aload_n hx hb dX12_broken_5 rfl (lv_at hl 0 rfl) ?_
  refine gf_X12_7 hx hb hts hown hK hP 0 rfl rfl dX12_broken_6 ?_
  refine lv_sipush (v := 175) hx hb dX12_broken_9 (by decide) ?_
  obtain ⟨hi_1, hp⟩ := ckI_s hp
  refine r_ild hx hb hK hP 1 rfl hi_1 dX12_broken_12 ?_
  refine lv_icmp_ge (tgt := 38) hx hb dX12_broken_13 (by decide) (fun c_2 => ?_) (fun c_2 => ?_)
  · have hp := ite_p hp c_2
    refine lv_iload_n hx hb dX12_broken_38 rfl (lv_at hl 1 rfl) ?_
    exact e_ROi hx hb hr hk dX12_broken_39 (Option.some.inj hp)
  · have hp := ite_n hp c_2
    refine lv_iload_n hx hb dX12_broken_16 rfl (lv_at hl 1 rfl) ?_
    refine lv_aload_n hx hb dX12_broken_17 rfl (lv_at hl 0 rfl) ?_
    refine lv_iload_n hx hb dX12_broken_18 rfl (lv_at hl 2 rfl) ?_
    obtain ⟨r_4, hc_3, hp⟩ := bn1_s hp
    refine k_ROV (As := [.int x2]) (rest := [.int x1]) ⟨hx, hb, hml, hown, hts⟩ hK hP (cw_X12_286 hts ⟨Nat.le_of_ble_eq_true rfl, Nat.le_of_ble_eq_true rfl⟩) 0 (ci := 12) rfl rfl rfl (c_X12_lacks l D cy qmo mo x2 r_4 hc_3) rfl hl.1 (Nat.le_of_ble_eq_true rfl) ⟨Nat.le_refl _, Nat.le_refl _⟩ dX12_broken_19 ?_
    refine lv_if_ne (tgt := 29) hx hb dX12_broken_22 (by decide) (fun c_5 => ?_) (fun c_5 => ?_)
    · have hp := ite_n hp c_5
      refine lv_iconst (v := 1) hx hb dX12_broken_29 (by decide) ?_
      refine lv_iadd hx hb dX12_broken_30 ?_
      refine lv_topi (fun x1_6 ex1_6 => ?_)
      have hp := stk_e hp ex1_6
      refine lv_istore_n (lv' := [(1, .int x1_6), (0, .ref (qmo 0)), (2, .int x2)]) hx hb dX12_broken_31 rfl hl (by decide) rfl (fun ls hl => ?_)
      obtain ⟨x2_7, ex2_7⟩ : ∃ y : Int32, y = x2 + 1 := ⟨_, rfl⟩
      have hp := stk_e hp ex2_7
      refine lv_iinc (v := x2_7) (lv' := [(2, .int x2_7), (1, .int x1_6), (0, .ref (qmo 0))]) hx hb dX12_broken_32 hl (k := 2) rfl (by rw [ex2_7]; rfl) (by decide) rfl (fun ls hl => ?_)
      refine lv_goto (tgt := 4) hx hb dX12_broken_35 (by decide) ?_
      exact hk4 x1_6 x2_7 _ (lv_sub hl [2, 1, 0] rfl) hp
    · have hp := ite_p hp c_5
      refine lv_iconst (v := 0) hx hb dX12_broken_25 (by decide) ?_
      refine lv_goto (tgt := 30) hx hb dX12_broken_26 (by decide) ?_
      refine lv_iadd hx hb dX12_broken_30 ?_
      refine lv_topi (fun x1_8 ex1_8 => ?_)
      have hp := stk_e hp ex1_8
      refine lv_istore_n (lv' := [(1, .int x1_8), (0, .ref (qmo 0)), (2, .int x2)]) hx hb dX12_broken_31 rfl hl (by decide) rfl (fun ls hl => ?_)
      obtain ⟨x2_9, ex2_9⟩ : ∃ y : Int32, y = x2 + 1 := ⟨_, rfl⟩
      have hp := stk_e hp ex2_9
      refine lv_iinc (v := x2_9) (lv' := [(2, .int x2_9), (1, .int x1_8), (0, .ref (qmo 0))]) hx hb dX12_broken_32 hl (k := 2) rfl (by rw [ex2_9]; rfl) (by decide) rfl (fun ls hl => ?_)
      refine lv_goto (tgt := 4) hx hb dX12_broken_35 (by decide) ?_
      exact hk4 x1_8 x2_9 _ (lv_sub hl [2, 1, 0] rfl) hp
theorem Mo_broken_b4_w (C0 : cX RX12 cX12_broken (some .int) 3 p s m args meth c) (hK : kN D cy s) {qmo : Nat → Nat} {mo : Mem} {r : Int32} (hP : va_P D vwCl (w_Mo cy qmo mo) s.heap) : ∀ (n : Nat) (x1 x2 : Int32) (ls : Array Slot), lv_has ls 3 [(0, .ref (qmo 0)), (1, .int x1), (2, .int x2)] → Mo_broken_b4 mo n x1 x2 = some r → W p l e (rmD 3) s m args below meth c s.heap [] 0 0 (qRO below args s r) (F0 m 4 ls []) := by
  intro n
  induction n with
  | zero =>
    intro x1 x2 ls hl hp
    cases hp
  | succ n ih =>
    intro x1 x2 ls hl hp
    exact Mo_broken_b4B_w C0 hK hP  (fun x1 x2 ls hl hp => ih x1 x2 ls hl hp) hl hp
set_option maxHeartbeats 4000000 in
set_option maxRecDepth 100000 in
theorem c_X12_broken (l : Launch) (D : va_G) (cy : Nat → ClassId) (qmo : Nat → Nat) (mo : Mem) (r : Int32) (hp : Mo_broken mo = some r) : RO l yX12_broken cX12_broken 3 (some .int) 3 D cy [.ref (qmo 0)] (w_Mo cy qmo mo) r := by
  refine RO_of RX12 rfl (by decide) (Nat.le_of_ble_eq_true rfl) ?_
  intro p e s m below meth c C0 hK hP ls hl
  obtain ⟨hx, hb, hr, hml, hown, hts, hk⟩ := id C0
  unfold Mo_broken at hp
  have hl : lv_has ls 3 [(0, .ref (qmo 0))] := hl
  refine lv_iconst (v := 0) hx hb dX12_broken_0 (by decide) ?_
  refine lv_istore_n (lv' := [(1, .int 0), (0, .ref (qmo 0))]) hx hb dX12_broken_1 rfl hl (by decide) rfl (fun ls hl => ?_)
  refine lv_iconst (v := 0) hx hb dX12_broken_2 (by decide) ?_
  refine lv_istore_n (lv' := [(2, .int 0), (1, .int 0), (0, .ref (qmo 0))]) hx hb dX12_broken_3 rfl hl (by decide) rfl (fun ls hl => ?_)
  exact Mo_broken_b4_w C0 hK hP  fl 0 0 _ (lv_sub hl [2, 1, 0] rfl) hp
/-! StormSlotsModel.linked(II)I -/
def Mo_linked (mo : Mem) (p1 : Int32) (p2 : Int32) : Option (Int32) :=
  ckI 175 1452 (bn1 (Mo_in p1 0 ((mo 0 (175 : Int32).toNatClampNeg) - 1)) (fun r_3 => if r_3 = 0 then some (-1) else bn1 (Mo_in p2 0 4) (fun r_6 => if r_6 = 0 then some (-1) else if 3 ≤ p2 then if p2 = 4 then bn1 (Mo_lacks mo p1) (fun r_14 => some r_14) else bn1 (Mo_lacks mo p1) (fun r_11 => if r_11 = 0 then some 0 else some 1) else ckI ((216 + (3 * p1)) + p2) 1452 (some (mo 0 ((216 + (3 * p1)) + p2).toNatClampNeg)))))
set_option maxHeartbeats 4000000 in
set_option maxRecDepth 100000 in
theorem c_X12_linked (l : Launch) (D : va_G) (cy : Nat → ClassId) (qmo : Nat → Nat) (mo : Mem) (p1 p2 : Int32) (r : Int32) (hp : Mo_linked mo p1 p2 = some r) : RO l yX12_linked cX12_linked 3 (some .int) 3 D cy [.ref (qmo 0), .int p1, .int p2] (w_Mo cy qmo mo) r := by
  refine RO_of RX12 rfl (by decide) (Nat.le_of_ble_eq_true rfl) ?_
  intro p e s m below meth c C0 hK hP ls hl
  obtain ⟨hx, hb, hr, hml, hown, hts, hk⟩ := id C0
  unfold Mo_linked at hp
  have hl : lv_has ls 3 [(0, .ref (qmo 0)), (1, .int p1), (2, .int p2)] := hl
  refine lv_iload_n hx hb dX12_linked_0 rfl (lv_at hl 1 rfl) ?_
  refine lv_iconst (v := 0) hx hb dX12_linked_1 (by decide) ?_
  refine lv_aload_n hx hb dX12_linked_2 rfl (lv_at hl 0 rfl) ?_
  refine gf_X12_7 hx hb hts hown hK hP 0 rfl rfl dX12_linked_3 ?_
  refine lv_sipush (v := 175) hx hb dX12_linked_6 (by decide) ?_
  obtain ⟨hi_1, hp⟩ := ckI_s hp
  refine r_ild hx hb hK hP 1 rfl hi_1 dX12_linked_9 ?_
  refine lv_iconst (v := 1) hx hb dX12_linked_10 (by decide) ?_
  refine lv_isub hx hb dX12_linked_11 ?_
  obtain ⟨r_3, hc_2, hp⟩ := bn1_s hp
  refine k_ROS (As := [.int p1, .int 0, .int ((mo 0 (175 : Int32).toNatClampNeg) - 1)]) (rest := []) ⟨hx, hb, hml, hown, hts⟩ hK (show va_P D vwCl [] _ from fun k q h => by simp at h) (cw_X12_45 hts ⟨Nat.le_of_ble_eq_true rfl, Nat.le_of_ble_eq_true rfl⟩) (c_X12_in l D cy p1 0 ((mo 0 (175 : Int32).toNatClampNeg) - 1) r_3 hc_2) rfl hl.1 (Nat.le_of_ble_eq_true rfl) ⟨Nat.le_refl _, Nat.le_refl _⟩ dX12_linked_12 ?_
  refine lv_if_eq (tgt := 27) hx hb dX12_linked_15 (by decide) (fun c_4 => ?_) (fun c_4 => ?_)
  · have hp := ite_p hp c_4
    refine lv_iconst (v := (-1)) hx hb dX12_linked_27 (by decide) ?_
    exact e_ROi hx hb hr hk dX12_linked_28 (Option.some.inj hp)
  · have hp := ite_n hp c_4
    refine lv_iload_n hx hb dX12_linked_18 rfl (lv_at hl 2 rfl) ?_
    refine lv_iconst (v := 0) hx hb dX12_linked_19 (by decide) ?_
    refine lv_iconst (v := 4) hx hb dX12_linked_20 (by decide) ?_
    obtain ⟨r_6, hc_5, hp⟩ := bn1_s hp
    refine k_ROS (As := [.int p2, .int 0, .int 4]) (rest := []) ⟨hx, hb, hml, hown, hts⟩ hK (show va_P D vwCl [] _ from fun k q h => by simp at h) (cw_X12_45 hts ⟨Nat.le_of_ble_eq_true rfl, Nat.le_of_ble_eq_true rfl⟩) (c_X12_in l D cy p2 0 4 r_6 hc_5) rfl hl.1 (Nat.le_of_ble_eq_true rfl) ⟨Nat.le_refl _, Nat.le_refl _⟩ dX12_linked_21 ?_
    refine lv_if_ne (tgt := 29) hx hb dX12_linked_24 (by decide) (fun c_7 => ?_) (fun c_7 => ?_)
    · have hp := ite_n hp c_7
      refine lv_iload_n hx hb dX12_linked_29 rfl (lv_at hl 2 rfl) ?_
      refine lv_iconst (v := 3) hx hb dX12_linked_30 (by decide) ?_
      refine lv_icmp_ge (tgt := 49) hx hb dX12_linked_31 (by decide) (fun c_8 => ?_) (fun c_8 => ?_)
      · have hp := ite_p hp c_8
        refine lv_iload_n hx hb dX12_linked_49 rfl (lv_at hl 2 rfl) ?_
        refine lv_iconst (v := 4) hx hb dX12_linked_50 (by decide) ?_
        refine lv_icmp_ne (tgt := 62) hx hb dX12_linked_51 (by decide) (fun c_9 => ?_) (fun c_9 => ?_)
        · have hp := ite_n hp c_9
          refine lv_aload_n hx hb dX12_linked_62 rfl (lv_at hl 0 rfl) ?_
          refine lv_iload_n hx hb dX12_linked_63 rfl (lv_at hl 1 rfl) ?_
          obtain ⟨r_11, hc_10, hp⟩ := bn1_s hp
          refine k_ROV (As := [.int p1]) (rest := []) ⟨hx, hb, hml, hown, hts⟩ hK hP (cw_X12_286 hts ⟨Nat.le_of_ble_eq_true rfl, Nat.le_of_ble_eq_true rfl⟩) 0 (ci := 12) rfl rfl rfl (c_X12_lacks l D cy qmo mo p1 r_11 hc_10) rfl hl.1 (Nat.le_of_ble_eq_true rfl) ⟨Nat.le_refl _, Nat.le_refl _⟩ dX12_linked_64 ?_
          refine lv_if_ne (tgt := 74) hx hb dX12_linked_67 (by decide) (fun c_12 => ?_) (fun c_12 => ?_)
          · have hp := ite_n hp c_12
            refine lv_iconst (v := 1) hx hb dX12_linked_74 (by decide) ?_
            exact e_ROi hx hb hr hk dX12_linked_75 (Option.some.inj hp)
          · have hp := ite_p hp c_12
            refine lv_iconst (v := 0) hx hb dX12_linked_70 (by decide) ?_
            refine lv_goto (tgt := 75) hx hb dX12_linked_71 (by decide) ?_
            exact e_ROi hx hb hr hk dX12_linked_75 (Option.some.inj hp)
        · have hp := ite_p hp c_9
          refine lv_aload_n hx hb dX12_linked_54 rfl (lv_at hl 0 rfl) ?_
          refine lv_iload_n hx hb dX12_linked_55 rfl (lv_at hl 1 rfl) ?_
          obtain ⟨r_14, hc_13, hp⟩ := bn1_s hp
          refine k_ROV (As := [.int p1]) (rest := []) ⟨hx, hb, hml, hown, hts⟩ hK hP (cw_X12_286 hts ⟨Nat.le_of_ble_eq_true rfl, Nat.le_of_ble_eq_true rfl⟩) 0 (ci := 12) rfl rfl rfl (c_X12_lacks l D cy qmo mo p1 r_14 hc_13) rfl hl.1 (Nat.le_of_ble_eq_true rfl) ⟨Nat.le_refl _, Nat.le_refl _⟩ dX12_linked_56 ?_
          refine lv_goto (tgt := 75) hx hb dX12_linked_59 (by decide) ?_
          exact e_ROi hx hb hr hk dX12_linked_75 (Option.some.inj hp)
      · have hp := ite_n hp c_8
        refine lv_aload_n hx hb dX12_linked_34 rfl (lv_at hl 0 rfl) ?_
        refine gf_X12_7 hx hb hts hown hK hP 0 rfl rfl dX12_linked_35 ?_
        refine lv_sipush (v := 216) hx hb dX12_linked_38 (by decide) ?_
        refine lv_iconst (v := 3) hx hb dX12_linked_41 (by decide) ?_
        refine lv_iload_n hx hb dX12_linked_42 rfl (lv_at hl 1 rfl) ?_
        refine lv_imul hx hb dX12_linked_43 ?_
        refine lv_iadd hx hb dX12_linked_44 ?_
        refine lv_iload_n hx hb dX12_linked_45 rfl (lv_at hl 2 rfl) ?_
        refine lv_iadd hx hb dX12_linked_46 ?_
        obtain ⟨hi_15, hp⟩ := ckI_s hp
        refine r_ild hx hb hK hP 1 rfl hi_15 dX12_linked_47 ?_
        exact e_ROi hx hb hr hk dX12_linked_48 (Option.some.inj hp)
    · have hp := ite_p hp c_7
      refine lv_iconst (v := (-1)) hx hb dX12_linked_27 (by decide) ?_
      exact e_ROi hx hb hr hk dX12_linked_28 (Option.some.inj hp)
/-! StormSlotsModel.breaks(II)I -/
def Mo_breaks (mo : Mem) (p1 : Int32) (p2 : Int32) : Option (Int32 × Mem) :=
  bn1 (Mo_isGroundFlight mo p1) (fun r_2 => if r_2 = 0 then some ((-1000000), mo) else bn1 (Mo_isMinute p2) (fun r_5 => if r_5 = 0 then some ((-1000000), mo) else bn1 (Mo_earliest mo p1) (fun r_8 => if r_8 ≤ p2 then bn1 (Mo_broken mo) (fun r_11 => bn1 (Mo_of mo p1 4) (fun r_13 => bn1 (Mo_gives mo p1 p2) (fun mo_15 => bn1 (Mo_broken mo_15) (fun r_17 => bn1 (Mo_gives mo_15 p1 r_13) (fun mo_19 => some ((r_17 - r_11), mo_19)))))) else some ((-1000000), mo))))
set_option maxHeartbeats 4000000 in
set_option maxRecDepth 100000 in
theorem c_X12_breaks (l : Launch) (D : va_G) (cy : Nat → ClassId) (qmo : Nat → Nat) (mo : Mem) (p1 p2 : Int32) (r : Int32) (mo' : Mem) (hp : Mo_breaks mo p1 p2 = some (r, mo')) : RI l yX12_breaks cX12_breaks 6 (some .int) 5 D cy [.ref (qmo 0), .int p1, .int p2] (w_Mo cy qmo mo) (w_Mo cy qmo mo') r := by
  refine RI_of RX12 rfl (by decide) (Nat.le_of_ble_eq_true rfl) ?_
  intro p e s m below meth c A C0 hK hP hD hS hA ls hl
  obtain ⟨hx, hb, hr, hml, hown, hts, hk⟩ := id C0
  unfold Mo_breaks at hp
  have hl : lv_has ls 6 [(0, .ref (qmo 0)), (1, .int p1), (2, .int p2)] := hl
  refine lv_aload_n hx hb dX12_breaks_0 rfl (lv_at hl 0 rfl) ?_
  refine lv_iload_n hx hb dX12_breaks_1 rfl (lv_at hl 1 rfl) ?_
  obtain ⟨r_2, hc_1, hp⟩ := bn1_s hp
  refine k_ROV (As := [.int p1]) (rest := []) ⟨hx, hb, hml, hown, hts⟩ hK hP (cw_X12_206 hts ⟨Nat.le_of_ble_eq_true rfl, Nat.le_of_ble_eq_true rfl⟩) 0 (ci := 12) rfl rfl rfl (c_X12_isGroundFlight l D cy qmo mo p1 r_2 hc_1) rfl hl.1 (Nat.le_of_ble_eq_true rfl) ⟨Nat.le_refl _, Nat.le_refl _⟩ dX12_breaks_2 ?_
  refine lv_if_eq (tgt := 24) hx hb dX12_breaks_5 (by decide) (fun c_3 => ?_) (fun c_3 => ?_)
  · have hp := ite_p hp c_3
    refine lc_X12_209 hx hb hts hown dX12_breaks_24 ?_
    simp only [Option.some.injEq, Prod.mk.injEq] at hp
    obtain ⟨h0, rfl⟩ := hp
    exact e_RIi hx hb hr hk hP hD hS dX12_breaks_26 h0
  · have hp := ite_n hp c_3
    refine lv_iload_n hx hb dX12_breaks_8 rfl (lv_at hl 2 rfl) ?_
    obtain ⟨r_5, hc_4, hp⟩ := bn1_s hp
    refine k_ROS (As := [.int p2]) (rest := []) ⟨hx, hb, hml, hown, hts⟩ hK (show va_P D vwCl [] _ from fun k q h => by simp at h) (cw_X12_162 hts ⟨Nat.le_of_ble_eq_true rfl, Nat.le_of_ble_eq_true rfl⟩) (c_X12_isMinute l D cy p2 r_5 hc_4) rfl hl.1 (Nat.le_of_ble_eq_true rfl) ⟨Nat.le_refl _, Nat.le_refl _⟩ dX12_breaks_9 ?_
    refine lv_if_eq (tgt := 24) hx hb dX12_breaks_12 (by decide) (fun c_6 => ?_) (fun c_6 => ?_)
    · have hp := ite_p hp c_6
      refine lc_X12_209 hx hb hts hown dX12_breaks_24 ?_
      simp only [Option.some.injEq, Prod.mk.injEq] at hp
      obtain ⟨h0, rfl⟩ := hp
      exact e_RIi hx hb hr hk hP hD hS dX12_breaks_26 h0
    · have hp := ite_n hp c_6
      refine lv_iload_n hx hb dX12_breaks_15 rfl (lv_at hl 2 rfl) ?_
      refine lv_aload_n hx hb dX12_breaks_16 rfl (lv_at hl 0 rfl) ?_
      refine lv_iload_n hx hb dX12_breaks_17 rfl (lv_at hl 1 rfl) ?_
      obtain ⟨r_8, hc_7, hp⟩ := bn1_s hp
      refine k_ROV (As := [.int p1]) (rest := [.int p2]) ⟨hx, hb, hml, hown, hts⟩ hK hP (cw_X12_156 hts ⟨Nat.le_of_ble_eq_true rfl, Nat.le_of_ble_eq_true rfl⟩) 0 (ci := 12) rfl rfl rfl (c_X12_earliest l D cy qmo mo p1 r_8 hc_7) rfl hl.1 (Nat.le_of_ble_eq_true rfl) ⟨Nat.le_refl _, Nat.le_refl _⟩ dX12_breaks_18 ?_
      refine lv_icmp_ge (tgt := 27) hx hb dX12_breaks_21 (by decide) (fun c_9 => ?_) (fun c_9 => ?_)
      · have hp := ite_p hp c_9
        refine lv_aload_n hx hb dX12_breaks_27 rfl (lv_at hl 0 rfl) ?_
        obtain ⟨r_11, hc_10, hp⟩ := bn1_s hp
        refine k_ROV (As := []) (rest := []) ⟨hx, hb, hml, hown, hts⟩ hK hP (cw_X12_289 hts ⟨Nat.le_of_ble_eq_true rfl, Nat.le_of_ble_eq_true rfl⟩) 0 (ci := 12) rfl rfl rfl (c_X12_broken l D cy qmo mo r_11 hc_10) rfl hl.1 (Nat.le_of_ble_eq_true rfl) ⟨Nat.le_refl _, Nat.le_refl _⟩ dX12_breaks_28 ?_
        refine lv_istore_n (lv' := [(3, .int r_11), (0, .ref (qmo 0)), (1, .int p1), (2, .int p2)]) hx hb dX12_breaks_31 rfl hl (by decide) rfl (fun ls hl => ?_)
        refine lv_aload_n hx hb dX12_breaks_32 rfl (lv_at hl 1 rfl) ?_
        refine lv_iload_n hx hb dX12_breaks_33 rfl (lv_at hl 2 rfl) ?_
        refine lv_iconst (v := 4) hx hb dX12_breaks_34 (by decide) ?_
        obtain ⟨r_13, hc_12, hp⟩ := bn1_s hp
        refine k_ROV (As := [.int p1, .int 4]) (rest := []) ⟨hx, hb, hml, hown, hts⟩ hK hP (cw_X12_128 hts ⟨Nat.le_of_ble_eq_true rfl, Nat.le_of_ble_eq_true rfl⟩) 0 (ci := 12) rfl rfl rfl (c_X12_of l D cy qmo mo p1 4 r_13 hc_12) rfl hl.1 (Nat.le_of_ble_eq_true rfl) ⟨Nat.le_refl _, Nat.le_refl _⟩ dX12_breaks_35 ?_
        refine lv_istore (lv' := [(4, .int r_13), (3, .int r_11), (0, .ref (qmo 0)), (1, .int p1), (2, .int p2)]) hx hb dX12_breaks_38 hl (by decide) rfl (fun ls hl => ?_)
        refine lv_aload_n hx hb dX12_breaks_40 rfl (lv_at hl 2 rfl) ?_
        refine lv_iload_n hx hb dX12_breaks_41 rfl (lv_at hl 3 rfl) ?_
        refine lv_iload_n hx hb dX12_breaks_42 rfl (lv_at hl 4 rfl) ?_
        obtain ⟨mo_15, hc_14, hp⟩ := bn1_s hp
        refine k_RVV (As := [.int p1, .int p2]) (rest := []) ⟨hx, hb, hml, hown, hts⟩ hK hP hD hS hA FrS_rf (cw_X12_174 hts ⟨Nat.le_of_ble_eq_true rfl, Nat.le_of_ble_eq_true rfl⟩) 0 (ci := 12) rfl rfl rfl (c_X12_gives l D cy qmo mo p1 p2 mo_15 hc_14) rfl hl.1 (Nat.le_of_ble_eq_true rfl) ⟨Nat.le_refl _, Nat.le_refl _⟩ dX12_breaks_43 (fun H locs hP hD hS => ?_)
        refine lv_aload_n hx hb dX12_breaks_46 rfl (lv_at hl 2 rfl) ?_
        obtain ⟨r_17, hc_16, hp⟩ := bn1_s hp
        refine k_ROV (As := []) (rest := []) ⟨hx, hb, hml, hown, hts⟩ hK hP (cw_X12_289 hts ⟨Nat.le_of_ble_eq_true rfl, Nat.le_of_ble_eq_true rfl⟩) 0 (ci := 12) rfl rfl rfl (c_X12_broken l D cy qmo mo_15 r_17 hc_16) rfl hl.1 (Nat.le_of_ble_eq_true rfl) ⟨Nat.le_refl _, Nat.le_refl _⟩ dX12_breaks_47 ?_
        refine lv_istore (lv' := [(5, .int r_17), (4, .int r_13), (3, .int r_11), (0, .ref (qmo 0)), (1, .int p1), (2, .int p2)]) hx hb dX12_breaks_50 hl (by decide) rfl (fun ls hl => ?_)
        refine lv_aload_n hx hb dX12_breaks_52 rfl (lv_at hl 3 rfl) ?_
        refine lv_iload_n hx hb dX12_breaks_53 rfl (lv_at hl 4 rfl) ?_
        refine lv_iload hx hb dX12_breaks_54 (lv_at hl 1 rfl) ?_
        obtain ⟨mo_19, hc_18, hp⟩ := bn1_s hp
        refine k_RVV (As := [.int p1, .int r_13]) (rest := []) ⟨hx, hb, hml, hown, hts⟩ hK hP hD hS hA FrS_rf (cw_X12_174 hts ⟨Nat.le_of_ble_eq_true rfl, Nat.le_of_ble_eq_true rfl⟩) 0 (ci := 12) rfl rfl rfl (c_X12_gives l D cy qmo mo_15 p1 r_13 mo_19 hc_18) rfl hl.1 (Nat.le_of_ble_eq_true rfl) ⟨Nat.le_refl _, Nat.le_refl _⟩ dX12_breaks_56 (fun H locs hP hD hS => ?_)
        refine lv_iload hx hb dX12_breaks_59 (lv_at hl 0 rfl) ?_
        refine lv_iload_n hx hb dX12_breaks_61 rfl (lv_at hl 2 rfl) ?_
        refine lv_isub hx hb dX12_breaks_62 ?_
        simp only [Option.some.injEq, Prod.mk.injEq] at hp
        obtain ⟨h0, rfl⟩ := hp
        exact e_RIi hx hb hr hk hP hD hS dX12_breaks_63 h0
      · have hp := ite_n hp c_9
        refine lc_X12_209 hx hb hts hown dX12_breaks_24 ?_
        simp only [Option.some.injEq, Prod.mk.injEq] at hp
        obtain ⟨h0, rfl⟩ := hp
        exact e_RIi hx hb hr hk hP hD hS dX12_breaks_26 h0
/-! StormSlotsModel.cancelAll(I)I -/
def Mo_cancelAll_b13B (p1 : Int32) (k13 : Mem → Int32 → Int32 → Option (Int32 × Mem)) (mo : Mem) (x2 : Int32) (x3 : Int32) : Option (Int32 × Mem) :=
  ckI 173 1452 (if (mo 0 (173 : Int32).toNatClampNeg) ≤ x3 then some (x2, mo) else bn1 (Mo_of mo x3 0) (fun r_7 => if r_7 = p1 then bn1 (Mo_isGround mo x3) (fun r_11 => if r_11 = 0 then stk (x3 + 1) (fun x3_17 => k13 mo x2 x3_17) else bn1 (Mo_cancels mo x3) (fun mo_14 => stk (x2 ||| ((1 : Int32) <<< (x3 &&& 31))) (fun x2_15 => stk (x3 + 1) (fun x3_16 => k13 mo_14 x2_15 x3_16)))) else stk (x3 + 1) (fun x3_9 => k13 mo x2 x3_9)))
def Mo_cancelAll_b13 (p1 : Int32) : Nat → Mem → Int32 → Int32 → Option (Int32 × Mem)
  | 0 => fun _ _ _ => none
  | n + 1 => Mo_cancelAll_b13B p1 (Mo_cancelAll_b13 p1 n)
def Mo_cancelAll (mo : Mem) (p1 : Int32) : Option (Int32 × Mem) :=
  bn1 (Mo_isLine p1) (fun r_2 => if r_2 = 0 then some ((-1), mo) else Mo_cancelAll_b13 p1 fl mo 0 0)
set_option maxHeartbeats 4000000 in
set_option maxRecDepth 100000 in
theorem Mo_cancelAll_b13B_w (C0 : cX RX12 cX12_cancelAll (some .int) 4 p s m args meth c) (hK : kN D cy s) {qmo : Nat → Nat} {p1 : Int32} {r : Int32} {mo' : Mem} (hA : ∀ q, s.heap.size ≤ q → A q) {k13 : Mem → Int32 → Int32 → Option (Int32 × Mem)} (hk13 : ∀ (mo : Mem) (x2 x3 : Int32) (H : Heap) (locs : List Loc) (ls : Array Slot), va_P D vwCl (w_Mo cy qmo mo) H → va_D A (w_Mo cy qmo mo) → va_S A s.heap H locs → lv_has ls 4 [(0, .ref (qmo 0)), (1, .int p1), (2, .int x2), (3, .int x3)] → k13 mo x2 x3 = some (r, mo') → W p l e (rmD 4) s m args below meth c H locs 0 0 (qRI D below args s A (w_Mo cy qmo mo') r) (F0 m 13 ls [])) {mo : Mem} {x2 : Int32} {x3 : Int32} {H : Heap} {locs : List Loc} (hP : va_P D vwCl (w_Mo cy qmo mo) H) (hD : va_D A (w_Mo cy qmo mo)) (hS : va_S A s.heap H locs) {ls : Array Slot} (hl : lv_has ls 4 [(0, .ref (qmo 0)), (1, .int p1), (2, .int x2), (3, .int x3)]) (hp : Mo_cancelAll_b13B p1 k13 mo x2 x3 = some (r, mo')) : W p l e (rmD 4) s m args below meth c H locs 0 0 (qRI D below args s A (w_Mo cy qmo mo') r) (F0 m 13 ls []) := by
  obtain ⟨hx, hb, hr, hml, hown, hts, hk⟩ := id C0
  unfold Mo_cancelAll_b13B at hp
  refine lv_iload_n hx hb dX12_cancelAll_13 rfl (lv_at hl 3 rfl) ?_
  refine lv_aload_n hx hb dX12_cancelAll_14 rfl (lv_at hl 0 rfl) ?_
  refine gf_X12_7 hx hb hts hown hK hP 0 rfl rfl dX12_cancelAll_15 ?_
  refine lv_sipush (v := 173) hx hb dX12_cancelAll_18 (by decide) ?_
  obtain ⟨hi_4, hp⟩ := ckI_s hp
  refine r_ild hx hb hK hP 1 rfl hi_4 dX12_cancelAll_21 ?_
  refine lv_icmp_ge (tgt := 63) hx hb dX12_cancelAll_22 (by decide) (fun c_5 => ?_) (fun c_5 => ?_)
  · have hp := ite_p hp c_5
    refine lv_iload_n hx hb dX12_cancelAll_63 rfl (lv_at hl 2 rfl) ?_
    simp only [Option.some.injEq, Prod.mk.injEq] at hp
    obtain ⟨h0, rfl⟩ := hp
    exact e_RIi hx hb hr hk hP hD hS dX12_cancelAll_64 h0
  · have hp := ite_n hp c_5
    refine lv_aload_n hx hb dX12_cancelAll_25 rfl (lv_at hl 0 rfl) ?_
    refine lv_iload_n hx hb dX12_cancelAll_26 rfl (lv_at hl 3 rfl) ?_
    refine lv_iconst (v := 0) hx hb dX12_cancelAll_27 (by decide) ?_
    obtain ⟨r_7, hc_6, hp⟩ := bn1_s hp
    refine k_ROV (As := [.int x3, .int 0]) (rest := []) ⟨hx, hb, hml, hown, hts⟩ hK hP (cw_X12_128 hts ⟨Nat.le_of_ble_eq_true rfl, Nat.le_of_ble_eq_true rfl⟩) 0 (ci := 12) rfl rfl rfl (c_X12_of l D cy qmo mo x3 0 r_7 hc_6) rfl hl.1 (Nat.le_of_ble_eq_true rfl) ⟨Nat.le_refl _, Nat.le_refl _⟩ dX12_cancelAll_28 ?_
    refine lv_iload_n hx hb dX12_cancelAll_31 rfl (lv_at hl 1 rfl) ?_
    refine lv_icmp_ne (tgt := 57) hx hb dX12_cancelAll_32 (by decide) (fun c_8 => ?_) (fun c_8 => ?_)
    · have hp := ite_n hp c_8
      obtain ⟨x3_9, ex3_9⟩ : ∃ y : Int32, y = x3 + 1 := ⟨_, rfl⟩
      have hp := stk_e hp ex3_9
      refine lv_iinc (v := x3_9) (lv' := [(3, .int x3_9), (0, .ref (qmo 0)), (1, .int p1), (2, .int x2)]) hx hb dX12_cancelAll_57 hl (k := 3) rfl (by rw [ex3_9]; rfl) (by decide) rfl (fun ls hl => ?_)
      refine lv_goto (tgt := 13) hx hb dX12_cancelAll_60 (by decide) ?_
      exact hk13 mo x2 x3_9 _ _ _ hP hD hS (lv_sub hl [1, 2, 3, 0] rfl) hp
    · have hp := ite_p hp c_8
      refine lv_aload_n hx hb dX12_cancelAll_35 rfl (lv_at hl 0 rfl) ?_
      refine lv_iload_n hx hb dX12_cancelAll_36 rfl (lv_at hl 3 rfl) ?_
      obtain ⟨r_11, hc_10, hp⟩ := bn1_s hp
      refine k_ROV (As := [.int x3]) (rest := []) ⟨hx, hb, hml, hown, hts⟩ hK hP (cw_X12_203 hts ⟨Nat.le_of_ble_eq_true rfl, Nat.le_of_ble_eq_true rfl⟩) 0 (ci := 12) rfl rfl rfl (c_X12_isGround l D cy qmo mo x3 r_11 hc_10) rfl hl.1 (Nat.le_of_ble_eq_true rfl) ⟨Nat.le_refl _, Nat.le_refl _⟩ dX12_cancelAll_37 ?_
      refine lv_if_ne (tgt := 46) hx hb dX12_cancelAll_40 (by decide) (fun c_12 => ?_) (fun c_12 => ?_)
      · have hp := ite_n hp c_12
        refine lv_aload_n hx hb dX12_cancelAll_46 rfl (lv_at hl 0 rfl) ?_
        refine lv_iload_n hx hb dX12_cancelAll_47 rfl (lv_at hl 3 rfl) ?_
        obtain ⟨mo_14, hc_13, hp⟩ := bn1_s hp
        refine k_RVV (As := [.int x3]) (rest := []) ⟨hx, hb, hml, hown, hts⟩ hK hP hD hS hA FrS_rf (cw_X12_200 hts ⟨Nat.le_of_ble_eq_true rfl, Nat.le_of_ble_eq_true rfl⟩) 0 (ci := 12) rfl rfl rfl (c_X12_cancels l D cy qmo mo x3 mo_14 hc_13) rfl hl.1 (Nat.le_of_ble_eq_true rfl) ⟨Nat.le_refl _, Nat.le_refl _⟩ dX12_cancelAll_48 (fun H locs hP hD hS => ?_)
        refine lv_iload_n hx hb dX12_cancelAll_51 rfl (lv_at hl 2 rfl) ?_
        refine lv_iconst (v := 1) hx hb dX12_cancelAll_52 (by decide) ?_
        refine lv_iload_n hx hb dX12_cancelAll_53 rfl (lv_at hl 3 rfl) ?_
        refine lv_ishl hx hb dX12_cancelAll_54 ?_
        refine lv_ior hx hb dX12_cancelAll_55 ?_
        refine lv_topi (fun x2_15 ex2_15 => ?_)
        have hp := stk_e hp ex2_15
        refine lv_istore_n (lv' := [(2, .int x2_15), (0, .ref (qmo 0)), (1, .int p1), (3, .int x3)]) hx hb dX12_cancelAll_56 rfl hl (by decide) rfl (fun ls hl => ?_)
        obtain ⟨x3_16, ex3_16⟩ : ∃ y : Int32, y = x3 + 1 := ⟨_, rfl⟩
        have hp := stk_e hp ex3_16
        refine lv_iinc (v := x3_16) (lv' := [(3, .int x3_16), (2, .int x2_15), (0, .ref (qmo 0)), (1, .int p1)]) hx hb dX12_cancelAll_57 hl (k := 3) rfl (by rw [ex3_16]; rfl) (by decide) rfl (fun ls hl => ?_)
        refine lv_goto (tgt := 13) hx hb dX12_cancelAll_60 (by decide) ?_
        exact hk13 mo_14 x2_15 x3_16 _ _ _ hP hD hS (lv_sub hl [2, 3, 1, 0] rfl) hp
      · have hp := ite_p hp c_12
        refine lv_goto (tgt := 57) hx hb dX12_cancelAll_43 (by decide) ?_
        obtain ⟨x3_17, ex3_17⟩ : ∃ y : Int32, y = x3 + 1 := ⟨_, rfl⟩
        have hp := stk_e hp ex3_17
        refine lv_iinc (v := x3_17) (lv' := [(3, .int x3_17), (0, .ref (qmo 0)), (1, .int p1), (2, .int x2)]) hx hb dX12_cancelAll_57 hl (k := 3) rfl (by rw [ex3_17]; rfl) (by decide) rfl (fun ls hl => ?_)
        refine lv_goto (tgt := 13) hx hb dX12_cancelAll_60 (by decide) ?_
        exact hk13 mo x2 x3_17 _ _ _ hP hD hS (lv_sub hl [1, 2, 3, 0] rfl) hp
theorem Mo_cancelAll_b13_w (C0 : cX RX12 cX12_cancelAll (some .int) 4 p s m args meth c) (hK : kN D cy s) {qmo : Nat → Nat} {p1 : Int32} {r : Int32} {mo' : Mem} (hA : ∀ q, s.heap.size ≤ q → A q) : ∀ (n : Nat) (mo : Mem) (x2 x3 : Int32) (H : Heap) (locs : List Loc) (ls : Array Slot), va_P D vwCl (w_Mo cy qmo mo) H → va_D A (w_Mo cy qmo mo) → va_S A s.heap H locs → lv_has ls 4 [(0, .ref (qmo 0)), (1, .int p1), (2, .int x2), (3, .int x3)] → Mo_cancelAll_b13 p1 n mo x2 x3 = some (r, mo') → W p l e (rmD 4) s m args below meth c H locs 0 0 (qRI D below args s A (w_Mo cy qmo mo') r) (F0 m 13 ls []) := by
  intro n
  induction n with
  | zero =>
    intro mo x2 x3 H locs ls hP hD hS hl hp
    cases hp
  | succ n ih =>
    intro mo x2 x3 H locs ls hP hD hS hl hp
    exact Mo_cancelAll_b13B_w C0 hK hA  (fun mo x2 x3 H locs ls hP hD hS hl hp => ih mo x2 x3 H locs ls hP hD hS hl hp) hP hD hS hl hp
set_option maxHeartbeats 4000000 in
set_option maxRecDepth 100000 in
theorem c_X12_cancelAll (l : Launch) (D : va_G) (cy : Nat → ClassId) (qmo : Nat → Nat) (mo : Mem) (p1 : Int32) (r : Int32) (mo' : Mem) (hp : Mo_cancelAll mo p1 = some (r, mo')) : RI l yX12_cancelAll cX12_cancelAll 4 (some .int) 4 D cy [.ref (qmo 0), .int p1] (w_Mo cy qmo mo) (w_Mo cy qmo mo') r := by
  refine RI_of RX12 rfl (by decide) (Nat.le_of_ble_eq_true rfl) ?_
  intro p e s m below meth c A C0 hK hP hD hS hA ls hl
  obtain ⟨hx, hb, hr, hml, hown, hts, hk⟩ := id C0
  unfold Mo_cancelAll at hp
  have hl : lv_has ls 4 [(0, .ref (qmo 0)), (1, .int p1)] := hl
  refine lv_iload_n hx hb dX12_cancelAll_0 rfl (lv_at hl 1 rfl) ?_
  obtain ⟨r_2, hc_1, hp⟩ := bn1_s hp
  refine k_ROS (As := [.int p1]) (rest := []) ⟨hx, hb, hml, hown, hts⟩ hK (show va_P D vwCl [] _ from fun k q h => by simp at h) (cw_X12_104 hts ⟨Nat.le_of_ble_eq_true rfl, Nat.le_of_ble_eq_true rfl⟩) (c_X12_isLine l D cy p1 r_2 hc_1) rfl hl.1 (Nat.le_of_ble_eq_true rfl) ⟨Nat.le_refl _, Nat.le_refl _⟩ dX12_cancelAll_1 ?_
  refine lv_if_ne (tgt := 9) hx hb dX12_cancelAll_4 (by decide) (fun c_3 => ?_) (fun c_3 => ?_)
  · have hp := ite_n hp c_3
    refine lv_iconst (v := 0) hx hb dX12_cancelAll_9 (by decide) ?_
    refine lv_istore_n (lv' := [(2, .int 0), (0, .ref (qmo 0)), (1, .int p1)]) hx hb dX12_cancelAll_10 rfl hl (by decide) rfl (fun ls hl => ?_)
    refine lv_iconst (v := 0) hx hb dX12_cancelAll_11 (by decide) ?_
    refine lv_istore_n (lv' := [(3, .int 0), (2, .int 0), (0, .ref (qmo 0)), (1, .int p1)]) hx hb dX12_cancelAll_12 rfl hl (by decide) rfl (fun ls hl => ?_)
    exact Mo_cancelAll_b13_w C0 hK hA  fl mo 0 0 _ _ _ hP hD hS (lv_sub hl [2, 3, 1, 0] rfl) hp
  · have hp := ite_p hp c_3
    refine lv_iconst (v := (-1)) hx hb dX12_cancelAll_7 (by decide) ?_
    simp only [Option.some.injEq, Prod.mk.injEq] at hp
    obtain ⟨h0, rfl⟩ := hp
    exact e_RIi hx hb hr hk hP hD hS dX12_cancelAll_8 h0
/-! StormSlotsModel.allOf(I)I -/
def Mo_allOf_b4B (mo : Mem) (p1 : Int32) (k4 : Int32 → Int32 → Option (Int32)) (x2 : Int32) (x3 : Int32) : Option (Int32) :=
  ckI 173 1452 (if (mo 0 (173 : Int32).toNatClampNeg) ≤ x3 then some x2 else bn1 (Mo_isPlanned mo x3) (fun r_4 => if r_4 = 0 then stk (x2 + 0) (fun x2_6 => stk (x3 + 1) (fun x3_7 => k4 x2_6 x3_7)) else bn1 (Mo_of mo x3 p1) (fun r_9 => stk (x2 + r_9) (fun x2_10 => stk (x3 + 1) (fun x3_11 => k4 x2_10 x3_11)))))
def Mo_allOf_b4 (mo : Mem) (p1 : Int32) : Nat → Int32 → Int32 → Option (Int32)
  | 0 => fun _ _ => none
  | n + 1 => Mo_allOf_b4B mo p1 (Mo_allOf_b4 mo p1 n)
def Mo_allOf (mo : Mem) (p1 : Int32) : Option (Int32) :=
  Mo_allOf_b4 mo p1 fl 0 0
set_option maxHeartbeats 4000000 in
set_option maxRecDepth 100000 in
theorem Mo_allOf_b4B_w (C0 : cX RX12 cX12_allOf (some .int) 4 p s m args meth c) (hK : kN D cy s) {qmo : Nat → Nat} {mo : Mem} {p1 : Int32} {r : Int32} (hP : va_P D vwCl (w_Mo cy qmo mo) s.heap) {k4 : Int32 → Int32 → Option (Int32)} (hk4 : ∀ (x2 x3 : Int32) (ls : Array Slot), lv_has ls 4 [(0, .ref (qmo 0)), (1, .int p1), (2, .int x2), (3, .int x3)] → k4 x2 x3 = some r → W p l e (rmD 2) s m args below meth c s.heap [] 0 0 (qRO below args s r) (F0 m 4 ls [])) {x2 : Int32} {x3 : Int32} {ls : Array Slot} (hl : lv_has ls 4 [(0, .ref (qmo 0)), (1, .int p1), (2, .int x2), (3, .int x3)]) (hp : Mo_allOf_b4B mo p1 k4 x2 x3 = some r) : W p l e (rmD 2) s m args below meth c s.heap [] 0 0 (qRO below args s r) (F0 m 4 ls []) := by
  obtain ⟨hx, hb, hr, hml, hown, hts, hk⟩ := id C0
  unfold Mo_allOf_b4B at hp
  refine lv_iload_n hx hb dX12_allOf_4 rfl (lv_at hl 3 rfl) ?_
  refine lv_aload_n hx hb dX12_allOf_5 rfl (lv_at hl 0 rfl) ?_
  refine gf_X12_7 hx hb hts hown hK hP 0 rfl rfl dX12_allOf_6 ?_
  refine lv_sipush (v := 173) hx hb dX12_allOf_9 (by decide) ?_
  obtain ⟨hi_1, hp⟩ := ckI_s hp
  refine r_ild hx hb hK hP 1 rfl hi_1 dX12_allOf_12 ?_
  refine lv_icmp_ge (tgt := 43) hx hb dX12_allOf_13 (by decide) (fun c_2 => ?_) (fun c_2 => ?_)
  · have hp := ite_p hp c_2
    refine lv_iload_n hx hb dX12_allOf_43 rfl (lv_at hl 2 rfl) ?_
    exact e_ROi hx hb hr hk dX12_allOf_44 (Option.some.inj hp)
  · have hp := ite_n hp c_2
    refine lv_iload_n hx hb dX12_allOf_16 rfl (lv_at hl 2 rfl) ?_
    refine lv_aload_n hx hb dX12_allOf_17 rfl (lv_at hl 0 rfl) ?_
    refine lv_iload_n hx hb dX12_allOf_18 rfl (lv_at hl 3 rfl) ?_
    obtain ⟨r_4, hc_3, hp⟩ := bn1_s hp
    refine k_ROV (As := [.int x3]) (rest := [.int x2]) ⟨hx, hb, hml, hown, hts⟩ hK hP (cw_X12_144 hts ⟨Nat.le_of_ble_eq_true rfl, Nat.le_of_ble_eq_true rfl⟩) 0 (ci := 12) rfl rfl rfl (c_X12_isPlanned l D cy qmo mo x3 r_4 hc_3) rfl hl.1 (Nat.le_of_ble_eq_true rfl) ⟨Nat.le_refl _, Nat.le_refl _⟩ dX12_allOf_19 ?_
    refine lv_if_eq (tgt := 34) hx hb dX12_allOf_22 (by decide) (fun c_5 => ?_) (fun c_5 => ?_)
    · have hp := ite_p hp c_5
      refine lv_iconst (v := 0) hx hb dX12_allOf_34 (by decide) ?_
      refine lv_iadd hx hb dX12_allOf_35 ?_
      refine lv_topi (fun x2_6 ex2_6 => ?_)
      have hp := stk_e hp ex2_6
      refine lv_istore_n (lv' := [(2, .int x2_6), (0, .ref (qmo 0)), (1, .int p1), (3, .int x3)]) hx hb dX12_allOf_36 rfl hl (by decide) rfl (fun ls hl => ?_)
      obtain ⟨x3_7, ex3_7⟩ : ∃ y : Int32, y = x3 + 1 := ⟨_, rfl⟩
      have hp := stk_e hp ex3_7
      refine lv_iinc (v := x3_7) (lv' := [(3, .int x3_7), (2, .int x2_6), (0, .ref (qmo 0)), (1, .int p1)]) hx hb dX12_allOf_37 hl (k := 3) rfl (by rw [ex3_7]; rfl) (by decide) rfl (fun ls hl => ?_)
      refine lv_goto (tgt := 4) hx hb dX12_allOf_40 (by decide) ?_
      exact hk4 x2_6 x3_7 _ (lv_sub hl [2, 3, 1, 0] rfl) hp
    · have hp := ite_n hp c_5
      refine lv_aload_n hx hb dX12_allOf_25 rfl (lv_at hl 0 rfl) ?_
      refine lv_iload_n hx hb dX12_allOf_26 rfl (lv_at hl 3 rfl) ?_
      refine lv_iload_n hx hb dX12_allOf_27 rfl (lv_at hl 1 rfl) ?_
      obtain ⟨r_9, hc_8, hp⟩ := bn1_s hp
      refine k_ROV (As := [.int x3, .int p1]) (rest := [.int x2]) ⟨hx, hb, hml, hown, hts⟩ hK hP (cw_X12_128 hts ⟨Nat.le_of_ble_eq_true rfl, Nat.le_of_ble_eq_true rfl⟩) 0 (ci := 12) rfl rfl rfl (c_X12_of l D cy qmo mo x3 p1 r_9 hc_8) rfl hl.1 (Nat.le_of_ble_eq_true rfl) ⟨Nat.le_refl _, Nat.le_refl _⟩ dX12_allOf_28 ?_
      refine lv_goto (tgt := 35) hx hb dX12_allOf_31 (by decide) ?_
      refine lv_iadd hx hb dX12_allOf_35 ?_
      refine lv_topi (fun x2_10 ex2_10 => ?_)
      have hp := stk_e hp ex2_10
      refine lv_istore_n (lv' := [(2, .int x2_10), (0, .ref (qmo 0)), (1, .int p1), (3, .int x3)]) hx hb dX12_allOf_36 rfl hl (by decide) rfl (fun ls hl => ?_)
      obtain ⟨x3_11, ex3_11⟩ : ∃ y : Int32, y = x3 + 1 := ⟨_, rfl⟩
      have hp := stk_e hp ex3_11
      refine lv_iinc (v := x3_11) (lv' := [(3, .int x3_11), (2, .int x2_10), (0, .ref (qmo 0)), (1, .int p1)]) hx hb dX12_allOf_37 hl (k := 3) rfl (by rw [ex3_11]; rfl) (by decide) rfl (fun ls hl => ?_)
      refine lv_goto (tgt := 4) hx hb dX12_allOf_40 (by decide) ?_
      exact hk4 x2_10 x3_11 _ (lv_sub hl [2, 3, 1, 0] rfl) hp
theorem Mo_allOf_b4_w (C0 : cX RX12 cX12_allOf (some .int) 4 p s m args meth c) (hK : kN D cy s) {qmo : Nat → Nat} {mo : Mem} {p1 : Int32} {r : Int32} (hP : va_P D vwCl (w_Mo cy qmo mo) s.heap) : ∀ (n : Nat) (x2 x3 : Int32) (ls : Array Slot), lv_has ls 4 [(0, .ref (qmo 0)), (1, .int p1), (2, .int x2), (3, .int x3)] → Mo_allOf_b4 mo p1 n x2 x3 = some r → W p l e (rmD 2) s m args below meth c s.heap [] 0 0 (qRO below args s r) (F0 m 4 ls []) := by
  intro n
  induction n with
  | zero =>
    intro x2 x3 ls hl hp
    cases hp
  | succ n ih =>
    intro x2 x3 ls hl hp
    exact Mo_allOf_b4B_w C0 hK hP  (fun x2 x3 ls hl hp => ih x2 x3 ls hl hp) hl hp
set_option maxHeartbeats 4000000 in
set_option maxRecDepth 100000 in
theorem c_X12_allOf (l : Launch) (D : va_G) (cy : Nat → ClassId) (qmo : Nat → Nat) (mo : Mem) (p1 : Int32) (r : Int32) (hp : Mo_allOf mo p1 = some r) : RO l yX12_allOf cX12_allOf 4 (some .int) 2 D cy [.ref (qmo 0), .int p1] (w_Mo cy qmo mo) r := by
  refine RO_of RX12 rfl (by decide) (Nat.le_of_ble_eq_true rfl) ?_
  intro p e s m below meth c C0 hK hP ls hl
  obtain ⟨hx, hb, hr, hml, hown, hts, hk⟩ := id C0
  unfold Mo_allOf at hp
  have hl : lv_has ls 4 [(0, .ref (qmo 0)), (1, .int p1)] := hl
  refine lv_iconst (v := 0) hx hb dX12_allOf_0 (by decide) ?_
  refine lv_istore_n (lv' := [(2, .int 0), (0, .ref (qmo 0)), (1, .int p1)]) hx hb dX12_allOf_1 rfl hl (by decide) rfl (fun ls hl => ?_)
  refine lv_iconst (v := 0) hx hb dX12_allOf_2 (by decide) ?_
  refine lv_istore_n (lv' := [(3, .int 0), (2, .int 0), (0, .ref (qmo 0)), (1, .int p1)]) hx hb dX12_allOf_3 rfl hl (by decide) rfl (fun ls hl => ?_)
  exact Mo_allOf_b4_w C0 hK hP  fl 0 0 _ (lv_sub hl [2, 3, 1, 0] rfl) hp
/-! StormSlotsModel.longest()I -/
def Mo_longest_b4B (mo : Mem) (k4 : Int32 → Int32 → Option (Int32)) (x1 : Int32) (x2 : Int32) : Option (Int32) :=
  ckI 173 1452 (if (mo 0 (173 : Int32).toNatClampNeg) ≤ x2 then some x1 else bn1 (Mo_waits mo x2) (fun r_4 => bn1 (Mo_more x1 r_4) (fun r_6 => stk (x2 + 1) (fun x2_7 => k4 r_6 x2_7))))
def Mo_longest_b4 (mo : Mem) : Nat → Int32 → Int32 → Option (Int32)
  | 0 => fun _ _ => none
  | n + 1 => Mo_longest_b4B mo (Mo_longest_b4 mo n)
def Mo_longest (mo : Mem) : Option (Int32) :=
  Mo_longest_b4 mo fl 0 0
set_option maxHeartbeats 4000000 in
set_option maxRecDepth 100000 in
theorem Mo_longest_b4B_w (C0 : cX RX12 cX12_longest (some .int) 3 p s m args meth c) (hK : kN D cy s) {qmo : Nat → Nat} {mo : Mem} {r : Int32} (hP : va_P D vwCl (w_Mo cy qmo mo) s.heap) {k4 : Int32 → Int32 → Option (Int32)} (hk4 : ∀ (x1 x2 : Int32) (ls : Array Slot), lv_has ls 3 [(0, .ref (qmo 0)), (1, .int x1), (2, .int x2)] → k4 x1 x2 = some r → W p l e (rmD 3) s m args below meth c s.heap [] 0 0 (qRO below args s r) (F0 m 4 ls [])) {x1 : Int32} {x2 : Int32} {ls : Array Slot} (hl : lv_has ls 3 [(0, .ref (qmo 0)), (1, .int x1), (2, .int x2)]) (hp : Mo_longest_b4B mo k4 x1 x2 = some r) : W p l e (rmD 3) s m args below meth c s.heap [] 0 0 (qRO below args s r) (F0 m 4 ls []) := by
  obtain ⟨hx, hb, hr, hml, hown, hts, hk⟩ := id C0
  unfold Mo_longest_b4B at hp
  refine lv_iload_n hx hb dX12_longest_4 rfl (lv_at hl 2 rfl) ?_
  refine lv_aload_n hx hb dX12_longest_5 rfl (lv_at hl 0 rfl) ?_
  refine gf_X12_7 hx hb hts hown hK hP 0 rfl rfl dX12_longest_6 ?_
  refine lv_sipush (v := 173) hx hb dX12_longest_9 (by decide) ?_
  obtain ⟨hi_1, hp⟩ := ckI_s hp
  refine r_ild hx hb hK hP 1 rfl hi_1 dX12_longest_12 ?_
  refine lv_icmp_ge (tgt := 32) hx hb dX12_longest_13 (by decide) (fun c_2 => ?_) (fun c_2 => ?_)
  · have hp := ite_p hp c_2
    refine lv_iload_n hx hb dX12_longest_32 rfl (lv_at hl 1 rfl) ?_
    exact e_ROi hx hb hr hk dX12_longest_33 (Option.some.inj hp)
  · have hp := ite_n hp c_2
    refine lv_iload_n hx hb dX12_longest_16 rfl (lv_at hl 1 rfl) ?_
    refine lv_aload_n hx hb dX12_longest_17 rfl (lv_at hl 0 rfl) ?_
    refine lv_iload_n hx hb dX12_longest_18 rfl (lv_at hl 2 rfl) ?_
    obtain ⟨r_4, hc_3, hp⟩ := bn1_s hp
    refine k_ROV (As := [.int x2]) (rest := [.int x1]) ⟨hx, hb, hml, hown, hts⟩ hK hP (cw_X12_194 hts ⟨Nat.le_of_ble_eq_true rfl, Nat.le_of_ble_eq_true rfl⟩) 0 (ci := 12) rfl rfl rfl (c_X12_waits l D cy qmo mo x2 r_4 hc_3) rfl hl.1 (Nat.le_of_ble_eq_true rfl) ⟨Nat.le_refl _, Nat.le_refl _⟩ dX12_longest_19 ?_
    obtain ⟨r_6, hc_5, hp⟩ := bn1_s hp
    refine k_ROS (As := [.int x1, .int r_4]) (rest := []) ⟨hx, hb, hml, hown, hts⟩ hK (show va_P D vwCl [] _ from fun k q h => by simp at h) (cw_X12_141 hts ⟨Nat.le_of_ble_eq_true rfl, Nat.le_of_ble_eq_true rfl⟩) (c_X12_more l D cy x1 r_4 r_6 hc_5) rfl hl.1 (Nat.le_of_ble_eq_true rfl) ⟨Nat.le_refl _, Nat.le_refl _⟩ dX12_longest_22 ?_
    refine lv_istore_n (lv' := [(1, .int r_6), (0, .ref (qmo 0)), (2, .int x2)]) hx hb dX12_longest_25 rfl hl (by decide) rfl (fun ls hl => ?_)
    obtain ⟨x2_7, ex2_7⟩ : ∃ y : Int32, y = x2 + 1 := ⟨_, rfl⟩
    have hp := stk_e hp ex2_7
    refine lv_iinc (v := x2_7) (lv' := [(2, .int x2_7), (1, .int r_6), (0, .ref (qmo 0))]) hx hb dX12_longest_26 hl (k := 2) rfl (by rw [ex2_7]; rfl) (by decide) rfl (fun ls hl => ?_)
    refine lv_goto (tgt := 4) hx hb dX12_longest_29 (by decide) ?_
    exact hk4 r_6 x2_7 _ (lv_sub hl [2, 1, 0] rfl) hp
theorem Mo_longest_b4_w (C0 : cX RX12 cX12_longest (some .int) 3 p s m args meth c) (hK : kN D cy s) {qmo : Nat → Nat} {mo : Mem} {r : Int32} (hP : va_P D vwCl (w_Mo cy qmo mo) s.heap) : ∀ (n : Nat) (x1 x2 : Int32) (ls : Array Slot), lv_has ls 3 [(0, .ref (qmo 0)), (1, .int x1), (2, .int x2)] → Mo_longest_b4 mo n x1 x2 = some r → W p l e (rmD 3) s m args below meth c s.heap [] 0 0 (qRO below args s r) (F0 m 4 ls []) := by
  intro n
  induction n with
  | zero =>
    intro x1 x2 ls hl hp
    cases hp
  | succ n ih =>
    intro x1 x2 ls hl hp
    exact Mo_longest_b4B_w C0 hK hP  (fun x1 x2 ls hl hp => ih x1 x2 ls hl hp) hl hp
set_option maxHeartbeats 4000000 in
set_option maxRecDepth 100000 in
theorem c_X12_longest (l : Launch) (D : va_G) (cy : Nat → ClassId) (qmo : Nat → Nat) (mo : Mem) (r : Int32) (hp : Mo_longest mo = some r) : RO l yX12_longest cX12_longest 3 (some .int) 3 D cy [.ref (qmo 0)] (w_Mo cy qmo mo) r := by
  refine RO_of RX12 rfl (by decide) (Nat.le_of_ble_eq_true rfl) ?_
  intro p e s m below meth c C0 hK hP ls hl
  obtain ⟨hx, hb, hr, hml, hown, hts, hk⟩ := id C0
  unfold Mo_longest at hp
  have hl : lv_has ls 3 [(0, .ref (qmo 0))] := hl
  refine lv_iconst (v := 0) hx hb dX12_longest_0 (by decide) ?_
  refine lv_istore_n (lv' := [(1, .int 0), (0, .ref (qmo 0))]) hx hb dX12_longest_1 rfl hl (by decide) rfl (fun ls hl => ?_)
  refine lv_iconst (v := 0) hx hb dX12_longest_2 (by decide) ?_
  refine lv_istore_n (lv' := [(2, .int 0), (1, .int 0), (0, .ref (qmo 0))]) hx hb dX12_longest_3 rfl hl (by decide) rfl (fun ls hl => ?_)
  exact Mo_longest_b4_w C0 hK hP  fl 0 0 _ (lv_sub hl [2, 1, 0] rfl) hp
/-! StormSlotsModel.lastSlot()I -/
def Mo_lastSlot_b4B (mo : Mem) (k4 : Int32 → Int32 → Option (Int32)) (x1 : Int32) (x2 : Int32) : Option (Int32) :=
  ckI 173 1452 (if (mo 0 (173 : Int32).toNatClampNeg) ≤ x2 then some x1 else bn1 (Mo_isPlanned mo x2) (fun r_4 => if r_4 = 0 then stk (x2 + 1) (fun x2_6 => k4 x1 x2_6) else bn1 (Mo_of mo x2 4) (fun r_8 => bn1 (Mo_more x1 r_8) (fun r_10 => stk (x2 + 1) (fun x2_11 => k4 r_10 x2_11)))))
def Mo_lastSlot_b4 (mo : Mem) : Nat → Int32 → Int32 → Option (Int32)
  | 0 => fun _ _ => none
  | n + 1 => Mo_lastSlot_b4B mo (Mo_lastSlot_b4 mo n)
def Mo_lastSlot (mo : Mem) : Option (Int32) :=
  Mo_lastSlot_b4 mo fl 0 0
set_option maxHeartbeats 4000000 in
set_option maxRecDepth 100000 in
theorem Mo_lastSlot_b4B_w (C0 : cX RX12 cX12_lastSlot (some .int) 3 p s m args meth c) (hK : kN D cy s) {qmo : Nat → Nat} {mo : Mem} {r : Int32} (hP : va_P D vwCl (w_Mo cy qmo mo) s.heap) {k4 : Int32 → Int32 → Option (Int32)} (hk4 : ∀ (x1 x2 : Int32) (ls : Array Slot), lv_has ls 3 [(0, .ref (qmo 0)), (1, .int x1), (2, .int x2)] → k4 x1 x2 = some r → W p l e (rmD 2) s m args below meth c s.heap [] 0 0 (qRO below args s r) (F0 m 4 ls [])) {x1 : Int32} {x2 : Int32} {ls : Array Slot} (hl : lv_has ls 3 [(0, .ref (qmo 0)), (1, .int x1), (2, .int x2)]) (hp : Mo_lastSlot_b4B mo k4 x1 x2 = some r) : W p l e (rmD 2) s m args below meth c s.heap [] 0 0 (qRO below args s r) (F0 m 4 ls []) := by
  obtain ⟨hx, hb, hr, hml, hown, hts, hk⟩ := id C0
  unfold Mo_lastSlot_b4B at hp
  refine lv_iload_n hx hb dX12_lastSlot_4 rfl (lv_at hl 2 rfl) ?_
  refine lv_aload_n hx hb dX12_lastSlot_5 rfl (lv_at hl 0 rfl) ?_
  refine gf_X12_7 hx hb hts hown hK hP 0 rfl rfl dX12_lastSlot_6 ?_
  refine lv_sipush (v := 173) hx hb dX12_lastSlot_9 (by decide) ?_
  obtain ⟨hi_1, hp⟩ := ckI_s hp
  refine r_ild hx hb hK hP 1 rfl hi_1 dX12_lastSlot_12 ?_
  refine lv_icmp_ge (tgt := 45) hx hb dX12_lastSlot_13 (by decide) (fun c_2 => ?_) (fun c_2 => ?_)
  · have hp := ite_p hp c_2
    refine lv_iload_n hx hb dX12_lastSlot_45 rfl (lv_at hl 1 rfl) ?_
    exact e_ROi hx hb hr hk dX12_lastSlot_46 (Option.some.inj hp)
  · have hp := ite_n hp c_2
    refine lv_aload_n hx hb dX12_lastSlot_16 rfl (lv_at hl 0 rfl) ?_
    refine lv_iload_n hx hb dX12_lastSlot_17 rfl (lv_at hl 2 rfl) ?_
    obtain ⟨r_4, hc_3, hp⟩ := bn1_s hp
    refine k_ROV (As := [.int x2]) (rest := []) ⟨hx, hb, hml, hown, hts⟩ hK hP (cw_X12_144 hts ⟨Nat.le_of_ble_eq_true rfl, Nat.le_of_ble_eq_true rfl⟩) 0 (ci := 12) rfl rfl rfl (c_X12_isPlanned l D cy qmo mo x2 r_4 hc_3) rfl hl.1 (Nat.le_of_ble_eq_true rfl) ⟨Nat.le_refl _, Nat.le_refl _⟩ dX12_lastSlot_18 ?_
    refine lv_if_eq (tgt := 37) hx hb dX12_lastSlot_21 (by decide) (fun c_5 => ?_) (fun c_5 => ?_)
    · have hp := ite_p hp c_5
      refine lv_iload_n hx hb dX12_lastSlot_37 rfl (lv_at hl 1 rfl) ?_
      refine lv_istore_n (lv' := [(1, .int x1), (0, .ref (qmo 0)), (2, .int x2)]) hx hb dX12_lastSlot_38 rfl hl (by decide) rfl (fun ls hl => ?_)
      obtain ⟨x2_6, ex2_6⟩ : ∃ y : Int32, y = x2 + 1 := ⟨_, rfl⟩
      have hp := stk_e hp ex2_6
      refine lv_iinc (v := x2_6) (lv' := [(2, .int x2_6), (1, .int x1), (0, .ref (qmo 0))]) hx hb dX12_lastSlot_39 hl (k := 2) rfl (by rw [ex2_6]; rfl) (by decide) rfl (fun ls hl => ?_)
      refine lv_goto (tgt := 4) hx hb dX12_lastSlot_42 (by decide) ?_
      exact hk4 x1 x2_6 _ (lv_sub hl [2, 1, 0] rfl) hp
    · have hp := ite_n hp c_5
      refine lv_iload_n hx hb dX12_lastSlot_24 rfl (lv_at hl 1 rfl) ?_
      refine lv_aload_n hx hb dX12_lastSlot_25 rfl (lv_at hl 0 rfl) ?_
      refine lv_iload_n hx hb dX12_lastSlot_26 rfl (lv_at hl 2 rfl) ?_
      refine lv_iconst (v := 4) hx hb dX12_lastSlot_27 (by decide) ?_
      obtain ⟨r_8, hc_7, hp⟩ := bn1_s hp
      refine k_ROV (As := [.int x2, .int 4]) (rest := [.int x1]) ⟨hx, hb, hml, hown, hts⟩ hK hP (cw_X12_128 hts ⟨Nat.le_of_ble_eq_true rfl, Nat.le_of_ble_eq_true rfl⟩) 0 (ci := 12) rfl rfl rfl (c_X12_of l D cy qmo mo x2 4 r_8 hc_7) rfl hl.1 (Nat.le_of_ble_eq_true rfl) ⟨Nat.le_refl _, Nat.le_refl _⟩ dX12_lastSlot_28 ?_
      obtain ⟨r_10, hc_9, hp⟩ := bn1_s hp
      refine k_ROS (As := [.int x1, .int r_8]) (rest := []) ⟨hx, hb, hml, hown, hts⟩ hK (show va_P D vwCl [] _ from fun k q h => by simp at h) (cw_X12_141 hts ⟨Nat.le_of_ble_eq_true rfl, Nat.le_of_ble_eq_true rfl⟩) (c_X12_more l D cy x1 r_8 r_10 hc_9) rfl hl.1 (Nat.le_of_ble_eq_true rfl) ⟨Nat.le_refl _, Nat.le_refl _⟩ dX12_lastSlot_31 ?_
      refine lv_goto (tgt := 38) hx hb dX12_lastSlot_34 (by decide) ?_
      refine lv_istore_n (lv' := [(1, .int r_10), (0, .ref (qmo 0)), (2, .int x2)]) hx hb dX12_lastSlot_38 rfl hl (by decide) rfl (fun ls hl => ?_)
      obtain ⟨x2_11, ex2_11⟩ : ∃ y : Int32, y = x2 + 1 := ⟨_, rfl⟩
      have hp := stk_e hp ex2_11
      refine lv_iinc (v := x2_11) (lv' := [(2, .int x2_11), (1, .int r_10), (0, .ref (qmo 0))]) hx hb dX12_lastSlot_39 hl (k := 2) rfl (by rw [ex2_11]; rfl) (by decide) rfl (fun ls hl => ?_)
      refine lv_goto (tgt := 4) hx hb dX12_lastSlot_42 (by decide) ?_
      exact hk4 r_10 x2_11 _ (lv_sub hl [2, 1, 0] rfl) hp
theorem Mo_lastSlot_b4_w (C0 : cX RX12 cX12_lastSlot (some .int) 3 p s m args meth c) (hK : kN D cy s) {qmo : Nat → Nat} {mo : Mem} {r : Int32} (hP : va_P D vwCl (w_Mo cy qmo mo) s.heap) : ∀ (n : Nat) (x1 x2 : Int32) (ls : Array Slot), lv_has ls 3 [(0, .ref (qmo 0)), (1, .int x1), (2, .int x2)] → Mo_lastSlot_b4 mo n x1 x2 = some r → W p l e (rmD 2) s m args below meth c s.heap [] 0 0 (qRO below args s r) (F0 m 4 ls []) := by
  intro n
  induction n with
  | zero =>
    intro x1 x2 ls hl hp
    cases hp
  | succ n ih =>
    intro x1 x2 ls hl hp
    exact Mo_lastSlot_b4B_w C0 hK hP  (fun x1 x2 ls hl hp => ih x1 x2 ls hl hp) hl hp
set_option maxHeartbeats 4000000 in
set_option maxRecDepth 100000 in
theorem c_X12_lastSlot (l : Launch) (D : va_G) (cy : Nat → ClassId) (qmo : Nat → Nat) (mo : Mem) (r : Int32) (hp : Mo_lastSlot mo = some r) : RO l yX12_lastSlot cX12_lastSlot 3 (some .int) 2 D cy [.ref (qmo 0)] (w_Mo cy qmo mo) r := by
  refine RO_of RX12 rfl (by decide) (Nat.le_of_ble_eq_true rfl) ?_
  intro p e s m below meth c C0 hK hP ls hl
  obtain ⟨hx, hb, hr, hml, hown, hts, hk⟩ := id C0
  unfold Mo_lastSlot at hp
  have hl : lv_has ls 3 [(0, .ref (qmo 0))] := hl
  refine lv_iconst (v := 0) hx hb dX12_lastSlot_0 (by decide) ?_
  refine lv_istore_n (lv' := [(1, .int 0), (0, .ref (qmo 0))]) hx hb dX12_lastSlot_1 rfl hl (by decide) rfl (fun ls hl => ?_)
  refine lv_iconst (v := 0) hx hb dX12_lastSlot_2 (by decide) ?_
  refine lv_istore_n (lv' := [(2, .int 0), (1, .int 0), (0, .ref (qmo 0))]) hx hb dX12_lastSlot_3 rfl hl (by decide) rfl (fun ls hl => ?_)
  exact Mo_lastSlot_b4_w C0 hK hP  fl 0 0 _ (lv_sub hl [2, 1, 0] rfl) hp
/-! StormSlotsModel.byRule(II)I -/
def Mo_byRule_b85 (p1 : Int32) (p2 : Int32) (mo : Mem) (y0 : Int32) : Option (Int32 × Mem) :=
  bn1 (Mo_takes mo 8) (fun mo_25 => some (y0, mo_25))
def Mo_byRule (mo : Mem) (p1 : Int32) (p2 : Int32) : Option (Int32 × Mem) :=
  bn1 (Mo_in p1 0 2) (fun r_2 => if r_2 = 0 then some ((-1), mo) else bn1 (Mo_in p2 0 3) (fun r_5 => if r_5 = 0 then some ((-1), mo) else ckI 173 1452 (if (mo 0 (173 : Int32).toNatClampNeg) = 0 then some ((-2), mo) else bn1 (Mo_lays mo 8) (fun mo_10 => bn1 (Mo_plansBy mo_10 p1) (fun mo_12 => if p2 = 0 then bn1 (Mo_allCost mo_12) (fun r_23 => Mo_byRule_b85 p1 p2 mo_12 r_23) else if p2 = 1 then bn1 (Mo_allOf mo_12 5) (fun r_21 => Mo_byRule_b85 p1 p2 mo_12 r_21) else if p2 = 2 then bn1 (Mo_longest mo_12) (fun r_19 => Mo_byRule_b85 p1 p2 mo_12 r_19) else bn1 (Mo_unfairNow mo_12) (fun r_17 => Mo_byRule_b85 p1 p2 mo_12 r_17))))))
set_option maxHeartbeats 4000000 in
set_option maxRecDepth 100000 in
theorem Mo_byRule_b85_w (C0 : cX RX12 cX12_byRule (some .int) 4 p s m args meth c) (hK : kN D cy s) {qmo : Nat → Nat} {p1 p2 : Int32} {r : Int32} {mo' : Mem} (hA : ∀ q, s.heap.size ≤ q → A q) {mo : Mem} {y0 : Int32} {H : Heap} {locs : List Loc} (hP : va_P D vwCl (w_Mo cy qmo mo) H) (hD : va_D A (w_Mo cy qmo mo)) (hS : va_S A s.heap H locs) {ls : Array Slot} (hl : lv_has ls 4 [(0, .ref (qmo 0)), (1, .int p1), (2, .int p2)]) (hp : Mo_byRule_b85 p1 p2 mo y0 = some (r, mo')) : W p l e (rmD 6) s m args below meth c H locs 0 0 (qRI D below args s A (w_Mo cy qmo mo') r) (F0 m 85 ls [.int y0]) := by
  obtain ⟨hx, hb, hr, hml, hown, hts, hk⟩ := id C0
  unfold Mo_byRule_b85 at hp
  refine lv_istore_n (lv' := [(3, .int y0), (0, .ref (qmo 0)), (1, .int p1), (2, .int p2)]) hx hb dX12_byRule_85 rfl hl (by decide) rfl (fun ls hl => ?_)
  refine lv_aload_n hx hb dX12_byRule_86 rfl (lv_at hl 1 rfl) ?_
  refine lv_bipush (v := 8) hx hb dX12_byRule_87 (by decide) ?_
  obtain ⟨mo_25, hc_24, hp⟩ := bn1_s hp
  refine k_RVV (As := [.int 8]) (rest := []) ⟨hx, hb, hml, hown, hts⟩ hK hP hD hS hA FrS_rf (cw_X12_246 hts ⟨Nat.le_of_ble_eq_true rfl, Nat.le_of_ble_eq_true rfl⟩) 0 (ci := 12) rfl rfl rfl (c_X12_takes l D cy qmo mo 8 mo_25 hc_24) rfl hl.1 (Nat.le_of_ble_eq_true rfl) ⟨Nat.le_refl _, Nat.le_refl _⟩ dX12_byRule_89 (fun H locs hP hD hS => ?_)
  refine lv_iload_n hx hb dX12_byRule_92 rfl (lv_at hl 0 rfl) ?_
  simp only [Option.some.injEq, Prod.mk.injEq] at hp
  obtain ⟨h0, rfl⟩ := hp
  exact e_RIi hx hb hr hk hP hD hS dX12_byRule_93 h0
set_option maxHeartbeats 4000000 in
set_option maxRecDepth 100000 in
theorem c_X12_byRule (l : Launch) (D : va_G) (cy : Nat → ClassId) (qmo : Nat → Nat) (mo : Mem) (p1 p2 : Int32) (r : Int32) (mo' : Mem) (hp : Mo_byRule mo p1 p2 = some (r, mo')) : RI l yX12_byRule cX12_byRule 4 (some .int) 6 D cy [.ref (qmo 0), .int p1, .int p2] (w_Mo cy qmo mo) (w_Mo cy qmo mo') r := by
  refine RI_of RX12 rfl (by decide) (Nat.le_of_ble_eq_true rfl) ?_
  intro p e s m below meth c A C0 hK hP hD hS hA ls hl
  obtain ⟨hx, hb, hr, hml, hown, hts, hk⟩ := id C0
  unfold Mo_byRule at hp
  have hl : lv_has ls 4 [(0, .ref (qmo 0)), (1, .int p1), (2, .int p2)] := hl
  refine lv_iload_n hx hb dX12_byRule_0 rfl (lv_at hl 1 rfl) ?_
  refine lv_iconst (v := 0) hx hb dX12_byRule_1 (by decide) ?_
  refine lv_iconst (v := 2) hx hb dX12_byRule_2 (by decide) ?_
  obtain ⟨r_2, hc_1, hp⟩ := bn1_s hp
  refine k_ROS (As := [.int p1, .int 0, .int 2]) (rest := []) ⟨hx, hb, hml, hown, hts⟩ hK (show va_P D vwCl [] _ from fun k q h => by simp at h) (cw_X12_45 hts ⟨Nat.le_of_ble_eq_true rfl, Nat.le_of_ble_eq_true rfl⟩) (c_X12_in l D cy p1 0 2 r_2 hc_1) rfl hl.1 (Nat.le_of_ble_eq_true rfl) ⟨Nat.le_refl _, Nat.le_refl _⟩ dX12_byRule_3 ?_
  refine lv_if_eq (tgt := 18) hx hb dX12_byRule_6 (by decide) (fun c_3 => ?_) (fun c_3 => ?_)
  · have hp := ite_p hp c_3
    refine lv_iconst (v := (-1)) hx hb dX12_byRule_18 (by decide) ?_
    simp only [Option.some.injEq, Prod.mk.injEq] at hp
    obtain ⟨h0, rfl⟩ := hp
    exact e_RIi hx hb hr hk hP hD hS dX12_byRule_19 h0
  · have hp := ite_n hp c_3
    refine lv_iload_n hx hb dX12_byRule_9 rfl (lv_at hl 2 rfl) ?_
    refine lv_iconst (v := 0) hx hb dX12_byRule_10 (by decide) ?_
    refine lv_iconst (v := 3) hx hb dX12_byRule_11 (by decide) ?_
    obtain ⟨r_5, hc_4, hp⟩ := bn1_s hp
    refine k_ROS (As := [.int p2, .int 0, .int 3]) (rest := []) ⟨hx, hb, hml, hown, hts⟩ hK (show va_P D vwCl [] _ from fun k q h => by simp at h) (cw_X12_45 hts ⟨Nat.le_of_ble_eq_true rfl, Nat.le_of_ble_eq_true rfl⟩) (c_X12_in l D cy p2 0 3 r_5 hc_4) rfl hl.1 (Nat.le_of_ble_eq_true rfl) ⟨Nat.le_refl _, Nat.le_refl _⟩ dX12_byRule_12 ?_
    refine lv_if_ne (tgt := 20) hx hb dX12_byRule_15 (by decide) (fun c_6 => ?_) (fun c_6 => ?_)
    · have hp := ite_n hp c_6
      refine lv_aload_n hx hb dX12_byRule_20 rfl (lv_at hl 0 rfl) ?_
      refine gf_X12_7 hx hb hts hown hK hP 0 rfl rfl dX12_byRule_21 ?_
      refine lv_sipush (v := 173) hx hb dX12_byRule_24 (by decide) ?_
      obtain ⟨hi_7, hp⟩ := ckI_s hp
      refine r_ild hx hb hK hP 1 rfl hi_7 dX12_byRule_27 ?_
      refine lv_if_ne (tgt := 34) hx hb dX12_byRule_28 (by decide) (fun c_8 => ?_) (fun c_8 => ?_)
      · have hp := ite_n hp c_8
        refine lv_aload_n hx hb dX12_byRule_34 rfl (lv_at hl 0 rfl) ?_
        refine lv_bipush (v := 8) hx hb dX12_byRule_35 (by decide) ?_
        obtain ⟨mo_10, hc_9, hp⟩ := bn1_s hp
        refine k_RVV (As := [.int 8]) (rest := []) ⟨hx, hb, hml, hown, hts⟩ hK hP hD hS hA FrS_rf (cw_X12_243 hts ⟨Nat.le_of_ble_eq_true rfl, Nat.le_of_ble_eq_true rfl⟩) 0 (ci := 12) rfl rfl rfl (c_X12_lays l D cy qmo mo 8 mo_10 hc_9) rfl hl.1 (Nat.le_of_ble_eq_true rfl) ⟨Nat.le_refl _, Nat.le_refl _⟩ dX12_byRule_37 (fun H locs hP hD hS => ?_)
        refine lv_aload_n hx hb dX12_byRule_40 rfl (lv_at hl 0 rfl) ?_
        refine lv_iload_n hx hb dX12_byRule_41 rfl (lv_at hl 1 rfl) ?_
        obtain ⟨mo_12, hc_11, hp⟩ := bn1_s hp
        refine k_RVV (As := [.int p1]) (rest := []) ⟨hx, hb, hml, hown, hts⟩ hK hP hD hS hA FrS_rf (cw_X12_191 hts ⟨Nat.le_of_ble_eq_true rfl, Nat.le_of_ble_eq_true rfl⟩) 0 (ci := 12) rfl rfl rfl (c_X12_plansBy l D cy qmo mo_10 p1 mo_12 hc_11) rfl hl.1 (Nat.le_of_ble_eq_true rfl) ⟨Nat.le_refl _, Nat.le_refl _⟩ dX12_byRule_42 (fun H locs hP hD hS => ?_)
        refine lv_iload_n hx hb dX12_byRule_45 rfl (lv_at hl 2 rfl) ?_
        refine lv_if_ne (tgt := 56) hx hb dX12_byRule_46 (by decide) (fun c_13 => ?_) (fun c_13 => ?_)
        · have hp := ite_n hp c_13
          refine lv_iload_n hx hb dX12_byRule_56 rfl (lv_at hl 2 rfl) ?_
          refine lv_iconst (v := 1) hx hb dX12_byRule_57 (by decide) ?_
          refine lv_icmp_ne (tgt := 69) hx hb dX12_byRule_58 (by decide) (fun c_14 => ?_) (fun c_14 => ?_)
          · have hp := ite_n hp c_14
            refine lv_iload_n hx hb dX12_byRule_69 rfl (lv_at hl 2 rfl) ?_
            refine lv_iconst (v := 2) hx hb dX12_byRule_70 (by decide) ?_
            refine lv_icmp_ne (tgt := 81) hx hb dX12_byRule_71 (by decide) (fun c_15 => ?_) (fun c_15 => ?_)
            · have hp := ite_n hp c_15
              refine lv_aload_n hx hb dX12_byRule_81 rfl (lv_at hl 0 rfl) ?_
              obtain ⟨r_17, hc_16, hp⟩ := bn1_s hp
              refine k_ROV (As := []) (rest := []) ⟨hx, hb, hml, hown, hts⟩ hK hP (cw_X12_283 hts ⟨Nat.le_of_ble_eq_true rfl, Nat.le_of_ble_eq_true rfl⟩) 0 (ci := 12) rfl rfl rfl (c_X12_unfairNow l D cy qmo mo_12 r_17 hc_16) rfl hl.1 (Nat.le_of_ble_eq_true rfl) ⟨Nat.le_refl _, Nat.le_refl _⟩ dX12_byRule_82 ?_
              exact Mo_byRule_b85_w C0 hK hA  hP hD hS hl hp
            · have hp := ite_p hp c_15
              refine lv_aload_n hx hb dX12_byRule_74 rfl (lv_at hl 0 rfl) ?_
              obtain ⟨r_19, hc_18, hp⟩ := bn1_s hp
              refine k_ROV (As := []) (rest := []) ⟨hx, hb, hml, hown, hts⟩ hK hP (cw_X12_295 hts ⟨Nat.le_of_ble_eq_true rfl, Nat.le_of_ble_eq_true rfl⟩) 0 (ci := 12) rfl rfl rfl (c_X12_longest l D cy qmo mo_12 r_19 hc_18) rfl hl.1 (Nat.le_of_ble_eq_true rfl) ⟨Nat.le_refl _, Nat.le_refl _⟩ dX12_byRule_75 ?_
              refine lv_goto (tgt := 85) hx hb dX12_byRule_78 (by decide) ?_
              exact Mo_byRule_b85_w C0 hK hA  hP hD hS hl hp
          · have hp := ite_p hp c_14
            refine lv_aload_n hx hb dX12_byRule_61 rfl (lv_at hl 0 rfl) ?_
            refine lv_iconst (v := 5) hx hb dX12_byRule_62 (by decide) ?_
            obtain ⟨r_21, hc_20, hp⟩ := bn1_s hp
            refine k_ROV (As := [.int 5]) (rest := []) ⟨hx, hb, hml, hown, hts⟩ hK hP (cw_X12_292 hts ⟨Nat.le_of_ble_eq_true rfl, Nat.le_of_ble_eq_true rfl⟩) 0 (ci := 12) rfl rfl rfl (c_X12_allOf l D cy qmo mo_12 5 r_21 hc_20) rfl hl.1 (Nat.le_of_ble_eq_true rfl) ⟨Nat.le_refl _, Nat.le_refl _⟩ dX12_byRule_63 ?_
            refine lv_goto (tgt := 85) hx hb dX12_byRule_66 (by decide) ?_
            exact Mo_byRule_b85_w C0 hK hA  hP hD hS hl hp
        · have hp := ite_p hp c_13
          refine lv_aload_n hx hb dX12_byRule_49 rfl (lv_at hl 0 rfl) ?_
          obtain ⟨r_23, hc_22, hp⟩ := bn1_s hp
          refine k_ROV (As := []) (rest := []) ⟨hx, hb, hml, hown, hts⟩ hK hP (cw_X12_210 hts ⟨Nat.le_of_ble_eq_true rfl, Nat.le_of_ble_eq_true rfl⟩) 0 (ci := 12) rfl rfl rfl (c_X12_allCost l D cy qmo mo_12 r_23 hc_22) rfl hl.1 (Nat.le_of_ble_eq_true rfl) ⟨Nat.le_refl _, Nat.le_refl _⟩ dX12_byRule_50 ?_
          refine lv_goto (tgt := 85) hx hb dX12_byRule_53 (by decide) ?_
          exact Mo_byRule_b85_w C0 hK hA  hP hD hS hl hp
      · have hp := ite_p hp c_8
        refine lv_bipush (v := (-2)) hx hb dX12_byRule_31 (by decide) ?_
        simp only [Option.some.injEq, Prod.mk.injEq] at hp
        obtain ⟨h0, rfl⟩ := hp
        exact e_RIi hx hb hr hk hP hD hS dX12_byRule_33 h0
    · have hp := ite_p hp c_6
      refine lv_iconst (v := (-1)) hx hb dX12_byRule_18 (by decide) ?_
      simp only [Option.some.injEq, Prod.mk.injEq] at hp
      obtain ⟨h0, rfl⟩ := hp
      exact e_RIi hx hb hr hk hP hD hS dX12_byRule_19 h0
/-! StormSlotsModel.demand(II)I -/
def Mo_demand_b42B (mo : Mem) (p1 : Int32) (p2 : Int32) (k42 : Int32 → Int32 → Option (Int32)) (x3 : Int32) (x4 : Int32) : Option (Int32) :=
  ckI 173 1452 (if (mo 0 (173 : Int32).toNatClampNeg) ≤ x4 then some x3 else if p2 = 0 then bn1 (Mo_of mo x4 1) (fun r_25 => if (r_25 / 60) = p1 then stk (x3 + 1) (fun x3_29 => stk (x4 + 1) (fun x4_30 => k42 x3_29 x4_30)) else stk (x3 + 0) (fun x3_27 => stk (x4 + 1) (fun x4_28 => k42 x3_27 x4_28))) else bn1 (Mo_isPlanned mo x4) (fun r_13 => if r_13 = 0 then stk (x3 + 0) (fun x3_15 => stk (x4 + 1) (fun x4_16 => k42 x3_15 x4_16)) else bn1 (Mo_of mo x4 4) (fun r_18 => if (r_18 / 60) = p1 then stk (x3 + 1) (fun x3_22 => stk (x4 + 1) (fun x4_23 => k42 x3_22 x4_23)) else stk (x3 + 0) (fun x3_20 => stk (x4 + 1) (fun x4_21 => k42 x3_20 x4_21)))))
def Mo_demand_b42 (mo : Mem) (p1 : Int32) (p2 : Int32) : Nat → Int32 → Int32 → Option (Int32)
  | 0 => fun _ _ => none
  | n + 1 => Mo_demand_b42B mo p1 p2 (Mo_demand_b42 mo p1 p2 n)
def Mo_demand (mo : Mem) (p1 : Int32) (p2 : Int32) : Option (Int32) :=
  bn1 (Mo_in p1 0 11) (fun r_2 => if r_2 = 0 then some (-1) else bn1 (Mo_in p2 0 2) (fun r_5 => if r_5 = 0 then some (-1) else if p2 = 1 then ckI (160 + p1) 1452 (some (mo 0 (160 + p1).toNatClampNeg)) else Mo_demand_b42 mo p1 p2 fl 0 0))
set_option maxHeartbeats 4000000 in
set_option maxRecDepth 100000 in
theorem Mo_demand_b42B_w (C0 : cX RX12 cX12_demand (some .int) 5 p s m args meth c) (hK : kN D cy s) {qmo : Nat → Nat} {mo : Mem} {p1 p2 : Int32} {r : Int32} (hP : va_P D vwCl (w_Mo cy qmo mo) s.heap) {k42 : Int32 → Int32 → Option (Int32)} (hk42 : ∀ (x3 x4 : Int32) (ls : Array Slot), lv_has ls 5 [(0, .ref (qmo 0)), (1, .int p1), (2, .int p2), (3, .int x3), (4, .int x4)] → k42 x3 x4 = some r → W p l e (rmD 2) s m args below meth c s.heap [] 0 0 (qRO below args s r) (F0 m 42 ls [])) {x3 : Int32} {x4 : Int32} {ls : Array Slot} (hl : lv_has ls 5 [(0, .ref (qmo 0)), (1, .int p1), (2, .int p2), (3, .int x3), (4, .int x4)]) (hp : Mo_demand_b42B mo p1 p2 k42 x3 x4 = some r) : W p l e (rmD 2) s m args below meth c s.heap [] 0 0 (qRO below args s r) (F0 m 42 ls []) := by
  obtain ⟨hx, hb, hr, hml, hown, hts, hk⟩ := id C0
  unfold Mo_demand_b42B at hp
  refine lv_iload hx hb dX12_demand_42 (lv_at hl 4 rfl) ?_
  refine lv_aload_n hx hb dX12_demand_44 rfl (lv_at hl 0 rfl) ?_
  refine gf_X12_7 hx hb hts hown hK hP 0 rfl rfl dX12_demand_45 ?_
  refine lv_sipush (v := 173) hx hb dX12_demand_48 (by decide) ?_
  obtain ⟨hi_9, hp⟩ := ckI_s hp
  refine r_ild hx hb hK hP 1 rfl hi_9 dX12_demand_51 ?_
  refine lv_icmp_ge (tgt := 118) hx hb dX12_demand_52 (by decide) (fun c_10 => ?_) (fun c_10 => ?_)
  · have hp := ite_p hp c_10
    refine lv_iload_n hx hb dX12_demand_118 rfl (lv_at hl 3 rfl) ?_
    exact e_ROi hx hb hr hk dX12_demand_119 (Option.some.inj hp)
  · have hp := ite_n hp c_10
    refine lv_iload_n hx hb dX12_demand_55 rfl (lv_at hl 3 rfl) ?_
    refine lv_iload_n hx hb dX12_demand_56 rfl (lv_at hl 2 rfl) ?_
    refine lv_if_ne (tgt := 82) hx hb dX12_demand_57 (by decide) (fun c_11 => ?_) (fun c_11 => ?_)
    · have hp := ite_n hp c_11
      refine lv_aload_n hx hb dX12_demand_82 rfl (lv_at hl 0 rfl) ?_
      refine lv_iload hx hb dX12_demand_83 (lv_at hl 4 rfl) ?_
      obtain ⟨r_13, hc_12, hp⟩ := bn1_s hp
      refine k_ROV (As := [.int x4]) (rest := [.int x3]) ⟨hx, hb, hml, hown, hts⟩ hK hP (cw_X12_144 hts ⟨Nat.le_of_ble_eq_true rfl, Nat.le_of_ble_eq_true rfl⟩) 0 (ci := 12) rfl rfl rfl (c_X12_isPlanned l D cy qmo mo x4 r_13 hc_12) rfl hl.1 (Nat.le_of_ble_eq_true rfl) ⟨Nat.le_refl _, Nat.le_refl _⟩ dX12_demand_85 ?_
      refine lv_if_eq (tgt := 109) hx hb dX12_demand_88 (by decide) (fun c_14 => ?_) (fun c_14 => ?_)
      · have hp := ite_p hp c_14
        refine lv_iconst (v := 0) hx hb dX12_demand_109 (by decide) ?_
        refine lv_iadd hx hb dX12_demand_110 ?_
        refine lv_topi (fun x3_15 ex3_15 => ?_)
        have hp := stk_e hp ex3_15
        refine lv_istore_n (lv' := [(3, .int x3_15), (0, .ref (qmo 0)), (1, .int p1), (2, .int p2), (4, .int x4)]) hx hb dX12_demand_111 rfl hl (by decide) rfl (fun ls hl => ?_)
        obtain ⟨x4_16, ex4_16⟩ : ∃ y : Int32, y = x4 + 1 := ⟨_, rfl⟩
        have hp := stk_e hp ex4_16
        refine lv_iinc (v := x4_16) (lv' := [(4, .int x4_16), (3, .int x3_15), (0, .ref (qmo 0)), (1, .int p1), (2, .int p2)]) hx hb dX12_demand_112 hl (k := 4) rfl (by rw [ex4_16]; rfl) (by decide) rfl (fun ls hl => ?_)
        refine lv_goto (tgt := 42) hx hb dX12_demand_115 (by decide) ?_
        exact hk42 x3_15 x4_16 _ (lv_sub hl [2, 3, 4, 1, 0] rfl) hp
      · have hp := ite_n hp c_14
        refine lv_aload_n hx hb dX12_demand_91 rfl (lv_at hl 0 rfl) ?_
        refine lv_iload hx hb dX12_demand_92 (lv_at hl 4 rfl) ?_
        refine lv_iconst (v := 4) hx hb dX12_demand_94 (by decide) ?_
        obtain ⟨r_18, hc_17, hp⟩ := bn1_s hp
        refine k_ROV (As := [.int x4, .int 4]) (rest := [.int x3]) ⟨hx, hb, hml, hown, hts⟩ hK hP (cw_X12_128 hts ⟨Nat.le_of_ble_eq_true rfl, Nat.le_of_ble_eq_true rfl⟩) 0 (ci := 12) rfl rfl rfl (c_X12_of l D cy qmo mo x4 4 r_18 hc_17) rfl hl.1 (Nat.le_of_ble_eq_true rfl) ⟨Nat.le_refl _, Nat.le_refl _⟩ dX12_demand_95 ?_
        refine lv_bipush (v := 60) hx hb dX12_demand_98 (by decide) ?_
        refine lv_idiv hx hb dX12_demand_100 (by decide) ?_
        refine lv_iload_n hx hb dX12_demand_101 rfl (lv_at hl 1 rfl) ?_
        refine lv_icmp_ne (tgt := 109) hx hb dX12_demand_102 (by decide) (fun c_19 => ?_) (fun c_19 => ?_)
        · have hp := ite_n hp c_19
          refine lv_iconst (v := 0) hx hb dX12_demand_109 (by decide) ?_
          refine lv_iadd hx hb dX12_demand_110 ?_
          refine lv_topi (fun x3_20 ex3_20 => ?_)
          have hp := stk_e hp ex3_20
          refine lv_istore_n (lv' := [(3, .int x3_20), (0, .ref (qmo 0)), (1, .int p1), (2, .int p2), (4, .int x4)]) hx hb dX12_demand_111 rfl hl (by decide) rfl (fun ls hl => ?_)
          obtain ⟨x4_21, ex4_21⟩ : ∃ y : Int32, y = x4 + 1 := ⟨_, rfl⟩
          have hp := stk_e hp ex4_21
          refine lv_iinc (v := x4_21) (lv' := [(4, .int x4_21), (3, .int x3_20), (0, .ref (qmo 0)), (1, .int p1), (2, .int p2)]) hx hb dX12_demand_112 hl (k := 4) rfl (by rw [ex4_21]; rfl) (by decide) rfl (fun ls hl => ?_)
          refine lv_goto (tgt := 42) hx hb dX12_demand_115 (by decide) ?_
          exact hk42 x3_20 x4_21 _ (lv_sub hl [2, 3, 4, 1, 0] rfl) hp
        · have hp := ite_p hp c_19
          refine lv_iconst (v := 1) hx hb dX12_demand_105 (by decide) ?_
          refine lv_goto (tgt := 110) hx hb dX12_demand_106 (by decide) ?_
          refine lv_iadd hx hb dX12_demand_110 ?_
          refine lv_topi (fun x3_22 ex3_22 => ?_)
          have hp := stk_e hp ex3_22
          refine lv_istore_n (lv' := [(3, .int x3_22), (0, .ref (qmo 0)), (1, .int p1), (2, .int p2), (4, .int x4)]) hx hb dX12_demand_111 rfl hl (by decide) rfl (fun ls hl => ?_)
          obtain ⟨x4_23, ex4_23⟩ : ∃ y : Int32, y = x4 + 1 := ⟨_, rfl⟩
          have hp := stk_e hp ex4_23
          refine lv_iinc (v := x4_23) (lv' := [(4, .int x4_23), (3, .int x3_22), (0, .ref (qmo 0)), (1, .int p1), (2, .int p2)]) hx hb dX12_demand_112 hl (k := 4) rfl (by rw [ex4_23]; rfl) (by decide) rfl (fun ls hl => ?_)
          refine lv_goto (tgt := 42) hx hb dX12_demand_115 (by decide) ?_
          exact hk42 x3_22 x4_23 _ (lv_sub hl [2, 3, 4, 1, 0] rfl) hp
    · have hp := ite_p hp c_11
      refine lv_aload_n hx hb dX12_demand_60 rfl (lv_at hl 0 rfl) ?_
      refine lv_iload hx hb dX12_demand_61 (lv_at hl 4 rfl) ?_
      refine lv_iconst (v := 1) hx hb dX12_demand_63 (by decide) ?_
      obtain ⟨r_25, hc_24, hp⟩ := bn1_s hp
      refine k_ROV (As := [.int x4, .int 1]) (rest := [.int x3]) ⟨hx, hb, hml, hown, hts⟩ hK hP (cw_X12_128 hts ⟨Nat.le_of_ble_eq_true rfl, Nat.le_of_ble_eq_true rfl⟩) 0 (ci := 12) rfl rfl rfl (c_X12_of l D cy qmo mo x4 1 r_25 hc_24) rfl hl.1 (Nat.le_of_ble_eq_true rfl) ⟨Nat.le_refl _, Nat.le_refl _⟩ dX12_demand_64 ?_
      refine lv_bipush (v := 60) hx hb dX12_demand_67 (by decide) ?_
      refine lv_idiv hx hb dX12_demand_69 (by decide) ?_
      refine lv_iload_n hx hb dX12_demand_70 rfl (lv_at hl 1 rfl) ?_
      refine lv_icmp_ne (tgt := 78) hx hb dX12_demand_71 (by decide) (fun c_26 => ?_) (fun c_26 => ?_)
      · have hp := ite_n hp c_26
        refine lv_iconst (v := 0) hx hb dX12_demand_78 (by decide) ?_
        refine lv_goto (tgt := 110) hx hb dX12_demand_79 (by decide) ?_
        refine lv_iadd hx hb dX12_demand_110 ?_
        refine lv_topi (fun x3_27 ex3_27 => ?_)
        have hp := stk_e hp ex3_27
        refine lv_istore_n (lv' := [(3, .int x3_27), (0, .ref (qmo 0)), (1, .int p1), (2, .int p2), (4, .int x4)]) hx hb dX12_demand_111 rfl hl (by decide) rfl (fun ls hl => ?_)
        obtain ⟨x4_28, ex4_28⟩ : ∃ y : Int32, y = x4 + 1 := ⟨_, rfl⟩
        have hp := stk_e hp ex4_28
        refine lv_iinc (v := x4_28) (lv' := [(4, .int x4_28), (3, .int x3_27), (0, .ref (qmo 0)), (1, .int p1), (2, .int p2)]) hx hb dX12_demand_112 hl (k := 4) rfl (by rw [ex4_28]; rfl) (by decide) rfl (fun ls hl => ?_)
        refine lv_goto (tgt := 42) hx hb dX12_demand_115 (by decide) ?_
        exact hk42 x3_27 x4_28 _ (lv_sub hl [2, 3, 4, 1, 0] rfl) hp
      · have hp := ite_p hp c_26
        refine lv_iconst (v := 1) hx hb dX12_demand_74 (by decide) ?_
        refine lv_goto (tgt := 110) hx hb dX12_demand_75 (by decide) ?_
        refine lv_iadd hx hb dX12_demand_110 ?_
        refine lv_topi (fun x3_29 ex3_29 => ?_)
        have hp := stk_e hp ex3_29
        refine lv_istore_n (lv' := [(3, .int x3_29), (0, .ref (qmo 0)), (1, .int p1), (2, .int p2), (4, .int x4)]) hx hb dX12_demand_111 rfl hl (by decide) rfl (fun ls hl => ?_)
        obtain ⟨x4_30, ex4_30⟩ : ∃ y : Int32, y = x4 + 1 := ⟨_, rfl⟩
        have hp := stk_e hp ex4_30
        refine lv_iinc (v := x4_30) (lv' := [(4, .int x4_30), (3, .int x3_29), (0, .ref (qmo 0)), (1, .int p1), (2, .int p2)]) hx hb dX12_demand_112 hl (k := 4) rfl (by rw [ex4_30]; rfl) (by decide) rfl (fun ls hl => ?_)
        refine lv_goto (tgt := 42) hx hb dX12_demand_115 (by decide) ?_
        exact hk42 x3_29 x4_30 _ (lv_sub hl [2, 3, 4, 1, 0] rfl) hp
theorem Mo_demand_b42_w (C0 : cX RX12 cX12_demand (some .int) 5 p s m args meth c) (hK : kN D cy s) {qmo : Nat → Nat} {mo : Mem} {p1 p2 : Int32} {r : Int32} (hP : va_P D vwCl (w_Mo cy qmo mo) s.heap) : ∀ (n : Nat) (x3 x4 : Int32) (ls : Array Slot), lv_has ls 5 [(0, .ref (qmo 0)), (1, .int p1), (2, .int p2), (3, .int x3), (4, .int x4)] → Mo_demand_b42 mo p1 p2 n x3 x4 = some r → W p l e (rmD 2) s m args below meth c s.heap [] 0 0 (qRO below args s r) (F0 m 42 ls []) := by
  intro n
  induction n with
  | zero =>
    intro x3 x4 ls hl hp
    cases hp
  | succ n ih =>
    intro x3 x4 ls hl hp
    exact Mo_demand_b42B_w C0 hK hP  (fun x3 x4 ls hl hp => ih x3 x4 ls hl hp) hl hp
set_option maxHeartbeats 4000000 in
set_option maxRecDepth 100000 in
theorem c_X12_demand (l : Launch) (D : va_G) (cy : Nat → ClassId) (qmo : Nat → Nat) (mo : Mem) (p1 p2 : Int32) (r : Int32) (hp : Mo_demand mo p1 p2 = some r) : RO l yX12_demand cX12_demand 5 (some .int) 2 D cy [.ref (qmo 0), .int p1, .int p2] (w_Mo cy qmo mo) r := by
  refine RO_of RX12 rfl (by decide) (Nat.le_of_ble_eq_true rfl) ?_
  intro p e s m below meth c C0 hK hP ls hl
  obtain ⟨hx, hb, hr, hml, hown, hts, hk⟩ := id C0
  unfold Mo_demand at hp
  have hl : lv_has ls 5 [(0, .ref (qmo 0)), (1, .int p1), (2, .int p2)] := hl
  refine lv_iload_n hx hb dX12_demand_0 rfl (lv_at hl 1 rfl) ?_
  refine lv_iconst (v := 0) hx hb dX12_demand_1 (by decide) ?_
  refine lv_bipush (v := 11) hx hb dX12_demand_2 (by decide) ?_
  obtain ⟨r_2, hc_1, hp⟩ := bn1_s hp
  refine k_ROS (As := [.int p1, .int 0, .int 11]) (rest := []) ⟨hx, hb, hml, hown, hts⟩ hK (show va_P D vwCl [] _ from fun k q h => by simp at h) (cw_X12_45 hts ⟨Nat.le_of_ble_eq_true rfl, Nat.le_of_ble_eq_true rfl⟩) (c_X12_in l D cy p1 0 11 r_2 hc_1) rfl hl.1 (Nat.le_of_ble_eq_true rfl) ⟨Nat.le_refl _, Nat.le_refl _⟩ dX12_demand_4 ?_
  refine lv_if_eq (tgt := 19) hx hb dX12_demand_7 (by decide) (fun c_3 => ?_) (fun c_3 => ?_)
  · have hp := ite_p hp c_3
    refine lv_iconst (v := (-1)) hx hb dX12_demand_19 (by decide) ?_
    exact e_ROi hx hb hr hk dX12_demand_20 (Option.some.inj hp)
  · have hp := ite_n hp c_3
    refine lv_iload_n hx hb dX12_demand_10 rfl (lv_at hl 2 rfl) ?_
    refine lv_iconst (v := 0) hx hb dX12_demand_11 (by decide) ?_
    refine lv_iconst (v := 2) hx hb dX12_demand_12 (by decide) ?_
    obtain ⟨r_5, hc_4, hp⟩ := bn1_s hp
    refine k_ROS (As := [.int p2, .int 0, .int 2]) (rest := []) ⟨hx, hb, hml, hown, hts⟩ hK (show va_P D vwCl [] _ from fun k q h => by simp at h) (cw_X12_45 hts ⟨Nat.le_of_ble_eq_true rfl, Nat.le_of_ble_eq_true rfl⟩) (c_X12_in l D cy p2 0 2 r_5 hc_4) rfl hl.1 (Nat.le_of_ble_eq_true rfl) ⟨Nat.le_refl _, Nat.le_refl _⟩ dX12_demand_13 ?_
    refine lv_if_ne (tgt := 21) hx hb dX12_demand_16 (by decide) (fun c_6 => ?_) (fun c_6 => ?_)
    · have hp := ite_n hp c_6
      refine lv_iload_n hx hb dX12_demand_21 rfl (lv_at hl 2 rfl) ?_
      refine lv_iconst (v := 1) hx hb dX12_demand_22 (by decide) ?_
      refine lv_icmp_ne (tgt := 37) hx hb dX12_demand_23 (by decide) (fun c_7 => ?_) (fun c_7 => ?_)
      · have hp := ite_n hp c_7
        refine lv_iconst (v := 0) hx hb dX12_demand_37 (by decide) ?_
        refine lv_istore_n (lv' := [(3, .int 0), (0, .ref (qmo 0)), (1, .int p1), (2, .int p2)]) hx hb dX12_demand_38 rfl hl (by decide) rfl (fun ls hl => ?_)
        refine lv_iconst (v := 0) hx hb dX12_demand_39 (by decide) ?_
        refine lv_istore (lv' := [(4, .int 0), (3, .int 0), (0, .ref (qmo 0)), (1, .int p1), (2, .int p2)]) hx hb dX12_demand_40 hl (by decide) rfl (fun ls hl => ?_)
        exact Mo_demand_b42_w C0 hK hP  fl 0 0 _ (lv_sub hl [2, 3, 4, 1, 0] rfl) hp
      · have hp := ite_p hp c_7
        refine lv_aload_n hx hb dX12_demand_26 rfl (lv_at hl 0 rfl) ?_
        refine gf_X12_7 hx hb hts hown hK hP 0 rfl rfl dX12_demand_27 ?_
        refine lv_sipush (v := 160) hx hb dX12_demand_30 (by decide) ?_
        refine lv_iload_n hx hb dX12_demand_33 rfl (lv_at hl 1 rfl) ?_
        refine lv_iadd hx hb dX12_demand_34 ?_
        obtain ⟨hi_8, hp⟩ := ckI_s hp
        refine r_ild hx hb hK hP 1 rfl hi_8 dX12_demand_35 ?_
        exact e_ROi hx hb hr hk dX12_demand_36 (Option.some.inj hp)
    · have hp := ite_p hp c_6
      refine lv_iconst (v := (-1)) hx hb dX12_demand_19 (by decide) ?_
      exact e_ROi hx hb hr hk dX12_demand_20 (Option.some.inj hp)
/-! StormSlotsModel.isUnderWay(II)Z -/
def Mo_isUnderWay (mo : Mem) (p1 : Int32) (p2 : Int32) : Option (Int32) :=
  bn1 (Mo_isPlanned mo p1) (fun r_2 => if r_2 = 0 then some 0 else bn1 (Mo_offOf mo p1) (fun r_5 => bn1 (Mo_of mo p1 5) (fun r_7 => if p2 < (r_5 + r_7) then some 0 else bn1 (Mo_of mo p1 4) (fun r_10 => if r_10 ≤ p2 then some 0 else some 1))))
set_option maxHeartbeats 4000000 in
set_option maxRecDepth 100000 in
theorem c_X12_isUnderWay (l : Launch) (D : va_G) (cy : Nat → ClassId) (qmo : Nat → Nat) (mo : Mem) (p1 p2 : Int32) (r : Int32) (hp : Mo_isUnderWay mo p1 p2 = some r) : RO l yX12_isUnderWay cX12_isUnderWay 3 (some .boolean) 2 D cy [.ref (qmo 0), .int p1, .int p2] (w_Mo cy qmo mo) r := by
  refine RO_of RX12 rfl (by decide) (Nat.le_of_ble_eq_true rfl) ?_
  intro p e s m below meth c C0 hK hP ls hl
  obtain ⟨hx, hb, hr, hml, hown, hts, hk⟩ := id C0
  unfold Mo_isUnderWay at hp
  have hl : lv_has ls 3 [(0, .ref (qmo 0)), (1, .int p1), (2, .int p2)] := hl
  refine lv_aload_n hx hb dX12_isUnderWay_0 rfl (lv_at hl 0 rfl) ?_
  refine lv_iload_n hx hb dX12_isUnderWay_1 rfl (lv_at hl 1 rfl) ?_
  obtain ⟨r_2, hc_1, hp⟩ := bn1_s hp
  refine k_ROV (As := [.int p1]) (rest := []) ⟨hx, hb, hml, hown, hts⟩ hK hP (cw_X12_144 hts ⟨Nat.le_of_ble_eq_true rfl, Nat.le_of_ble_eq_true rfl⟩) 0 (ci := 12) rfl rfl rfl (c_X12_isPlanned l D cy qmo mo p1 r_2 hc_1) rfl hl.1 (Nat.le_of_ble_eq_true rfl) ⟨Nat.le_refl _, Nat.le_refl _⟩ dX12_isUnderWay_2 ?_
  refine lv_if_eq (tgt := 38) hx hb dX12_isUnderWay_5 (by decide) (fun c_3 => ?_) (fun c_3 => ?_)
  · have hp := ite_p hp c_3
    refine lv_iconst (v := 0) hx hb dX12_isUnderWay_38 (by decide) ?_
    exact e_ROz hx hb hr hk (Or.inl rfl) dX12_isUnderWay_39 (Option.some.inj hp)
  · have hp := ite_n hp c_3
    refine lv_aload_n hx hb dX12_isUnderWay_8 rfl (lv_at hl 0 rfl) ?_
    refine lv_iload_n hx hb dX12_isUnderWay_9 rfl (lv_at hl 1 rfl) ?_
    obtain ⟨r_5, hc_4, hp⟩ := bn1_s hp
    refine k_ROV (As := [.int p1]) (rest := []) ⟨hx, hb, hml, hown, hts⟩ hK hP (cw_X12_147 hts ⟨Nat.le_of_ble_eq_true rfl, Nat.le_of_ble_eq_true rfl⟩) 0 (ci := 12) rfl rfl rfl (c_X12_offOf l D cy qmo mo p1 r_5 hc_4) rfl hl.1 (Nat.le_of_ble_eq_true rfl) ⟨Nat.le_refl _, Nat.le_refl _⟩ dX12_isUnderWay_10 ?_
    refine lv_aload_n hx hb dX12_isUnderWay_13 rfl (lv_at hl 0 rfl) ?_
    refine lv_iload_n hx hb dX12_isUnderWay_14 rfl (lv_at hl 1 rfl) ?_
    refine lv_iconst (v := 5) hx hb dX12_isUnderWay_15 (by decide) ?_
    obtain ⟨r_7, hc_6, hp⟩ := bn1_s hp
    refine k_ROV (As := [.int p1, .int 5]) (rest := [.int r_5]) ⟨hx, hb, hml, hown, hts⟩ hK hP (cw_X12_128 hts ⟨Nat.le_of_ble_eq_true rfl, Nat.le_of_ble_eq_true rfl⟩) 0 (ci := 12) rfl rfl rfl (c_X12_of l D cy qmo mo p1 5 r_7 hc_6) rfl hl.1 (Nat.le_of_ble_eq_true rfl) ⟨Nat.le_refl _, Nat.le_refl _⟩ dX12_isUnderWay_16 ?_
    refine lv_iadd hx hb dX12_isUnderWay_19 ?_
    refine lv_iload_n hx hb dX12_isUnderWay_20 rfl (lv_at hl 2 rfl) ?_
    refine lv_icmp_gt (tgt := 38) hx hb dX12_isUnderWay_21 (by decide) (fun c_8 => ?_) (fun c_8 => ?_)
    · have hp := ite_p hp c_8
      refine lv_iconst (v := 0) hx hb dX12_isUnderWay_38 (by decide) ?_
      exact e_ROz hx hb hr hk (Or.inl rfl) dX12_isUnderWay_39 (Option.some.inj hp)
    · have hp := ite_n hp c_8
      refine lv_aload_n hx hb dX12_isUnderWay_24 rfl (lv_at hl 0 rfl) ?_
      refine lv_iload_n hx hb dX12_isUnderWay_25 rfl (lv_at hl 1 rfl) ?_
      refine lv_iconst (v := 4) hx hb dX12_isUnderWay_26 (by decide) ?_
      obtain ⟨r_10, hc_9, hp⟩ := bn1_s hp
      refine k_ROV (As := [.int p1, .int 4]) (rest := []) ⟨hx, hb, hml, hown, hts⟩ hK hP (cw_X12_128 hts ⟨Nat.le_of_ble_eq_true rfl, Nat.le_of_ble_eq_true rfl⟩) 0 (ci := 12) rfl rfl rfl (c_X12_of l D cy qmo mo p1 4 r_10 hc_9) rfl hl.1 (Nat.le_of_ble_eq_true rfl) ⟨Nat.le_refl _, Nat.le_refl _⟩ dX12_isUnderWay_27 ?_
      refine lv_iload_n hx hb dX12_isUnderWay_30 rfl (lv_at hl 2 rfl) ?_
      refine lv_icmp_le (tgt := 38) hx hb dX12_isUnderWay_31 (by decide) (fun c_11 => ?_) (fun c_11 => ?_)
      · have hp := ite_p hp c_11
        refine lv_iconst (v := 0) hx hb dX12_isUnderWay_38 (by decide) ?_
        exact e_ROz hx hb hr hk (Or.inl rfl) dX12_isUnderWay_39 (Option.some.inj hp)
      · have hp := ite_n hp c_11
        refine lv_iconst (v := 1) hx hb dX12_isUnderWay_34 (by decide) ?_
        refine lv_goto (tgt := 39) hx hb dX12_isUnderWay_35 (by decide) ?_
        exact e_ROz hx hb hr hk (Or.inr rfl) dX12_isUnderWay_39 (Option.some.inj hp)
/-! StormSlotsModel.crowded(I)I -/
def Mo_crowded_b32B (mo : Mem) (p1 : Int32) (k18 : Int32 → Int32 → Int32 → Option (Int32)) (k32 : Int32 → Int32 → Int32 → Int32 → Int32 → Option (Int32)) (x2 : Int32) (x3 : Int32) (x4 : Int32) (x5 : Int32) (x6 : Int32) : Option (Int32) :=
  ckI 173 1452 (if (mo 0 (173 : Int32).toNatClampNeg) ≤ x6 then if x2 < x5 then stk (x4 + 1) (fun x4_9 => k18 x5 x4 x4_9) else stk (x4 + 1) (fun x4_10 => k18 x2 x3 x4_10) else bn1 (Mo_isUnderWay mo x6 x4) (fun r_12 => if r_12 = 0 then stk (x5 + 0) (fun x5_14 => stk (x6 + 1) (fun x6_15 => k32 x2 x3 x4 x5_14 x6_15)) else stk (x5 + 1) (fun x5_16 => stk (x6 + 1) (fun x6_17 => k32 x2 x3 x4 x5_16 x6_17))))
def Mo_crowded_b32 (mo : Mem) (p1 : Int32) (k18 : Int32 → Int32 → Int32 → Option (Int32)) : Nat → Int32 → Int32 → Int32 → Int32 → Int32 → Option (Int32)
  | 0 => fun _ _ _ _ _ => none
  | n + 1 => Mo_crowded_b32B mo p1 k18 (Mo_crowded_b32 mo p1 k18 n)
def Mo_crowded_b18B (mo : Mem) (p1 : Int32) (k18 : Int32 → Int32 → Int32 → Option (Int32)) (x2 : Int32) (x3 : Int32) (x4 : Int32) : Option (Int32) :=
  if 1200 ≤ x4 then if p1 = 0 then some x2 else some x3 else Mo_crowded_b32 mo p1 k18 fl x2 x3 x4 0 0
def Mo_crowded_b18 (mo : Mem) (p1 : Int32) : Nat → Int32 → Int32 → Int32 → Option (Int32)
  | 0 => fun _ _ _ => none
  | n + 1 => Mo_crowded_b18B mo p1 (Mo_crowded_b18 mo p1 n)
def Mo_crowded (mo : Mem) (p1 : Int32) : Option (Int32) :=
  bn1 (Mo_in p1 0 1) (fun r_2 => if r_2 = 0 then some (-1) else Mo_crowded_b18 mo p1 fl 0 0 0)
set_option maxHeartbeats 4000000 in
set_option maxRecDepth 100000 in
theorem Mo_crowded_b32B_w (C0 : cX RX12 cX12_crowded (some .int) 7 p s m args meth c) (hK : kN D cy s) {qmo : Nat → Nat} {mo : Mem} {p1 : Int32} {r : Int32} (hP : va_P D vwCl (w_Mo cy qmo mo) s.heap) {k18 : Int32 → Int32 → Int32 → Option (Int32)} (hk18 : ∀ (x2 x3 x4 : Int32) (ls : Array Slot), lv_has ls 7 [(0, .ref (qmo 0)), (1, .int p1), (2, .int x2), (3, .int x3), (4, .int x4)] → k18 x2 x3 x4 = some r → W p l e (rmD 3) s m args below meth c s.heap [] 0 0 (qRO below args s r) (F0 m 18 ls [])) {k32 : Int32 → Int32 → Int32 → Int32 → Int32 → Option (Int32)} (hk32 : ∀ (x2 x3 x4 x5 x6 : Int32) (ls : Array Slot), lv_has ls 7 [(0, .ref (qmo 0)), (1, .int p1), (2, .int x2), (3, .int x3), (4, .int x4), (5, .int x5), (6, .int x6)] → k32 x2 x3 x4 x5 x6 = some r → W p l e (rmD 3) s m args below meth c s.heap [] 0 0 (qRO below args s r) (F0 m 32 ls [])) {x2 : Int32} {x3 : Int32} {x4 : Int32} {x5 : Int32} {x6 : Int32} {ls : Array Slot} (hl : lv_has ls 7 [(0, .ref (qmo 0)), (1, .int p1), (2, .int x2), (3, .int x3), (4, .int x4), (5, .int x5), (6, .int x6)]) (hp : Mo_crowded_b32B mo p1 k18 k32 x2 x3 x4 x5 x6 = some r) : W p l e (rmD 3) s m args below meth c s.heap [] 0 0 (qRO below args s r) (F0 m 32 ls []) := by
  obtain ⟨hx, hb, hr, hml, hown, hts, hk⟩ := id C0
  unfold Mo_crowded_b32B at hp
  refine lv_iload hx hb dX12_crowded_32 (lv_at hl 6 rfl) ?_
  refine lv_aload_n hx hb dX12_crowded_34 rfl (lv_at hl 0 rfl) ?_
  refine gf_X12_7 hx hb hts hown hK hP 0 rfl rfl dX12_crowded_35 ?_
  refine lv_sipush (v := 173) hx hb dX12_crowded_38 (by decide) ?_
  obtain ⟨hi_6, hp⟩ := ckI_s hp
  refine r_ild hx hb hK hP 1 rfl hi_6 dX12_crowded_41 ?_
  refine lv_icmp_ge (tgt := 72) hx hb dX12_crowded_42 (by decide) (fun c_7 => ?_) (fun c_7 => ?_)
  · have hp := ite_p hp c_7
    refine lv_iload hx hb dX12_crowded_72 (lv_at hl 5 rfl) ?_
    refine lv_iload_n hx hb dX12_crowded_74 rfl (lv_at hl 2 rfl) ?_
    refine lv_icmp_gt (tgt := 81) hx hb dX12_crowded_75 (by decide) (fun c_8 => ?_) (fun c_8 => ?_)
    · have hp := ite_p hp c_8
      refine lv_iload hx hb dX12_crowded_81 (lv_at hl 5 rfl) ?_
      refine lv_istore_n (lv' := [(2, .int x5), (0, .ref (qmo 0)), (1, .int p1), (3, .int x3), (4, .int x4), (5, .int x5), (6, .int x6)]) hx hb dX12_crowded_83 rfl hl (by decide) rfl (fun ls hl => ?_)
      refine lv_iload hx hb dX12_crowded_84 (lv_at hl 4 rfl) ?_
      refine lv_istore_n (lv' := [(3, .int x4), (2, .int x5), (0, .ref (qmo 0)), (1, .int p1), (4, .int x4), (5, .int x5), (6, .int x6)]) hx hb dX12_crowded_86 rfl hl (by decide) rfl (fun ls hl => ?_)
      obtain ⟨x4_9, ex4_9⟩ : ∃ y : Int32, y = x4 + 1 := ⟨_, rfl⟩
      have hp := stk_e hp ex4_9
      refine lv_iinc (v := x4_9) (lv' := [(4, .int x4_9), (3, .int x4), (2, .int x5), (0, .ref (qmo 0)), (1, .int p1), (5, .int x5), (6, .int x6)]) hx hb dX12_crowded_87 hl (k := 4) rfl (by rw [ex4_9]; rfl) (by decide) rfl (fun ls hl => ?_)
      refine lv_goto (tgt := 18) hx hb dX12_crowded_90 (by decide) ?_
      exact hk18 x5 x4 x4_9 _ (lv_sub hl [3, 4, 2, 1, 0] rfl) hp
    · have hp := ite_n hp c_8
      refine lv_goto (tgt := 87) hx hb dX12_crowded_78 (by decide) ?_
      obtain ⟨x4_10, ex4_10⟩ : ∃ y : Int32, y = x4 + 1 := ⟨_, rfl⟩
      have hp := stk_e hp ex4_10
      refine lv_iinc (v := x4_10) (lv' := [(4, .int x4_10), (0, .ref (qmo 0)), (1, .int p1), (2, .int x2), (3, .int x3), (5, .int x5), (6, .int x6)]) hx hb dX12_crowded_87 hl (k := 4) rfl (by rw [ex4_10]; rfl) (by decide) rfl (fun ls hl => ?_)
      refine lv_goto (tgt := 18) hx hb dX12_crowded_90 (by decide) ?_
      exact hk18 x2 x3 x4_10 _ (lv_sub hl [1, 2, 3, 4, 0] rfl) hp
  · have hp := ite_n hp c_7
    refine lv_iload hx hb dX12_crowded_45 (lv_at hl 5 rfl) ?_
    refine lv_aload_n hx hb dX12_crowded_47 rfl (lv_at hl 0 rfl) ?_
    refine lv_iload hx hb dX12_crowded_48 (lv_at hl 6 rfl) ?_
    refine lv_iload hx hb dX12_crowded_50 (lv_at hl 4 rfl) ?_
    obtain ⟨r_12, hc_11, hp⟩ := bn1_s hp
    refine k_ROV (As := [.int x6, .int x4]) (rest := [.int x5]) ⟨hx, hb, hml, hown, hts⟩ hK hP (cw_X12_298 hts ⟨Nat.le_of_ble_eq_true rfl, Nat.le_of_ble_eq_true rfl⟩) 0 (ci := 12) rfl rfl rfl (c_X12_isUnderWay l D cy qmo mo x6 x4 r_12 hc_11) rfl hl.1 (Nat.le_of_ble_eq_true rfl) ⟨Nat.le_refl _, Nat.le_refl _⟩ dX12_crowded_52 ?_
    refine lv_if_eq (tgt := 62) hx hb dX12_crowded_55 (by decide) (fun c_13 => ?_) (fun c_13 => ?_)
    · have hp := ite_p hp c_13
      refine lv_iconst (v := 0) hx hb dX12_crowded_62 (by decide) ?_
      refine lv_iadd hx hb dX12_crowded_63 ?_
      refine lv_topi (fun x5_14 ex5_14 => ?_)
      have hp := stk_e hp ex5_14
      refine lv_istore (lv' := [(5, .int x5_14), (0, .ref (qmo 0)), (1, .int p1), (2, .int x2), (3, .int x3), (4, .int x4), (6, .int x6)]) hx hb dX12_crowded_64 hl (by decide) rfl (fun ls hl => ?_)
      obtain ⟨x6_15, ex6_15⟩ : ∃ y : Int32, y = x6 + 1 := ⟨_, rfl⟩
      have hp := stk_e hp ex6_15
      refine lv_iinc (v := x6_15) (lv' := [(6, .int x6_15), (5, .int x5_14), (0, .ref (qmo 0)), (1, .int p1), (2, .int x2), (3, .int x3), (4, .int x4)]) hx hb dX12_crowded_66 hl (k := 6) rfl (by rw [ex6_15]; rfl) (by decide) rfl (fun ls hl => ?_)
      refine lv_goto (tgt := 32) hx hb dX12_crowded_69 (by decide) ?_
      exact hk32 x2 x3 x4 x5_14 x6_15 _ (lv_sub hl [2, 3, 4, 5, 6, 1, 0] rfl) hp
    · have hp := ite_n hp c_13
      refine lv_iconst (v := 1) hx hb dX12_crowded_58 (by decide) ?_
      refine lv_goto (tgt := 63) hx hb dX12_crowded_59 (by decide) ?_
      refine lv_iadd hx hb dX12_crowded_63 ?_
      refine lv_topi (fun x5_16 ex5_16 => ?_)
      have hp := stk_e hp ex5_16
      refine lv_istore (lv' := [(5, .int x5_16), (0, .ref (qmo 0)), (1, .int p1), (2, .int x2), (3, .int x3), (4, .int x4), (6, .int x6)]) hx hb dX12_crowded_64 hl (by decide) rfl (fun ls hl => ?_)
      obtain ⟨x6_17, ex6_17⟩ : ∃ y : Int32, y = x6 + 1 := ⟨_, rfl⟩
      have hp := stk_e hp ex6_17
      refine lv_iinc (v := x6_17) (lv' := [(6, .int x6_17), (5, .int x5_16), (0, .ref (qmo 0)), (1, .int p1), (2, .int x2), (3, .int x3), (4, .int x4)]) hx hb dX12_crowded_66 hl (k := 6) rfl (by rw [ex6_17]; rfl) (by decide) rfl (fun ls hl => ?_)
      refine lv_goto (tgt := 32) hx hb dX12_crowded_69 (by decide) ?_
      exact hk32 x2 x3 x4 x5_16 x6_17 _ (lv_sub hl [2, 3, 4, 5, 6, 1, 0] rfl) hp
theorem Mo_crowded_b32_w (C0 : cX RX12 cX12_crowded (some .int) 7 p s m args meth c) (hK : kN D cy s) {qmo : Nat → Nat} {mo : Mem} {p1 : Int32} {r : Int32} (hP : va_P D vwCl (w_Mo cy qmo mo) s.heap) {k18 : Int32 → Int32 → Int32 → Option (Int32)} (hk18 : ∀ (x2 x3 x4 : Int32) (ls : Array Slot), lv_has ls 7 [(0, .ref (qmo 0)), (1, .int p1), (2, .int x2), (3, .int x3), (4, .int x4)] → k18 x2 x3 x4 = some r → W p l e (rmD 3) s m args below meth c s.heap [] 0 0 (qRO below args s r) (F0 m 18 ls [])) : ∀ (n : Nat) (x2 x3 x4 x5 x6 : Int32) (ls : Array Slot), lv_has ls 7 [(0, .ref (qmo 0)), (1, .int p1), (2, .int x2), (3, .int x3), (4, .int x4), (5, .int x5), (6, .int x6)] → Mo_crowded_b32 mo p1 k18 n x2 x3 x4 x5 x6 = some r → W p l e (rmD 3) s m args below meth c s.heap [] 0 0 (qRO below args s r) (F0 m 32 ls []) := by
  intro n
  induction n with
  | zero =>
    intro x2 x3 x4 x5 x6 ls hl hp
    cases hp
  | succ n ih =>
    intro x2 x3 x4 x5 x6 ls hl hp
    exact Mo_crowded_b32B_w C0 hK hP hk18 (fun x2 x3 x4 x5 x6 ls hl hp => ih x2 x3 x4 x5 x6 ls hl hp) hl hp
set_option maxHeartbeats 4000000 in
set_option maxRecDepth 100000 in
theorem Mo_crowded_b18B_w (C0 : cX RX12 cX12_crowded (some .int) 7 p s m args meth c) (hK : kN D cy s) {qmo : Nat → Nat} {mo : Mem} {p1 : Int32} {r : Int32} (hP : va_P D vwCl (w_Mo cy qmo mo) s.heap) {k18 : Int32 → Int32 → Int32 → Option (Int32)} (hk18 : ∀ (x2 x3 x4 : Int32) (ls : Array Slot), lv_has ls 7 [(0, .ref (qmo 0)), (1, .int p1), (2, .int x2), (3, .int x3), (4, .int x4)] → k18 x2 x3 x4 = some r → W p l e (rmD 3) s m args below meth c s.heap [] 0 0 (qRO below args s r) (F0 m 18 ls [])) {x2 : Int32} {x3 : Int32} {x4 : Int32} {ls : Array Slot} (hl : lv_has ls 7 [(0, .ref (qmo 0)), (1, .int p1), (2, .int x2), (3, .int x3), (4, .int x4)]) (hp : Mo_crowded_b18B mo p1 k18 x2 x3 x4 = some r) : W p l e (rmD 3) s m args below meth c s.heap [] 0 0 (qRO below args s r) (F0 m 18 ls []) := by
  obtain ⟨hx, hb, hr, hml, hown, hts, hk⟩ := id C0
  unfold Mo_crowded_b18B at hp
  refine lv_iload hx hb dX12_crowded_18 (lv_at hl 4 rfl) ?_
  refine lv_sipush (v := 1200) hx hb dX12_crowded_20 (by decide) ?_
  refine lv_icmp_ge (tgt := 93) hx hb dX12_crowded_23 (by decide) (fun c_4 => ?_) (fun c_4 => ?_)
  · have hp := ite_p hp c_4
    refine lv_iload_n hx hb dX12_crowded_93 rfl (lv_at hl 1 rfl) ?_
    refine lv_if_ne (tgt := 101) hx hb dX12_crowded_94 (by decide) (fun c_5 => ?_) (fun c_5 => ?_)
    · have hp := ite_n hp c_5
      refine lv_iload_n hx hb dX12_crowded_101 rfl (lv_at hl 3 rfl) ?_
      exact e_ROi hx hb hr hk dX12_crowded_102 (Option.some.inj hp)
    · have hp := ite_p hp c_5
      refine lv_iload_n hx hb dX12_crowded_97 rfl (lv_at hl 2 rfl) ?_
      refine lv_goto (tgt := 102) hx hb dX12_crowded_98 (by decide) ?_
      exact e_ROi hx hb hr hk dX12_crowded_102 (Option.some.inj hp)
  · have hp := ite_n hp c_4
    refine lv_iconst (v := 0) hx hb dX12_crowded_26 (by decide) ?_
    refine lv_istore (lv' := [(5, .int 0), (0, .ref (qmo 0)), (1, .int p1), (2, .int x2), (3, .int x3), (4, .int x4)]) hx hb dX12_crowded_27 hl (by decide) rfl (fun ls hl => ?_)
    refine lv_iconst (v := 0) hx hb dX12_crowded_29 (by decide) ?_
    refine lv_istore (lv' := [(6, .int 0), (5, .int 0), (0, .ref (qmo 0)), (1, .int p1), (2, .int x2), (3, .int x3), (4, .int x4)]) hx hb dX12_crowded_30 hl (by decide) rfl (fun ls hl => ?_)
    exact Mo_crowded_b32_w C0 hK hP hk18 fl x2 x3 x4 0 0 _ (lv_sub hl [2, 3, 4, 5, 6, 1, 0] rfl) hp
theorem Mo_crowded_b18_w (C0 : cX RX12 cX12_crowded (some .int) 7 p s m args meth c) (hK : kN D cy s) {qmo : Nat → Nat} {mo : Mem} {p1 : Int32} {r : Int32} (hP : va_P D vwCl (w_Mo cy qmo mo) s.heap) : ∀ (n : Nat) (x2 x3 x4 : Int32) (ls : Array Slot), lv_has ls 7 [(0, .ref (qmo 0)), (1, .int p1), (2, .int x2), (3, .int x3), (4, .int x4)] → Mo_crowded_b18 mo p1 n x2 x3 x4 = some r → W p l e (rmD 3) s m args below meth c s.heap [] 0 0 (qRO below args s r) (F0 m 18 ls []) := by
  intro n
  induction n with
  | zero =>
    intro x2 x3 x4 ls hl hp
    cases hp
  | succ n ih =>
    intro x2 x3 x4 ls hl hp
    exact Mo_crowded_b18B_w C0 hK hP  (fun x2 x3 x4 ls hl hp => ih x2 x3 x4 ls hl hp) hl hp
set_option maxHeartbeats 4000000 in
set_option maxRecDepth 100000 in
theorem c_X12_crowded (l : Launch) (D : va_G) (cy : Nat → ClassId) (qmo : Nat → Nat) (mo : Mem) (p1 : Int32) (r : Int32) (hp : Mo_crowded mo p1 = some r) : RO l yX12_crowded cX12_crowded 7 (some .int) 3 D cy [.ref (qmo 0), .int p1] (w_Mo cy qmo mo) r := by
  refine RO_of RX12 rfl (by decide) (Nat.le_of_ble_eq_true rfl) ?_
  intro p e s m below meth c C0 hK hP ls hl
  obtain ⟨hx, hb, hr, hml, hown, hts, hk⟩ := id C0
  unfold Mo_crowded at hp
  have hl : lv_has ls 7 [(0, .ref (qmo 0)), (1, .int p1)] := hl
  refine lv_iload_n hx hb dX12_crowded_0 rfl (lv_at hl 1 rfl) ?_
  refine lv_iconst (v := 0) hx hb dX12_crowded_1 (by decide) ?_
  refine lv_iconst (v := 1) hx hb dX12_crowded_2 (by decide) ?_
  obtain ⟨r_2, hc_1, hp⟩ := bn1_s hp
  refine k_ROS (As := [.int p1, .int 0, .int 1]) (rest := []) ⟨hx, hb, hml, hown, hts⟩ hK (show va_P D vwCl [] _ from fun k q h => by simp at h) (cw_X12_45 hts ⟨Nat.le_of_ble_eq_true rfl, Nat.le_of_ble_eq_true rfl⟩) (c_X12_in l D cy p1 0 1 r_2 hc_1) rfl hl.1 (Nat.le_of_ble_eq_true rfl) ⟨Nat.le_refl _, Nat.le_refl _⟩ dX12_crowded_3 ?_
  refine lv_if_ne (tgt := 11) hx hb dX12_crowded_6 (by decide) (fun c_3 => ?_) (fun c_3 => ?_)
  · have hp := ite_n hp c_3
    refine lv_iconst (v := 0) hx hb dX12_crowded_11 (by decide) ?_
    refine lv_istore_n (lv' := [(2, .int 0), (0, .ref (qmo 0)), (1, .int p1)]) hx hb dX12_crowded_12 rfl hl (by decide) rfl (fun ls hl => ?_)
    refine lv_iconst (v := 0) hx hb dX12_crowded_13 (by decide) ?_
    refine lv_istore_n (lv' := [(3, .int 0), (2, .int 0), (0, .ref (qmo 0)), (1, .int p1)]) hx hb dX12_crowded_14 rfl hl (by decide) rfl (fun ls hl => ?_)
    refine lv_iconst (v := 0) hx hb dX12_crowded_15 (by decide) ?_
    refine lv_istore (lv' := [(4, .int 0), (3, .int 0), (2, .int 0), (0, .ref (qmo 0)), (1, .int p1)]) hx hb dX12_crowded_16 hl (by decide) rfl (fun ls hl => ?_)
    exact Mo_crowded_b18_w C0 hK hP  fl 0 0 0 _ (lv_sub hl [3, 4, 2, 1, 0] rfl) hp
  · have hp := ite_p hp c_3
    refine lv_iconst (v := (-1)) hx hb dX12_crowded_9 (by decide) ?_
    exact e_ROi hx hb hr hk dX12_crowded_10 (Option.some.inj hp)
/-! StormSlotsModel.airborne(I)I -/
def Mo_airborne_b13B (mo : Mem) (p1 : Int32) (k13 : Int32 → Int32 → Option (Int32)) (x2 : Int32) (x3 : Int32) : Option (Int32) :=
  ckI 173 1452 (if (mo 0 (173 : Int32).toNatClampNeg) ≤ x3 then some x2 else bn1 (Mo_isUnderWay mo x3 p1) (fun r_7 => if r_7 = 0 then stk (x2 ||| 0) (fun x2_9 => stk (x3 + 1) (fun x3_10 => k13 x2_9 x3_10)) else stk (x2 ||| ((1 : Int32) <<< (x3 &&& 31))) (fun x2_11 => stk (x3 + 1) (fun x3_12 => k13 x2_11 x3_12))))
def Mo_airborne_b13 (mo : Mem) (p1 : Int32) : Nat → Int32 → Int32 → Option (Int32)
  | 0 => fun _ _ => none
  | n + 1 => Mo_airborne_b13B mo p1 (Mo_airborne_b13 mo p1 n)
def Mo_airborne (mo : Mem) (p1 : Int32) : Option (Int32) :=
  bn1 (Mo_isMinute p1) (fun r_2 => if r_2 = 0 then some (-1) else Mo_airborne_b13 mo p1 fl 0 0)
set_option maxHeartbeats 4000000 in
set_option maxRecDepth 100000 in
theorem Mo_airborne_b13B_w (C0 : cX RX12 cX12_airborne (some .int) 4 p s m args meth c) (hK : kN D cy s) {qmo : Nat → Nat} {mo : Mem} {p1 : Int32} {r : Int32} (hP : va_P D vwCl (w_Mo cy qmo mo) s.heap) {k13 : Int32 → Int32 → Option (Int32)} (hk13 : ∀ (x2 x3 : Int32) (ls : Array Slot), lv_has ls 4 [(0, .ref (qmo 0)), (1, .int p1), (2, .int x2), (3, .int x3)] → k13 x2 x3 = some r → W p l e (rmD 3) s m args below meth c s.heap [] 0 0 (qRO below args s r) (F0 m 13 ls [])) {x2 : Int32} {x3 : Int32} {ls : Array Slot} (hl : lv_has ls 4 [(0, .ref (qmo 0)), (1, .int p1), (2, .int x2), (3, .int x3)]) (hp : Mo_airborne_b13B mo p1 k13 x2 x3 = some r) : W p l e (rmD 3) s m args below meth c s.heap [] 0 0 (qRO below args s r) (F0 m 13 ls []) := by
  obtain ⟨hx, hb, hr, hml, hown, hts, hk⟩ := id C0
  unfold Mo_airborne_b13B at hp
  refine lv_iload_n hx hb dX12_airborne_13 rfl (lv_at hl 3 rfl) ?_
  refine lv_aload_n hx hb dX12_airborne_14 rfl (lv_at hl 0 rfl) ?_
  refine gf_X12_7 hx hb hts hown hK hP 0 rfl rfl dX12_airborne_15 ?_
  refine lv_sipush (v := 173) hx hb dX12_airborne_18 (by decide) ?_
  obtain ⟨hi_4, hp⟩ := ckI_s hp
  refine r_ild hx hb hK hP 1 rfl hi_4 dX12_airborne_21 ?_
  refine lv_icmp_ge (tgt := 50) hx hb dX12_airborne_22 (by decide) (fun c_5 => ?_) (fun c_5 => ?_)
  · have hp := ite_p hp c_5
    refine lv_iload_n hx hb dX12_airborne_50 rfl (lv_at hl 2 rfl) ?_
    exact e_ROi hx hb hr hk dX12_airborne_51 (Option.some.inj hp)
  · have hp := ite_n hp c_5
    refine lv_iload_n hx hb dX12_airborne_25 rfl (lv_at hl 2 rfl) ?_
    refine lv_aload_n hx hb dX12_airborne_26 rfl (lv_at hl 0 rfl) ?_
    refine lv_iload_n hx hb dX12_airborne_27 rfl (lv_at hl 3 rfl) ?_
    refine lv_iload_n hx hb dX12_airborne_28 rfl (lv_at hl 1 rfl) ?_
    obtain ⟨r_7, hc_6, hp⟩ := bn1_s hp
    refine k_ROV (As := [.int x3, .int p1]) (rest := [.int x2]) ⟨hx, hb, hml, hown, hts⟩ hK hP (cw_X12_298 hts ⟨Nat.le_of_ble_eq_true rfl, Nat.le_of_ble_eq_true rfl⟩) 0 (ci := 12) rfl rfl rfl (c_X12_isUnderWay l D cy qmo mo x3 p1 r_7 hc_6) rfl hl.1 (Nat.le_of_ble_eq_true rfl) ⟨Nat.le_refl _, Nat.le_refl _⟩ dX12_airborne_29 ?_
    refine lv_if_eq (tgt := 41) hx hb dX12_airborne_32 (by decide) (fun c_8 => ?_) (fun c_8 => ?_)
    · have hp := ite_p hp c_8
      refine lv_iconst (v := 0) hx hb dX12_airborne_41 (by decide) ?_
      refine lv_ior hx hb dX12_airborne_42 ?_
      refine lv_topi (fun x2_9 ex2_9 => ?_)
      have hp := stk_e hp ex2_9
      refine lv_istore_n (lv' := [(2, .int x2_9), (0, .ref (qmo 0)), (1, .int p1), (3, .int x3)]) hx hb dX12_airborne_43 rfl hl (by decide) rfl (fun ls hl => ?_)
      obtain ⟨x3_10, ex3_10⟩ : ∃ y : Int32, y = x3 + 1 := ⟨_, rfl⟩
      have hp := stk_e hp ex3_10
      refine lv_iinc (v := x3_10) (lv' := [(3, .int x3_10), (2, .int x2_9), (0, .ref (qmo 0)), (1, .int p1)]) hx hb dX12_airborne_44 hl (k := 3) rfl (by rw [ex3_10]; rfl) (by decide) rfl (fun ls hl => ?_)
      refine lv_goto (tgt := 13) hx hb dX12_airborne_47 (by decide) ?_
      exact hk13 x2_9 x3_10 _ (lv_sub hl [2, 3, 1, 0] rfl) hp
    · have hp := ite_n hp c_8
      refine lv_iconst (v := 1) hx hb dX12_airborne_35 (by decide) ?_
      refine lv_iload_n hx hb dX12_airborne_36 rfl (lv_at hl 3 rfl) ?_
      refine lv_ishl hx hb dX12_airborne_37 ?_
      refine lv_goto (tgt := 42) hx hb dX12_airborne_38 (by decide) ?_
      refine lv_ior hx hb dX12_airborne_42 ?_
      refine lv_topi (fun x2_11 ex2_11 => ?_)
      have hp := stk_e hp ex2_11
      refine lv_istore_n (lv' := [(2, .int x2_11), (0, .ref (qmo 0)), (1, .int p1), (3, .int x3)]) hx hb dX12_airborne_43 rfl hl (by decide) rfl (fun ls hl => ?_)
      obtain ⟨x3_12, ex3_12⟩ : ∃ y : Int32, y = x3 + 1 := ⟨_, rfl⟩
      have hp := stk_e hp ex3_12
      refine lv_iinc (v := x3_12) (lv' := [(3, .int x3_12), (2, .int x2_11), (0, .ref (qmo 0)), (1, .int p1)]) hx hb dX12_airborne_44 hl (k := 3) rfl (by rw [ex3_12]; rfl) (by decide) rfl (fun ls hl => ?_)
      refine lv_goto (tgt := 13) hx hb dX12_airborne_47 (by decide) ?_
      exact hk13 x2_11 x3_12 _ (lv_sub hl [2, 3, 1, 0] rfl) hp
theorem Mo_airborne_b13_w (C0 : cX RX12 cX12_airborne (some .int) 4 p s m args meth c) (hK : kN D cy s) {qmo : Nat → Nat} {mo : Mem} {p1 : Int32} {r : Int32} (hP : va_P D vwCl (w_Mo cy qmo mo) s.heap) : ∀ (n : Nat) (x2 x3 : Int32) (ls : Array Slot), lv_has ls 4 [(0, .ref (qmo 0)), (1, .int p1), (2, .int x2), (3, .int x3)] → Mo_airborne_b13 mo p1 n x2 x3 = some r → W p l e (rmD 3) s m args below meth c s.heap [] 0 0 (qRO below args s r) (F0 m 13 ls []) := by
  intro n
  induction n with
  | zero =>
    intro x2 x3 ls hl hp
    cases hp
  | succ n ih =>
    intro x2 x3 ls hl hp
    exact Mo_airborne_b13B_w C0 hK hP  (fun x2 x3 ls hl hp => ih x2 x3 ls hl hp) hl hp
set_option maxHeartbeats 4000000 in
set_option maxRecDepth 100000 in
theorem c_X12_airborne (l : Launch) (D : va_G) (cy : Nat → ClassId) (qmo : Nat → Nat) (mo : Mem) (p1 : Int32) (r : Int32) (hp : Mo_airborne mo p1 = some r) : RO l yX12_airborne cX12_airborne 4 (some .int) 3 D cy [.ref (qmo 0), .int p1] (w_Mo cy qmo mo) r := by
  refine RO_of RX12 rfl (by decide) (Nat.le_of_ble_eq_true rfl) ?_
  intro p e s m below meth c C0 hK hP ls hl
  obtain ⟨hx, hb, hr, hml, hown, hts, hk⟩ := id C0
  unfold Mo_airborne at hp
  have hl : lv_has ls 4 [(0, .ref (qmo 0)), (1, .int p1)] := hl
  refine lv_iload_n hx hb dX12_airborne_0 rfl (lv_at hl 1 rfl) ?_
  obtain ⟨r_2, hc_1, hp⟩ := bn1_s hp
  refine k_ROS (As := [.int p1]) (rest := []) ⟨hx, hb, hml, hown, hts⟩ hK (show va_P D vwCl [] _ from fun k q h => by simp at h) (cw_X12_162 hts ⟨Nat.le_of_ble_eq_true rfl, Nat.le_of_ble_eq_true rfl⟩) (c_X12_isMinute l D cy p1 r_2 hc_1) rfl hl.1 (Nat.le_of_ble_eq_true rfl) ⟨Nat.le_refl _, Nat.le_refl _⟩ dX12_airborne_1 ?_
  refine lv_if_ne (tgt := 9) hx hb dX12_airborne_4 (by decide) (fun c_3 => ?_) (fun c_3 => ?_)
  · have hp := ite_n hp c_3
    refine lv_iconst (v := 0) hx hb dX12_airborne_9 (by decide) ?_
    refine lv_istore_n (lv' := [(2, .int 0), (0, .ref (qmo 0)), (1, .int p1)]) hx hb dX12_airborne_10 rfl hl (by decide) rfl (fun ls hl => ?_)
    refine lv_iconst (v := 0) hx hb dX12_airborne_11 (by decide) ?_
    refine lv_istore_n (lv' := [(3, .int 0), (2, .int 0), (0, .ref (qmo 0)), (1, .int p1)]) hx hb dX12_airborne_12 rfl hl (by decide) rfl (fun ls hl => ?_)
    exact Mo_airborne_b13_w C0 hK hP  fl 0 0 _ (lv_sub hl [2, 3, 1, 0] rfl) hp
  · have hp := ite_p hp c_3
    refine lv_iconst (v := (-1)) hx hb dX12_airborne_7 (by decide) ?_
    exact e_ROi hx hb hr hk dX12_airborne_8 (Option.some.inj hp)
/-! StormSlotsModel.next(I)I -/
def Mo_next_b13B (mo : Mem) (p1 : Int32) (k13 : Int32 → Int32 → Option (Int32)) (x2 : Int32) (x3 : Int32) : Option (Int32) :=
  ckI 173 1452 (if (mo 0 (173 : Int32).toNatClampNeg) ≤ x3 then if x2 = (-1) then some (-2) else some x2 else bn1 (Mo_isPlanned mo x3) (fun r_8 => if r_8 = 0 then stk (x3 + 1) (fun x3_10 => k13 x2 x3_10) else bn1 (Mo_of mo x3 4) (fun r_12 => if r_12 < p1 then stk (x3 + 1) (fun x3_14 => k13 x2 x3_14) else if x2 = (-1) then stk (x3 + 1) (fun x3_16 => k13 x3 x3_16) else bn1 (Mo_of mo x3 4) (fun r_18 => bn1 (Mo_of mo x2 4) (fun r_20 => if r_20 ≤ r_18 then stk (x3 + 1) (fun x3_22 => k13 x2 x3_22) else stk (x3 + 1) (fun x3_23 => k13 x3 x3_23))))))
def Mo_next_b13 (mo : Mem) (p1 : Int32) : Nat → Int32 → Int32 → Option (Int32)
  | 0 => fun _ _ => none
  | n + 1 => Mo_next_b13B mo p1 (Mo_next_b13 mo p1 n)
def Mo_next (mo : Mem) (p1 : Int32) : Option (Int32) :=
  bn1 (Mo_isMinute p1) (fun r_2 => if r_2 = 0 then some (-1) else Mo_next_b13 mo p1 fl (-1) 0)
set_option maxHeartbeats 4000000 in
set_option maxRecDepth 100000 in
theorem Mo_next_b13B_w (C0 : cX RX12 cX12_next (some .int) 4 p s m args meth c) (hK : kN D cy s) {qmo : Nat → Nat} {mo : Mem} {p1 : Int32} {r : Int32} (hP : va_P D vwCl (w_Mo cy qmo mo) s.heap) {k13 : Int32 → Int32 → Option (Int32)} (hk13 : ∀ (x2 x3 : Int32) (ls : Array Slot), lv_has ls 4 [(0, .ref (qmo 0)), (1, .int p1), (2, .int x2), (3, .int x3)] → k13 x2 x3 = some r → W p l e (rmD 2) s m args below meth c s.heap [] 0 0 (qRO below args s r) (F0 m 13 ls [])) {x2 : Int32} {x3 : Int32} {ls : Array Slot} (hl : lv_has ls 4 [(0, .ref (qmo 0)), (1, .int p1), (2, .int x2), (3, .int x3)]) (hp : Mo_next_b13B mo p1 k13 x2 x3 = some r) : W p l e (rmD 2) s m args below meth c s.heap [] 0 0 (qRO below args s r) (F0 m 13 ls []) := by
  obtain ⟨hx, hb, hr, hml, hown, hts, hk⟩ := id C0
  unfold Mo_next_b13B at hp
  refine lv_iload_n hx hb dX12_next_13 rfl (lv_at hl 3 rfl) ?_
  refine lv_aload_n hx hb dX12_next_14 rfl (lv_at hl 0 rfl) ?_
  refine gf_X12_7 hx hb hts hown hK hP 0 rfl rfl dX12_next_15 ?_
  refine lv_sipush (v := 173) hx hb dX12_next_18 (by decide) ?_
  obtain ⟨hi_4, hp⟩ := ckI_s hp
  refine r_ild hx hb hK hP 1 rfl hi_4 dX12_next_21 ?_
  refine lv_icmp_ge (tgt := 71) hx hb dX12_next_22 (by decide) (fun c_5 => ?_) (fun c_5 => ?_)
  · have hp := ite_p hp c_5
    refine lv_iload_n hx hb dX12_next_71 rfl (lv_at hl 2 rfl) ?_
    refine lv_iconst (v := (-1)) hx hb dX12_next_72 (by decide) ?_
    refine lv_icmp_ne (tgt := 81) hx hb dX12_next_73 (by decide) (fun c_6 => ?_) (fun c_6 => ?_)
    · have hp := ite_n hp c_6
      refine lv_iload_n hx hb dX12_next_81 rfl (lv_at hl 2 rfl) ?_
      exact e_ROi hx hb hr hk dX12_next_82 (Option.some.inj hp)
    · have hp := ite_p hp c_6
      refine lv_bipush (v := (-2)) hx hb dX12_next_76 (by decide) ?_
      refine lv_goto (tgt := 82) hx hb dX12_next_78 (by decide) ?_
      exact e_ROi hx hb hr hk dX12_next_82 (Option.some.inj hp)
  · have hp := ite_n hp c_5
    refine lv_aload_n hx hb dX12_next_25 rfl (lv_at hl 0 rfl) ?_
    refine lv_iload_n hx hb dX12_next_26 rfl (lv_at hl 3 rfl) ?_
    obtain ⟨r_8, hc_7, hp⟩ := bn1_s hp
    refine k_ROV (As := [.int x3]) (rest := []) ⟨hx, hb, hml, hown, hts⟩ hK hP (cw_X12_144 hts ⟨Nat.le_of_ble_eq_true rfl, Nat.le_of_ble_eq_true rfl⟩) 0 (ci := 12) rfl rfl rfl (c_X12_isPlanned l D cy qmo mo x3 r_8 hc_7) rfl hl.1 (Nat.le_of_ble_eq_true rfl) ⟨Nat.le_refl _, Nat.le_refl _⟩ dX12_next_27 ?_
    refine lv_if_eq (tgt := 65) hx hb dX12_next_30 (by decide) (fun c_9 => ?_) (fun c_9 => ?_)
    · have hp := ite_p hp c_9
      obtain ⟨x3_10, ex3_10⟩ : ∃ y : Int32, y = x3 + 1 := ⟨_, rfl⟩
      have hp := stk_e hp ex3_10
      refine lv_iinc (v := x3_10) (lv' := [(3, .int x3_10), (0, .ref (qmo 0)), (1, .int p1), (2, .int x2)]) hx hb dX12_next_65 hl (k := 3) rfl (by rw [ex3_10]; rfl) (by decide) rfl (fun ls hl => ?_)
      refine lv_goto (tgt := 13) hx hb dX12_next_68 (by decide) ?_
      exact hk13 x2 x3_10 _ (lv_sub hl [1, 2, 3, 0] rfl) hp
    · have hp := ite_n hp c_9
      refine lv_aload_n hx hb dX12_next_33 rfl (lv_at hl 0 rfl) ?_
      refine lv_iload_n hx hb dX12_next_34 rfl (lv_at hl 3 rfl) ?_
      refine lv_iconst (v := 4) hx hb dX12_next_35 (by decide) ?_
      obtain ⟨r_12, hc_11, hp⟩ := bn1_s hp
      refine k_ROV (As := [.int x3, .int 4]) (rest := []) ⟨hx, hb, hml, hown, hts⟩ hK hP (cw_X12_128 hts ⟨Nat.le_of_ble_eq_true rfl, Nat.le_of_ble_eq_true rfl⟩) 0 (ci := 12) rfl rfl rfl (c_X12_of l D cy qmo mo x3 4 r_12 hc_11) rfl hl.1 (Nat.le_of_ble_eq_true rfl) ⟨Nat.le_refl _, Nat.le_refl _⟩ dX12_next_36 ?_
      refine lv_iload_n hx hb dX12_next_39 rfl (lv_at hl 1 rfl) ?_
      refine lv_icmp_lt (tgt := 65) hx hb dX12_next_40 (by decide) (fun c_13 => ?_) (fun c_13 => ?_)
      · have hp := ite_p hp c_13
        obtain ⟨x3_14, ex3_14⟩ : ∃ y : Int32, y = x3 + 1 := ⟨_, rfl⟩
        have hp := stk_e hp ex3_14
        refine lv_iinc (v := x3_14) (lv' := [(3, .int x3_14), (0, .ref (qmo 0)), (1, .int p1), (2, .int x2)]) hx hb dX12_next_65 hl (k := 3) rfl (by rw [ex3_14]; rfl) (by decide) rfl (fun ls hl => ?_)
        refine lv_goto (tgt := 13) hx hb dX12_next_68 (by decide) ?_
        exact hk13 x2 x3_14 _ (lv_sub hl [1, 2, 3, 0] rfl) hp
      · have hp := ite_n hp c_13
        refine lv_iload_n hx hb dX12_next_43 rfl (lv_at hl 2 rfl) ?_
        refine lv_iconst (v := (-1)) hx hb dX12_next_44 (by decide) ?_
        refine lv_icmp_eq (tgt := 63) hx hb dX12_next_45 (by decide) (fun c_15 => ?_) (fun c_15 => ?_)
        · have hp := ite_p hp c_15
          refine lv_iload_n hx hb dX12_next_63 rfl (lv_at hl 3 rfl) ?_
          refine lv_istore_n (lv' := [(2, .int x3), (0, .ref (qmo 0)), (1, .int p1), (3, .int x3)]) hx hb dX12_next_64 rfl hl (by decide) rfl (fun ls hl => ?_)
          obtain ⟨x3_16, ex3_16⟩ : ∃ y : Int32, y = x3 + 1 := ⟨_, rfl⟩
          have hp := stk_e hp ex3_16
          refine lv_iinc (v := x3_16) (lv' := [(3, .int x3_16), (2, .int x3), (0, .ref (qmo 0)), (1, .int p1)]) hx hb dX12_next_65 hl (k := 3) rfl (by rw [ex3_16]; rfl) (by decide) rfl (fun ls hl => ?_)
          refine lv_goto (tgt := 13) hx hb dX12_next_68 (by decide) ?_
          exact hk13 x3 x3_16 _ (lv_sub hl [2, 3, 1, 0] rfl) hp
        · have hp := ite_n hp c_15
          refine lv_aload_n hx hb dX12_next_48 rfl (lv_at hl 0 rfl) ?_
          refine lv_iload_n hx hb dX12_next_49 rfl (lv_at hl 3 rfl) ?_
          refine lv_iconst (v := 4) hx hb dX12_next_50 (by decide) ?_
          obtain ⟨r_18, hc_17, hp⟩ := bn1_s hp
          refine k_ROV (As := [.int x3, .int 4]) (rest := []) ⟨hx, hb, hml, hown, hts⟩ hK hP (cw_X12_128 hts ⟨Nat.le_of_ble_eq_true rfl, Nat.le_of_ble_eq_true rfl⟩) 0 (ci := 12) rfl rfl rfl (c_X12_of l D cy qmo mo x3 4 r_18 hc_17) rfl hl.1 (Nat.le_of_ble_eq_true rfl) ⟨Nat.le_refl _, Nat.le_refl _⟩ dX12_next_51 ?_
          refine lv_aload_n hx hb dX12_next_54 rfl (lv_at hl 0 rfl) ?_
          refine lv_iload_n hx hb dX12_next_55 rfl (lv_at hl 2 rfl) ?_
          refine lv_iconst (v := 4) hx hb dX12_next_56 (by decide) ?_
          obtain ⟨r_20, hc_19, hp⟩ := bn1_s hp
          refine k_ROV (As := [.int x2, .int 4]) (rest := [.int r_18]) ⟨hx, hb, hml, hown, hts⟩ hK hP (cw_X12_128 hts ⟨Nat.le_of_ble_eq_true rfl, Nat.le_of_ble_eq_true rfl⟩) 0 (ci := 12) rfl rfl rfl (c_X12_of l D cy qmo mo x2 4 r_20 hc_19) rfl hl.1 (Nat.le_of_ble_eq_true rfl) ⟨Nat.le_refl _, Nat.le_refl _⟩ dX12_next_57 ?_
          refine lv_icmp_ge (tgt := 65) hx hb dX12_next_60 (by decide) (fun c_21 => ?_) (fun c_21 => ?_)
          · have hp := ite_p hp c_21
            obtain ⟨x3_22, ex3_22⟩ : ∃ y : Int32, y = x3 + 1 := ⟨_, rfl⟩
            have hp := stk_e hp ex3_22
            refine lv_iinc (v := x3_22) (lv' := [(3, .int x3_22), (0, .ref (qmo 0)), (1, .int p1), (2, .int x2)]) hx hb dX12_next_65 hl (k := 3) rfl (by rw [ex3_22]; rfl) (by decide) rfl (fun ls hl => ?_)
            refine lv_goto (tgt := 13) hx hb dX12_next_68 (by decide) ?_
            exact hk13 x2 x3_22 _ (lv_sub hl [1, 2, 3, 0] rfl) hp
          · have hp := ite_n hp c_21
            refine lv_iload_n hx hb dX12_next_63 rfl (lv_at hl 3 rfl) ?_
            refine lv_istore_n (lv' := [(2, .int x3), (0, .ref (qmo 0)), (1, .int p1), (3, .int x3)]) hx hb dX12_next_64 rfl hl (by decide) rfl (fun ls hl => ?_)
            obtain ⟨x3_23, ex3_23⟩ : ∃ y : Int32, y = x3 + 1 := ⟨_, rfl⟩
            have hp := stk_e hp ex3_23
            refine lv_iinc (v := x3_23) (lv' := [(3, .int x3_23), (2, .int x3), (0, .ref (qmo 0)), (1, .int p1)]) hx hb dX12_next_65 hl (k := 3) rfl (by rw [ex3_23]; rfl) (by decide) rfl (fun ls hl => ?_)
            refine lv_goto (tgt := 13) hx hb dX12_next_68 (by decide) ?_
            exact hk13 x3 x3_23 _ (lv_sub hl [2, 3, 1, 0] rfl) hp
theorem Mo_next_b13_w (C0 : cX RX12 cX12_next (some .int) 4 p s m args meth c) (hK : kN D cy s) {qmo : Nat → Nat} {mo : Mem} {p1 : Int32} {r : Int32} (hP : va_P D vwCl (w_Mo cy qmo mo) s.heap) : ∀ (n : Nat) (x2 x3 : Int32) (ls : Array Slot), lv_has ls 4 [(0, .ref (qmo 0)), (1, .int p1), (2, .int x2), (3, .int x3)] → Mo_next_b13 mo p1 n x2 x3 = some r → W p l e (rmD 2) s m args below meth c s.heap [] 0 0 (qRO below args s r) (F0 m 13 ls []) := by
  intro n
  induction n with
  | zero =>
    intro x2 x3 ls hl hp
    cases hp
  | succ n ih =>
    intro x2 x3 ls hl hp
    exact Mo_next_b13B_w C0 hK hP  (fun x2 x3 ls hl hp => ih x2 x3 ls hl hp) hl hp
set_option maxHeartbeats 4000000 in
set_option maxRecDepth 100000 in
theorem c_X12_next (l : Launch) (D : va_G) (cy : Nat → ClassId) (qmo : Nat → Nat) (mo : Mem) (p1 : Int32) (r : Int32) (hp : Mo_next mo p1 = some r) : RO l yX12_next cX12_next 4 (some .int) 2 D cy [.ref (qmo 0), .int p1] (w_Mo cy qmo mo) r := by
  refine RO_of RX12 rfl (by decide) (Nat.le_of_ble_eq_true rfl) ?_
  intro p e s m below meth c C0 hK hP ls hl
  obtain ⟨hx, hb, hr, hml, hown, hts, hk⟩ := id C0
  unfold Mo_next at hp
  have hl : lv_has ls 4 [(0, .ref (qmo 0)), (1, .int p1)] := hl
  refine lv_iload_n hx hb dX12_next_0 rfl (lv_at hl 1 rfl) ?_
  obtain ⟨r_2, hc_1, hp⟩ := bn1_s hp
  refine k_ROS (As := [.int p1]) (rest := []) ⟨hx, hb, hml, hown, hts⟩ hK (show va_P D vwCl [] _ from fun k q h => by simp at h) (cw_X12_162 hts ⟨Nat.le_of_ble_eq_true rfl, Nat.le_of_ble_eq_true rfl⟩) (c_X12_isMinute l D cy p1 r_2 hc_1) rfl hl.1 (Nat.le_of_ble_eq_true rfl) ⟨Nat.le_refl _, Nat.le_refl _⟩ dX12_next_1 ?_
  refine lv_if_ne (tgt := 9) hx hb dX12_next_4 (by decide) (fun c_3 => ?_) (fun c_3 => ?_)
  · have hp := ite_n hp c_3
    refine lv_iconst (v := (-1)) hx hb dX12_next_9 (by decide) ?_
    refine lv_istore_n (lv' := [(2, .int (-1)), (0, .ref (qmo 0)), (1, .int p1)]) hx hb dX12_next_10 rfl hl (by decide) rfl (fun ls hl => ?_)
    refine lv_iconst (v := 0) hx hb dX12_next_11 (by decide) ?_
    refine lv_istore_n (lv' := [(3, .int 0), (2, .int (-1)), (0, .ref (qmo 0)), (1, .int p1)]) hx hb dX12_next_12 rfl hl (by decide) rfl (fun ls hl => ?_)
    exact Mo_next_b13_w C0 hK hP  fl (-1) 0 _ (lv_sub hl [2, 3, 1, 0] rfl) hp
  · have hp := ite_p hp c_3
    refine lv_iconst (v := (-1)) hx hb dX12_next_7 (by decide) ?_
    exact e_ROi hx hb hr hk dX12_next_8 (Option.some.inj hp)
/-! StormSlotsModel.rates(III)V -/
def Mo_rates_b3B (p1 : Int32) (p2 : Int32) (p3 : Int32) (k3 : Mem → Int32 → Option (Mem)) (mo : Mem) (x4 : Int32) : Option (Mem) :=
  if p2 < x4 then some mo else ckI (160 + x4) 1452 (stk (upm mo 0 (160 + x4).toNatClampNeg p3) (fun mo_3 => stk (x4 + 1) (fun x4_4 => k3 mo_3 x4_4)))
def Mo_rates_b3 (p1 : Int32) (p2 : Int32) (p3 : Int32) : Nat → Mem → Int32 → Option (Mem)
  | 0 => fun _ _ => none
  | n + 1 => Mo_rates_b3B p1 p2 p3 (Mo_rates_b3 p1 p2 p3 n)
def Mo_rates (mo : Mem) (p1 : Int32) (p2 : Int32) (p3 : Int32) : Option (Mem) :=
  Mo_rates_b3 p1 p2 p3 fl mo p1
set_option maxHeartbeats 4000000 in
set_option maxRecDepth 100000 in
theorem Mo_rates_b3B_w (C0 : cX RX12 cX12_rates none 5 p s m args meth c) (hK : kN D cy s) {qmo : Nat → Nat} {p1 p2 p3 : Int32} {mo' : Mem} (hA : ∀ q, s.heap.size ≤ q → A q) {k3 : Mem → Int32 → Option (Mem)} (hk3 : ∀ (mo : Mem) (x4 : Int32) (H : Heap) (locs : List Loc) (ls : Array Slot), va_P D vwCl (w_Mo cy qmo mo) H → va_D A (w_Mo cy qmo mo) → va_S A s.heap H locs → lv_has ls 5 [(0, .ref (qmo 0)), (1, .int p1), (2, .int p2), (3, .int p3), (4, .int x4)] → k3 mo x4 = some mo' → W p l e (rmD 0) s m args below meth c H locs 0 0 (qRV D below args s A (w_Mo cy qmo mo')) (F0 m 3 ls [])) {mo : Mem} {x4 : Int32} {H : Heap} {locs : List Loc} (hP : va_P D vwCl (w_Mo cy qmo mo) H) (hD : va_D A (w_Mo cy qmo mo)) (hS : va_S A s.heap H locs) {ls : Array Slot} (hl : lv_has ls 5 [(0, .ref (qmo 0)), (1, .int p1), (2, .int p2), (3, .int p3), (4, .int x4)]) (hp : Mo_rates_b3B p1 p2 p3 k3 mo x4 = some mo') : W p l e (rmD 0) s m args below meth c H locs 0 0 (qRV D below args s A (w_Mo cy qmo mo')) (F0 m 3 ls []) := by
  obtain ⟨hx, hb, hr, hml, hown, hts, hk⟩ := id C0
  unfold Mo_rates_b3B at hp
  refine lv_iload hx hb dX12_rates_3 (lv_at hl 4 rfl) ?_
  refine lv_iload_n hx hb dX12_rates_5 rfl (lv_at hl 2 rfl) ?_
  refine lv_icmp_gt (tgt := 27) hx hb dX12_rates_6 (by decide) (fun c_1 => ?_) (fun c_1 => ?_)
  · have hp := ite_p hp c_1
    simp only [Option.some.injEq, Prod.mk.injEq] at hp
    subst hp
    exact e_RV hx hb hr hk hP hD hS dX12_rates_27
  · have hp := ite_n hp c_1
    refine lv_aload_n hx hb dX12_rates_9 rfl (lv_at hl 0 rfl) ?_
    refine gf_X12_7 hx hb hts hown hK hP 0 rfl rfl dX12_rates_10 ?_
    refine lv_sipush (v := 160) hx hb dX12_rates_13 (by decide) ?_
    refine lv_iload hx hb dX12_rates_16 (lv_at hl 4 rfl) ?_
    refine lv_iadd hx hb dX12_rates_18 ?_
    refine lv_iload_n hx hb dX12_rates_19 rfl (lv_at hl 3 rfl) ?_
    obtain ⟨hi_2, hp⟩ := ckI_s hp
    obtain ⟨mo_3, emo_3⟩ : ∃ y : Mem, y = upm mo 0 (160 + x4).toNatClampNeg p3 := ⟨_, rfl⟩
    have hp := stk_e hp emo_3
    refine r_ist hx hb hK hP hD hS (wn := (w_Mo cy qmo mo_3)) 1 rfl hi_2 (by subst emo_3; rfl) dX12_rates_20 (fun H locs hP hD hS => ?_)
    obtain ⟨x4_4, ex4_4⟩ : ∃ y : Int32, y = x4 + 1 := ⟨_, rfl⟩
    have hp := stk_e hp ex4_4
    refine lv_iinc (v := x4_4) (lv' := [(4, .int x4_4), (0, .ref (qmo 0)), (1, .int p1), (2, .int p2), (3, .int p3)]) hx hb dX12_rates_21 hl (k := 4) rfl (by rw [ex4_4]; rfl) (by decide) rfl (fun ls hl => ?_)
    refine lv_goto (tgt := 3) hx hb dX12_rates_24 (by decide) ?_
    exact hk3 mo_3 x4_4 _ _ _ hP hD hS (lv_sub hl [1, 2, 3, 4, 0] rfl) hp
theorem Mo_rates_b3_w (C0 : cX RX12 cX12_rates none 5 p s m args meth c) (hK : kN D cy s) {qmo : Nat → Nat} {p1 p2 p3 : Int32} {mo' : Mem} (hA : ∀ q, s.heap.size ≤ q → A q) : ∀ (n : Nat) (mo : Mem) (x4 : Int32) (H : Heap) (locs : List Loc) (ls : Array Slot), va_P D vwCl (w_Mo cy qmo mo) H → va_D A (w_Mo cy qmo mo) → va_S A s.heap H locs → lv_has ls 5 [(0, .ref (qmo 0)), (1, .int p1), (2, .int p2), (3, .int p3), (4, .int x4)] → Mo_rates_b3 p1 p2 p3 n mo x4 = some mo' → W p l e (rmD 0) s m args below meth c H locs 0 0 (qRV D below args s A (w_Mo cy qmo mo')) (F0 m 3 ls []) := by
  intro n
  induction n with
  | zero =>
    intro mo x4 H locs ls hP hD hS hl hp
    cases hp
  | succ n ih =>
    intro mo x4 H locs ls hP hD hS hl hp
    exact Mo_rates_b3B_w C0 hK hA  (fun mo x4 H locs ls hP hD hS hl hp => ih mo x4 H locs ls hP hD hS hl hp) hP hD hS hl hp
set_option maxHeartbeats 4000000 in
set_option maxRecDepth 100000 in
theorem c_X12_rates (l : Launch) (D : va_G) (cy : Nat → ClassId) (qmo : Nat → Nat) (mo : Mem) (p1 p2 p3 : Int32) (mo' : Mem) (hp : Mo_rates mo p1 p2 p3 = some mo') : RV l yX12_rates cX12_rates 5 0 D cy [.ref (qmo 0), .int p1, .int p2, .int p3] (w_Mo cy qmo mo) (w_Mo cy qmo mo') := by
  refine RV_of RX12 rfl (by decide) (Nat.le_of_ble_eq_true rfl) ?_
  intro p e s m below meth c A C0 hK hP hD hS hA ls hl
  obtain ⟨hx, hb, hr, hml, hown, hts, hk⟩ := id C0
  unfold Mo_rates at hp
  have hl : lv_has ls 5 [(0, .ref (qmo 0)), (1, .int p1), (2, .int p2), (3, .int p3)] := hl
  refine lv_iload_n hx hb dX12_rates_0 rfl (lv_at hl 1 rfl) ?_
  refine lv_istore (lv' := [(4, .int p1), (0, .ref (qmo 0)), (1, .int p1), (2, .int p2), (3, .int p3)]) hx hb dX12_rates_1 hl (by decide) rfl (fun ls hl => ?_)
  exact Mo_rates_b3_w C0 hK hA  fl mo p1 _ _ _ hP hD hS (lv_sub hl [1, 2, 3, 4, 0] rfl) hp
/-! StormSlotsModel.would(IIII)I -/
def Mo_would_b94 (p1 : Int32) (p2 : Int32) (p3 : Int32) (p4 : Int32) (mo : Mem) (y0 : Int32) : Option (Int32 × Mem) :=
  bn1 (Mo_takes mo 8) (fun mo_27 => some (y0, mo_27))
def Mo_would (mo : Mem) (p1 : Int32) (p2 : Int32) (p3 : Int32) (p4 : Int32) : Option (Int32 × Mem) :=
  bn1 (Mo_in p1 0 12) (fun r_2 => if r_2 = 0 then some ((-1), mo) else bn1 (Mo_areHours p2 p3) (fun r_5 => if r_5 = 0 then some ((-1), mo) else bn1 (Mo_in p4 0 2) (fun r_8 => if r_8 = 0 then some ((-1), mo) else ckI 173 1452 (if (mo 0 (173 : Int32).toNatClampNeg) = 0 then some ((-2), mo) else bn1 (Mo_lays mo 8) (fun mo_13 => bn1 (Mo_rates mo_13 p2 p3 p1) (fun mo_15 => bn1 (Mo_plansBy mo_15 0) (fun mo_17 => if p4 = 0 then bn1 (Mo_allOf mo_17 5) (fun r_25 => Mo_would_b94 p1 p2 p3 p4 mo_17 r_25) else if p4 = 1 then bn1 (Mo_allOf mo_17 6) (fun r_23 => Mo_would_b94 p1 p2 p3 p4 mo_17 r_23) else bn1 (Mo_lastSlot mo_17) (fun r_21 => Mo_would_b94 p1 p2 p3 p4 mo_17 r_21))))))))
set_option maxHeartbeats 4000000 in
set_option maxRecDepth 100000 in
theorem Mo_would_b94_w (C0 : cX RX12 cX12_would (some .int) 6 p s m args meth c) (hK : kN D cy s) {qmo : Nat → Nat} {p1 p2 p3 p4 : Int32} {r : Int32} {mo' : Mem} (hA : ∀ q, s.heap.size ≤ q → A q) {mo : Mem} {y0 : Int32} {H : Heap} {locs : List Loc} (hP : va_P D vwCl (w_Mo cy qmo mo) H) (hD : va_D A (w_Mo cy qmo mo)) (hS : va_S A s.heap H locs) {ls : Array Slot} (hl : lv_has ls 6 [(0, .ref (qmo 0)), (1, .int p1), (2, .int p2), (3, .int p3), (4, .int p4)]) (hp : Mo_would_b94 p1 p2 p3 p4 mo y0 = some (r, mo')) : W p l e (rmD 6) s m args below meth c H locs 0 0 (qRI D below args s A (w_Mo cy qmo mo') r) (F0 m 94 ls [.int y0]) := by
  obtain ⟨hx, hb, hr, hml, hown, hts, hk⟩ := id C0
  unfold Mo_would_b94 at hp
  refine lv_istore (lv' := [(5, .int y0), (0, .ref (qmo 0)), (1, .int p1), (2, .int p2), (3, .int p3), (4, .int p4)]) hx hb dX12_would_94 hl (by decide) rfl (fun ls hl => ?_)
  refine lv_aload_n hx hb dX12_would_96 rfl (lv_at hl 1 rfl) ?_
  refine lv_bipush (v := 8) hx hb dX12_would_97 (by decide) ?_
  obtain ⟨mo_27, hc_26, hp⟩ := bn1_s hp
  refine k_RVV (As := [.int 8]) (rest := []) ⟨hx, hb, hml, hown, hts⟩ hK hP hD hS hA FrS_rf (cw_X12_246 hts ⟨Nat.le_of_ble_eq_true rfl, Nat.le_of_ble_eq_true rfl⟩) 0 (ci := 12) rfl rfl rfl (c_X12_takes l D cy qmo mo 8 mo_27 hc_26) rfl hl.1 (Nat.le_of_ble_eq_true rfl) ⟨Nat.le_refl _, Nat.le_refl _⟩ dX12_would_99 (fun H locs hP hD hS => ?_)
  refine lv_iload hx hb dX12_would_102 (lv_at hl 0 rfl) ?_
  simp only [Option.some.injEq, Prod.mk.injEq] at hp
  obtain ⟨h0, rfl⟩ := hp
  exact e_RIi hx hb hr hk hP hD hS dX12_would_104 h0
set_option maxHeartbeats 4000000 in
set_option maxRecDepth 100000 in
theorem c_X12_would (l : Launch) (D : va_G) (cy : Nat → ClassId) (qmo : Nat → Nat) (mo : Mem) (p1 p2 p3 p4 : Int32) (r : Int32) (mo' : Mem) (hp : Mo_would mo p1 p2 p3 p4 = some (r, mo')) : RI l yX12_would cX12_would 6 (some .int) 6 D cy [.ref (qmo 0), .int p1, .int p2, .int p3, .int p4] (w_Mo cy qmo mo) (w_Mo cy qmo mo') r := by
  refine RI_of RX12 rfl (by decide) (Nat.le_of_ble_eq_true rfl) ?_
  intro p e s m below meth c A C0 hK hP hD hS hA ls hl
  obtain ⟨hx, hb, hr, hml, hown, hts, hk⟩ := id C0
  unfold Mo_would at hp
  have hl : lv_has ls 6 [(0, .ref (qmo 0)), (1, .int p1), (2, .int p2), (3, .int p3), (4, .int p4)] := hl
  refine lv_iload_n hx hb dX12_would_0 rfl (lv_at hl 1 rfl) ?_
  refine lv_iconst (v := 0) hx hb dX12_would_1 (by decide) ?_
  refine lv_bipush (v := 12) hx hb dX12_would_2 (by decide) ?_
  obtain ⟨r_2, hc_1, hp⟩ := bn1_s hp
  refine k_ROS (As := [.int p1, .int 0, .int 12]) (rest := []) ⟨hx, hb, hml, hown, hts⟩ hK (show va_P D vwCl [] _ from fun k q h => by simp at h) (cw_X12_45 hts ⟨Nat.le_of_ble_eq_true rfl, Nat.le_of_ble_eq_true rfl⟩) (c_X12_in l D cy p1 0 12 r_2 hc_1) rfl hl.1 (Nat.le_of_ble_eq_true rfl) ⟨Nat.le_refl _, Nat.le_refl _⟩ dX12_would_4 ?_
  refine lv_if_eq (tgt := 28) hx hb dX12_would_7 (by decide) (fun c_3 => ?_) (fun c_3 => ?_)
  · have hp := ite_p hp c_3
    refine lv_iconst (v := (-1)) hx hb dX12_would_28 (by decide) ?_
    simp only [Option.some.injEq, Prod.mk.injEq] at hp
    obtain ⟨h0, rfl⟩ := hp
    exact e_RIi hx hb hr hk hP hD hS dX12_would_29 h0
  · have hp := ite_n hp c_3
    refine lv_iload_n hx hb dX12_would_10 rfl (lv_at hl 2 rfl) ?_
    refine lv_iload_n hx hb dX12_would_11 rfl (lv_at hl 3 rfl) ?_
    obtain ⟨r_5, hc_4, hp⟩ := bn1_s hp
    refine k_ROS (As := [.int p2, .int p3]) (rest := []) ⟨hx, hb, hml, hown, hts⟩ hK (show va_P D vwCl [] _ from fun k q h => by simp at h) (cw_X12_135 hts ⟨Nat.le_of_ble_eq_true rfl, Nat.le_of_ble_eq_true rfl⟩) (c_X12_areHours l D cy p2 p3 r_5 hc_4) rfl hl.1 (Nat.le_of_ble_eq_true rfl) ⟨Nat.le_refl _, Nat.le_refl _⟩ dX12_would_12 ?_
    refine lv_if_eq (tgt := 28) hx hb dX12_would_15 (by decide) (fun c_6 => ?_) (fun c_6 => ?_)
    · have hp := ite_p hp c_6
      refine lv_iconst (v := (-1)) hx hb dX12_would_28 (by decide) ?_
      simp only [Option.some.injEq, Prod.mk.injEq] at hp
      obtain ⟨h0, rfl⟩ := hp
      exact e_RIi hx hb hr hk hP hD hS dX12_would_29 h0
    · have hp := ite_n hp c_6
      refine lv_iload hx hb dX12_would_18 (lv_at hl 4 rfl) ?_
      refine lv_iconst (v := 0) hx hb dX12_would_20 (by decide) ?_
      refine lv_iconst (v := 2) hx hb dX12_would_21 (by decide) ?_
      obtain ⟨r_8, hc_7, hp⟩ := bn1_s hp
      refine k_ROS (As := [.int p4, .int 0, .int 2]) (rest := []) ⟨hx, hb, hml, hown, hts⟩ hK (show va_P D vwCl [] _ from fun k q h => by simp at h) (cw_X12_45 hts ⟨Nat.le_of_ble_eq_true rfl, Nat.le_of_ble_eq_true rfl⟩) (c_X12_in l D cy p4 0 2 r_8 hc_7) rfl hl.1 (Nat.le_of_ble_eq_true rfl) ⟨Nat.le_refl _, Nat.le_refl _⟩ dX12_would_22 ?_
      refine lv_if_ne (tgt := 30) hx hb dX12_would_25 (by decide) (fun c_9 => ?_) (fun c_9 => ?_)
      · have hp := ite_n hp c_9
        refine lv_aload_n hx hb dX12_would_30 rfl (lv_at hl 0 rfl) ?_
        refine gf_X12_7 hx hb hts hown hK hP 0 rfl rfl dX12_would_31 ?_
        refine lv_sipush (v := 173) hx hb dX12_would_34 (by decide) ?_
        obtain ⟨hi_10, hp⟩ := ckI_s hp
        refine r_ild hx hb hK hP 1 rfl hi_10 dX12_would_37 ?_
        refine lv_if_ne (tgt := 44) hx hb dX12_would_38 (by decide) (fun c_11 => ?_) (fun c_11 => ?_)
        · have hp := ite_n hp c_11
          refine lv_aload_n hx hb dX12_would_44 rfl (lv_at hl 0 rfl) ?_
          refine lv_bipush (v := 8) hx hb dX12_would_45 (by decide) ?_
          obtain ⟨mo_13, hc_12, hp⟩ := bn1_s hp
          refine k_RVV (As := [.int 8]) (rest := []) ⟨hx, hb, hml, hown, hts⟩ hK hP hD hS hA FrS_rf (cw_X12_243 hts ⟨Nat.le_of_ble_eq_true rfl, Nat.le_of_ble_eq_true rfl⟩) 0 (ci := 12) rfl rfl rfl (c_X12_lays l D cy qmo mo 8 mo_13 hc_12) rfl hl.1 (Nat.le_of_ble_eq_true rfl) ⟨Nat.le_refl _, Nat.le_refl _⟩ dX12_would_47 (fun H locs hP hD hS => ?_)
          refine lv_aload_n hx hb dX12_would_50 rfl (lv_at hl 0 rfl) ?_
          refine lv_iload_n hx hb dX12_would_51 rfl (lv_at hl 2 rfl) ?_
          refine lv_iload_n hx hb dX12_would_52 rfl (lv_at hl 3 rfl) ?_
          refine lv_iload_n hx hb dX12_would_53 rfl (lv_at hl 1 rfl) ?_
          obtain ⟨mo_15, hc_14, hp⟩ := bn1_s hp
          refine k_RVV (As := [.int p2, .int p3, .int p1]) (rest := []) ⟨hx, hb, hml, hown, hts⟩ hK hP hD hS hA FrS_rf (cw_X12_301 hts ⟨Nat.le_of_ble_eq_true rfl, Nat.le_of_ble_eq_true rfl⟩) 0 (ci := 12) rfl rfl rfl (c_X12_rates l D cy qmo mo_13 p2 p3 p1 mo_15 hc_14) rfl hl.1 (Nat.le_of_ble_eq_true rfl) ⟨Nat.le_refl _, Nat.le_refl _⟩ dX12_would_54 (fun H locs hP hD hS => ?_)
          refine lv_aload_n hx hb dX12_would_57 rfl (lv_at hl 0 rfl) ?_
          refine lv_iconst (v := 0) hx hb dX12_would_58 (by decide) ?_
          obtain ⟨mo_17, hc_16, hp⟩ := bn1_s hp
          refine k_RVV (As := [.int 0]) (rest := []) ⟨hx, hb, hml, hown, hts⟩ hK hP hD hS hA FrS_rf (cw_X12_191 hts ⟨Nat.le_of_ble_eq_true rfl, Nat.le_of_ble_eq_true rfl⟩) 0 (ci := 12) rfl rfl rfl (c_X12_plansBy l D cy qmo mo_15 0 mo_17 hc_16) rfl hl.1 (Nat.le_of_ble_eq_true rfl) ⟨Nat.le_refl _, Nat.le_refl _⟩ dX12_would_59 (fun H locs hP hD hS => ?_)
          refine lv_iload hx hb dX12_would_62 (lv_at hl 4 rfl) ?_
          refine lv_if_ne (tgt := 75) hx hb dX12_would_64 (by decide) (fun c_18 => ?_) (fun c_18 => ?_)
          · have hp := ite_n hp c_18
            refine lv_iload hx hb dX12_would_75 (lv_at hl 4 rfl) ?_
            refine lv_iconst (v := 1) hx hb dX12_would_77 (by decide) ?_
            refine lv_icmp_ne (tgt := 90) hx hb dX12_would_78 (by decide) (fun c_19 => ?_) (fun c_19 => ?_)
            · have hp := ite_n hp c_19
              refine lv_aload_n hx hb dX12_would_90 rfl (lv_at hl 0 rfl) ?_
              obtain ⟨r_21, hc_20, hp⟩ := bn1_s hp
              refine k_ROV (As := []) (rest := []) ⟨hx, hb, hml, hown, hts⟩ hK hP (cw_X12_304 hts ⟨Nat.le_of_ble_eq_true rfl, Nat.le_of_ble_eq_true rfl⟩) 0 (ci := 12) rfl rfl rfl (c_X12_lastSlot l D cy qmo mo_17 r_21 hc_20) rfl hl.1 (Nat.le_of_ble_eq_true rfl) ⟨Nat.le_refl _, Nat.le_refl _⟩ dX12_would_91 ?_
              exact Mo_would_b94_w C0 hK hA  hP hD hS hl hp
            · have hp := ite_p hp c_19
              refine lv_aload_n hx hb dX12_would_81 rfl (lv_at hl 0 rfl) ?_
              refine lv_bipush (v := 6) hx hb dX12_would_82 (by decide) ?_
              obtain ⟨r_23, hc_22, hp⟩ := bn1_s hp
              refine k_ROV (As := [.int 6]) (rest := []) ⟨hx, hb, hml, hown, hts⟩ hK hP (cw_X12_292 hts ⟨Nat.le_of_ble_eq_true rfl, Nat.le_of_ble_eq_true rfl⟩) 0 (ci := 12) rfl rfl rfl (c_X12_allOf l D cy qmo mo_17 6 r_23 hc_22) rfl hl.1 (Nat.le_of_ble_eq_true rfl) ⟨Nat.le_refl _, Nat.le_refl _⟩ dX12_would_84 ?_
              refine lv_goto (tgt := 94) hx hb dX12_would_87 (by decide) ?_
              exact Mo_would_b94_w C0 hK hA  hP hD hS hl hp
          · have hp := ite_p hp c_18
            refine lv_aload_n hx hb dX12_would_67 rfl (lv_at hl 0 rfl) ?_
            refine lv_iconst (v := 5) hx hb dX12_would_68 (by decide) ?_
            obtain ⟨r_25, hc_24, hp⟩ := bn1_s hp
            refine k_ROV (As := [.int 5]) (rest := []) ⟨hx, hb, hml, hown, hts⟩ hK hP (cw_X12_292 hts ⟨Nat.le_of_ble_eq_true rfl, Nat.le_of_ble_eq_true rfl⟩) 0 (ci := 12) rfl rfl rfl (c_X12_allOf l D cy qmo mo_17 5 r_25 hc_24) rfl hl.1 (Nat.le_of_ble_eq_true rfl) ⟨Nat.le_refl _, Nat.le_refl _⟩ dX12_would_69 ?_
            refine lv_goto (tgt := 94) hx hb dX12_would_72 (by decide) ?_
            exact Mo_would_b94_w C0 hK hA  hP hD hS hl hp
        · have hp := ite_p hp c_11
          refine lv_bipush (v := (-2)) hx hb dX12_would_41 (by decide) ?_
          simp only [Option.some.injEq, Prod.mk.injEq] at hp
          obtain ⟨h0, rfl⟩ := hp
          exact e_RIi hx hb hr hk hP hD hS dX12_would_43 h0
      · have hp := ite_p hp c_9
        refine lv_iconst (v := (-1)) hx hb dX12_would_28 (by decide) ?_
        simp only [Option.some.injEq, Prod.mk.injEq] at hp
        obtain ⟨h0, rfl⟩ := hp
        exact e_RIi hx hb hr hk hP hD hS dX12_would_29 h0
/-! StormSlotsModel.rateFor(III)I -/
def Mo_rateFor_b38B (p1 : Int32) (p2 : Int32) (p3 : Int32) (k38 : Mem → Int32 → Option (Int32 × Mem)) (mo : Mem) (x4 : Int32) : Option (Int32 × Mem) :=
  if 12 < x4 then some ((-2), mo) else bn1 (Mo_lays mo 8) (fun mo_11 => bn1 (Mo_rates mo_11 p1 p2 x4) (fun mo_13 => bn1 (Mo_plansBy mo_13 0) (fun mo_15 => bn1 (Mo_longest mo_15) (fun r_17 => bn1 (Mo_takes mo_15 8) (fun mo_19 => if p3 < r_17 then stk (x4 + 1) (fun x4_21 => k38 mo_19 x4_21) else some (x4, mo_19))))))
def Mo_rateFor_b38 (p1 : Int32) (p2 : Int32) (p3 : Int32) : Nat → Mem → Int32 → Option (Int32 × Mem)
  | 0 => fun _ _ => none
  | n + 1 => Mo_rateFor_b38B p1 p2 p3 (Mo_rateFor_b38 p1 p2 p3 n)
def Mo_rateFor (mo : Mem) (p1 : Int32) (p2 : Int32) (p3 : Int32) : Option (Int32 × Mem) :=
  bn1 (Mo_areHours p1 p2) (fun r_2 => if r_2 = 0 then some ((-1), mo) else bn1 (Mo_in p3 0 1200) (fun r_5 => if r_5 = 0 then some ((-1), mo) else ckI 173 1452 (if (mo 0 (173 : Int32).toNatClampNeg) = 0 then some ((-2), mo) else Mo_rateFor_b38 p1 p2 p3 fl mo 0)))
set_option maxHeartbeats 4000000 in
set_option maxRecDepth 100000 in
theorem Mo_rateFor_b38B_w (C0 : cX RX12 cX12_rateFor (some .int) 6 p s m args meth c) (hK : kN D cy s) {qmo : Nat → Nat} {p1 p2 p3 : Int32} {r : Int32} {mo' : Mem} (hA : ∀ q, s.heap.size ≤ q → A q) {k38 : Mem → Int32 → Option (Int32 × Mem)} (hk38 : ∀ (mo : Mem) (x4 : Int32) (H : Heap) (locs : List Loc) (ls : Array Slot), va_P D vwCl (w_Mo cy qmo mo) H → va_D A (w_Mo cy qmo mo) → va_S A s.heap H locs → lv_has ls 6 [(0, .ref (qmo 0)), (1, .int p1), (2, .int p2), (3, .int p3), (4, .int x4)] → k38 mo x4 = some (r, mo') → W p l e (rmD 6) s m args below meth c H locs 0 0 (qRI D below args s A (w_Mo cy qmo mo') r) (F0 m 38 ls [])) {mo : Mem} {x4 : Int32} {H : Heap} {locs : List Loc} (hP : va_P D vwCl (w_Mo cy qmo mo) H) (hD : va_D A (w_Mo cy qmo mo)) (hS : va_S A s.heap H locs) {ls : Array Slot} (hl : lv_has ls 6 [(0, .ref (qmo 0)), (1, .int p1), (2, .int p2), (3, .int p3), (4, .int x4)]) (hp : Mo_rateFor_b38B p1 p2 p3 k38 mo x4 = some (r, mo')) : W p l e (rmD 6) s m args below meth c H locs 0 0 (qRI D below args s A (w_Mo cy qmo mo') r) (F0 m 38 ls []) := by
  obtain ⟨hx, hb, hr, hml, hown, hts, hk⟩ := id C0
  unfold Mo_rateFor_b38B at hp
  refine lv_iload hx hb dX12_rateFor_38 (lv_at hl 4 rfl) ?_
  refine lv_bipush (v := 12) hx hb dX12_rateFor_40 (by decide) ?_
  refine lv_icmp_gt (tgt := 91) hx hb dX12_rateFor_42 (by decide) (fun c_9 => ?_) (fun c_9 => ?_)
  · have hp := ite_p hp c_9
    refine lv_bipush (v := (-2)) hx hb dX12_rateFor_91 (by decide) ?_
    simp only [Option.some.injEq, Prod.mk.injEq] at hp
    obtain ⟨h0, rfl⟩ := hp
    exact e_RIi hx hb hr hk hP hD hS dX12_rateFor_93 h0
  · have hp := ite_n hp c_9
    refine lv_aload_n hx hb dX12_rateFor_45 rfl (lv_at hl 0 rfl) ?_
    refine lv_bipush (v := 8) hx hb dX12_rateFor_46 (by decide) ?_
    obtain ⟨mo_11, hc_10, hp⟩ := bn1_s hp
    refine k_RVV (As := [.int 8]) (rest := []) ⟨hx, hb, hml, hown, hts⟩ hK hP hD hS hA FrS_rf (cw_X12_243 hts ⟨Nat.le_of_ble_eq_true rfl, Nat.le_of_ble_eq_true rfl⟩) 0 (ci := 12) rfl rfl rfl (c_X12_lays l D cy qmo mo 8 mo_11 hc_10) rfl hl.1 (Nat.le_of_ble_eq_true rfl) ⟨Nat.le_refl _, Nat.le_refl _⟩ dX12_rateFor_48 (fun H locs hP hD hS => ?_)
    refine lv_aload_n hx hb dX12_rateFor_51 rfl (lv_at hl 0 rfl) ?_
    refine lv_iload_n hx hb dX12_rateFor_52 rfl (lv_at hl 1 rfl) ?_
    refine lv_iload_n hx hb dX12_rateFor_53 rfl (lv_at hl 2 rfl) ?_
    refine lv_iload hx hb dX12_rateFor_54 (lv_at hl 4 rfl) ?_
    obtain ⟨mo_13, hc_12, hp⟩ := bn1_s hp
    refine k_RVV (As := [.int p1, .int p2, .int x4]) (rest := []) ⟨hx, hb, hml, hown, hts⟩ hK hP hD hS hA FrS_rf (cw_X12_301 hts ⟨Nat.le_of_ble_eq_true rfl, Nat.le_of_ble_eq_true rfl⟩) 0 (ci := 12) rfl rfl rfl (c_X12_rates l D cy qmo mo_11 p1 p2 x4 mo_13 hc_12) rfl hl.1 (Nat.le_of_ble_eq_true rfl) ⟨Nat.le_refl _, Nat.le_refl _⟩ dX12_rateFor_56 (fun H locs hP hD hS => ?_)
    refine lv_aload_n hx hb dX12_rateFor_59 rfl (lv_at hl 0 rfl) ?_
    refine lv_iconst (v := 0) hx hb dX12_rateFor_60 (by decide) ?_
    obtain ⟨mo_15, hc_14, hp⟩ := bn1_s hp
    refine k_RVV (As := [.int 0]) (rest := []) ⟨hx, hb, hml, hown, hts⟩ hK hP hD hS hA FrS_rf (cw_X12_191 hts ⟨Nat.le_of_ble_eq_true rfl, Nat.le_of_ble_eq_true rfl⟩) 0 (ci := 12) rfl rfl rfl (c_X12_plansBy l D cy qmo mo_13 0 mo_15 hc_14) rfl hl.1 (Nat.le_of_ble_eq_true rfl) ⟨Nat.le_refl _, Nat.le_refl _⟩ dX12_rateFor_61 (fun H locs hP hD hS => ?_)
    refine lv_aload_n hx hb dX12_rateFor_64 rfl (lv_at hl 0 rfl) ?_
    obtain ⟨r_17, hc_16, hp⟩ := bn1_s hp
    refine k_ROV (As := []) (rest := []) ⟨hx, hb, hml, hown, hts⟩ hK hP (cw_X12_295 hts ⟨Nat.le_of_ble_eq_true rfl, Nat.le_of_ble_eq_true rfl⟩) 0 (ci := 12) rfl rfl rfl (c_X12_longest l D cy qmo mo_15 r_17 hc_16) rfl hl.1 (Nat.le_of_ble_eq_true rfl) ⟨Nat.le_refl _, Nat.le_refl _⟩ dX12_rateFor_65 ?_
    refine lv_istore (lv' := [(5, .int r_17), (0, .ref (qmo 0)), (1, .int p1), (2, .int p2), (3, .int p3), (4, .int x4)]) hx hb dX12_rateFor_68 hl (by decide) rfl (fun ls hl => ?_)
    refine lv_aload_n hx hb dX12_rateFor_70 rfl (lv_at hl 1 rfl) ?_
    refine lv_bipush (v := 8) hx hb dX12_rateFor_71 (by decide) ?_
    obtain ⟨mo_19, hc_18, hp⟩ := bn1_s hp
    refine k_RVV (As := [.int 8]) (rest := []) ⟨hx, hb, hml, hown, hts⟩ hK hP hD hS hA FrS_rf (cw_X12_246 hts ⟨Nat.le_of_ble_eq_true rfl, Nat.le_of_ble_eq_true rfl⟩) 0 (ci := 12) rfl rfl rfl (c_X12_takes l D cy qmo mo_15 8 mo_19 hc_18) rfl hl.1 (Nat.le_of_ble_eq_true rfl) ⟨Nat.le_refl _, Nat.le_refl _⟩ dX12_rateFor_73 (fun H locs hP hD hS => ?_)
    refine lv_iload hx hb dX12_rateFor_76 (lv_at hl 0 rfl) ?_
    refine lv_iload_n hx hb dX12_rateFor_78 rfl (lv_at hl 4 rfl) ?_
    refine lv_icmp_gt (tgt := 85) hx hb dX12_rateFor_79 (by decide) (fun c_20 => ?_) (fun c_20 => ?_)
    · have hp := ite_p hp c_20
      obtain ⟨x4_21, ex4_21⟩ : ∃ y : Int32, y = x4 + 1 := ⟨_, rfl⟩
      have hp := stk_e hp ex4_21
      refine lv_iinc (v := x4_21) (lv' := [(4, .int x4_21), (5, .int r_17), (0, .ref (qmo 0)), (1, .int p1), (2, .int p2), (3, .int p3)]) hx hb dX12_rateFor_85 hl (k := 5) rfl (by rw [ex4_21]; rfl) (by decide) rfl (fun ls hl => ?_)
      refine lv_goto (tgt := 38) hx hb dX12_rateFor_88 (by decide) ?_
      exact hk38 mo_19 x4_21 _ _ _ hP hD hS (lv_sub hl [2, 3, 4, 5, 0] rfl) hp
    · have hp := ite_n hp c_20
      refine lv_iload hx hb dX12_rateFor_82 (lv_at hl 5 rfl) ?_
      simp only [Option.some.injEq, Prod.mk.injEq] at hp
      obtain ⟨h0, rfl⟩ := hp
      exact e_RIi hx hb hr hk hP hD hS dX12_rateFor_84 h0
theorem Mo_rateFor_b38_w (C0 : cX RX12 cX12_rateFor (some .int) 6 p s m args meth c) (hK : kN D cy s) {qmo : Nat → Nat} {p1 p2 p3 : Int32} {r : Int32} {mo' : Mem} (hA : ∀ q, s.heap.size ≤ q → A q) : ∀ (n : Nat) (mo : Mem) (x4 : Int32) (H : Heap) (locs : List Loc) (ls : Array Slot), va_P D vwCl (w_Mo cy qmo mo) H → va_D A (w_Mo cy qmo mo) → va_S A s.heap H locs → lv_has ls 6 [(0, .ref (qmo 0)), (1, .int p1), (2, .int p2), (3, .int p3), (4, .int x4)] → Mo_rateFor_b38 p1 p2 p3 n mo x4 = some (r, mo') → W p l e (rmD 6) s m args below meth c H locs 0 0 (qRI D below args s A (w_Mo cy qmo mo') r) (F0 m 38 ls []) := by
  intro n
  induction n with
  | zero =>
    intro mo x4 H locs ls hP hD hS hl hp
    cases hp
  | succ n ih =>
    intro mo x4 H locs ls hP hD hS hl hp
    exact Mo_rateFor_b38B_w C0 hK hA  (fun mo x4 H locs ls hP hD hS hl hp => ih mo x4 H locs ls hP hD hS hl hp) hP hD hS hl hp
set_option maxHeartbeats 4000000 in
set_option maxRecDepth 100000 in
theorem c_X12_rateFor (l : Launch) (D : va_G) (cy : Nat → ClassId) (qmo : Nat → Nat) (mo : Mem) (p1 p2 p3 : Int32) (r : Int32) (mo' : Mem) (hp : Mo_rateFor mo p1 p2 p3 = some (r, mo')) : RI l yX12_rateFor cX12_rateFor 6 (some .int) 6 D cy [.ref (qmo 0), .int p1, .int p2, .int p3] (w_Mo cy qmo mo) (w_Mo cy qmo mo') r := by
  refine RI_of RX12 rfl (by decide) (Nat.le_of_ble_eq_true rfl) ?_
  intro p e s m below meth c A C0 hK hP hD hS hA ls hl
  obtain ⟨hx, hb, hr, hml, hown, hts, hk⟩ := id C0
  unfold Mo_rateFor at hp
  have hl : lv_has ls 6 [(0, .ref (qmo 0)), (1, .int p1), (2, .int p2), (3, .int p3)] := hl
  refine lv_iload_n hx hb dX12_rateFor_0 rfl (lv_at hl 1 rfl) ?_
  refine lv_iload_n hx hb dX12_rateFor_1 rfl (lv_at hl 2 rfl) ?_
  obtain ⟨r_2, hc_1, hp⟩ := bn1_s hp
  refine k_ROS (As := [.int p1, .int p2]) (rest := []) ⟨hx, hb, hml, hown, hts⟩ hK (show va_P D vwCl [] _ from fun k q h => by simp at h) (cw_X12_135 hts ⟨Nat.le_of_ble_eq_true rfl, Nat.le_of_ble_eq_true rfl⟩) (c_X12_areHours l D cy p1 p2 r_2 hc_1) rfl hl.1 (Nat.le_of_ble_eq_true rfl) ⟨Nat.le_refl _, Nat.le_refl _⟩ dX12_rateFor_2 ?_
  refine lv_if_eq (tgt := 19) hx hb dX12_rateFor_5 (by decide) (fun c_3 => ?_) (fun c_3 => ?_)
  · have hp := ite_p hp c_3
    refine lv_iconst (v := (-1)) hx hb dX12_rateFor_19 (by decide) ?_
    simp only [Option.some.injEq, Prod.mk.injEq] at hp
    obtain ⟨h0, rfl⟩ := hp
    exact e_RIi hx hb hr hk hP hD hS dX12_rateFor_20 h0
  · have hp := ite_n hp c_3
    refine lv_iload_n hx hb dX12_rateFor_8 rfl (lv_at hl 3 rfl) ?_
    refine lv_iconst (v := 0) hx hb dX12_rateFor_9 (by decide) ?_
    refine lv_sipush (v := 1200) hx hb dX12_rateFor_10 (by decide) ?_
    obtain ⟨r_5, hc_4, hp⟩ := bn1_s hp
    refine k_ROS (As := [.int p3, .int 0, .int 1200]) (rest := []) ⟨hx, hb, hml, hown, hts⟩ hK (show va_P D vwCl [] _ from fun k q h => by simp at h) (cw_X12_45 hts ⟨Nat.le_of_ble_eq_true rfl, Nat.le_of_ble_eq_true rfl⟩) (c_X12_in l D cy p3 0 1200 r_5 hc_4) rfl hl.1 (Nat.le_of_ble_eq_true rfl) ⟨Nat.le_refl _, Nat.le_refl _⟩ dX12_rateFor_13 ?_
    refine lv_if_ne (tgt := 21) hx hb dX12_rateFor_16 (by decide) (fun c_6 => ?_) (fun c_6 => ?_)
    · have hp := ite_n hp c_6
      refine lv_aload_n hx hb dX12_rateFor_21 rfl (lv_at hl 0 rfl) ?_
      refine gf_X12_7 hx hb hts hown hK hP 0 rfl rfl dX12_rateFor_22 ?_
      refine lv_sipush (v := 173) hx hb dX12_rateFor_25 (by decide) ?_
      obtain ⟨hi_7, hp⟩ := ckI_s hp
      refine r_ild hx hb hK hP 1 rfl hi_7 dX12_rateFor_28 ?_
      refine lv_if_ne (tgt := 35) hx hb dX12_rateFor_29 (by decide) (fun c_8 => ?_) (fun c_8 => ?_)
      · have hp := ite_n hp c_8
        refine lv_iconst (v := 0) hx hb dX12_rateFor_35 (by decide) ?_
        refine lv_istore (lv' := [(4, .int 0), (0, .ref (qmo 0)), (1, .int p1), (2, .int p2), (3, .int p3)]) hx hb dX12_rateFor_36 hl (by decide) rfl (fun ls hl => ?_)
        exact Mo_rateFor_b38_w C0 hK hA  fl mo 0 _ _ _ hP hD hS (lv_sub hl [1, 2, 3, 4, 0] rfl) hp
      · have hp := ite_p hp c_8
        refine lv_bipush (v := (-2)) hx hb dX12_rateFor_32 (by decide) ?_
        simp only [Option.some.injEq, Prod.mk.injEq] at hp
        obtain ⟨h0, rfl⟩ := hp
        exact e_RIi hx hb hr hk hP hD hS dX12_rateFor_34 h0
    · have hp := ite_p hp c_6
      refine lv_iconst (v := (-1)) hx hb dX12_rateFor_19 (by decide) ?_
      simp only [Option.some.injEq, Prod.mk.injEq] at hp
      obtain ⟨h0, rfl⟩ := hp
      exact e_RIi hx hb hr hk hP hD hS dX12_rateFor_20 h0
/-! StormSlotsModel.ifCut(II)I -/
def Mo_ifCut (mo : Mem) (p1 : Int32) (p2 : Int32) : Option (Int32 × Mem) :=
  ckI 172 1452 (bn1 (Mo_in p1 (mo 0 (172 : Int32).toNatClampNeg) 719) (fun r_3 => if r_3 = 0 then some ((-1), mo) else bn1 (Mo_in p2 0 12) (fun r_6 => if r_6 = 0 then some ((-1), mo) else ckI 174 1452 (if (mo 0 (174 : Int32).toNatClampNeg) = 0 then some ((-2), mo) else bn1 (Mo_lays mo 8) (fun mo_11 => stk (upm mo_11 0 (172 : Int32).toNatClampNeg p1) (fun mo_12 => bn1 (Mo_rates mo_12 (p1 / 60) 11 p2) (fun mo_14 => bn1 (Mo_revises mo_14) (fun mo_16 => bn1 (Mo_allOf mo_16 6) (fun r_18 => bn1 (Mo_takes mo_16 8) (fun mo_20 => some (r_18, mo_20)))))))))))
set_option maxHeartbeats 4000000 in
set_option maxRecDepth 100000 in
theorem c_X12_ifCut (l : Launch) (D : va_G) (cy : Nat → ClassId) (qmo : Nat → Nat) (mo : Mem) (p1 p2 : Int32) (r : Int32) (mo' : Mem) (hp : Mo_ifCut mo p1 p2 = some (r, mo')) : RI l yX12_ifCut cX12_ifCut 4 (some .int) 5 D cy [.ref (qmo 0), .int p1, .int p2] (w_Mo cy qmo mo) (w_Mo cy qmo mo') r := by
  refine RI_of RX12 rfl (by decide) (Nat.le_of_ble_eq_true rfl) ?_
  intro p e s m below meth c A C0 hK hP hD hS hA ls hl
  obtain ⟨hx, hb, hr, hml, hown, hts, hk⟩ := id C0
  unfold Mo_ifCut at hp
  have hl : lv_has ls 4 [(0, .ref (qmo 0)), (1, .int p1), (2, .int p2)] := hl
  refine lv_iload_n hx hb dX12_ifCut_0 rfl (lv_at hl 1 rfl) ?_
  refine lv_aload_n hx hb dX12_ifCut_1 rfl (lv_at hl 0 rfl) ?_
  refine gf_X12_7 hx hb hts hown hK hP 0 rfl rfl dX12_ifCut_2 ?_
  refine lv_sipush (v := 172) hx hb dX12_ifCut_5 (by decide) ?_
  obtain ⟨hi_1, hp⟩ := ckI_s hp
  refine r_ild hx hb hK hP 1 rfl hi_1 dX12_ifCut_8 ?_
  refine lv_sipush (v := 719) hx hb dX12_ifCut_9 (by decide) ?_
  obtain ⟨r_3, hc_2, hp⟩ := bn1_s hp
  refine k_ROS (As := [.int p1, .int (mo 0 (172 : Int32).toNatClampNeg), .int 719]) (rest := []) ⟨hx, hb, hml, hown, hts⟩ hK (show va_P D vwCl [] _ from fun k q h => by simp at h) (cw_X12_45 hts ⟨Nat.le_of_ble_eq_true rfl, Nat.le_of_ble_eq_true rfl⟩) (c_X12_in l D cy p1 (mo 0 (172 : Int32).toNatClampNeg) 719 r_3 hc_2) rfl hl.1 (Nat.le_of_ble_eq_true rfl) ⟨Nat.le_refl _, Nat.le_refl _⟩ dX12_ifCut_12 ?_
  refine lv_if_eq (tgt := 28) hx hb dX12_ifCut_15 (by decide) (fun c_4 => ?_) (fun c_4 => ?_)
  · have hp := ite_p hp c_4
    refine lv_iconst (v := (-1)) hx hb dX12_ifCut_28 (by decide) ?_
    simp only [Option.some.injEq, Prod.mk.injEq] at hp
    obtain ⟨h0, rfl⟩ := hp
    exact e_RIi hx hb hr hk hP hD hS dX12_ifCut_29 h0
  · have hp := ite_n hp c_4
    refine lv_iload_n hx hb dX12_ifCut_18 rfl (lv_at hl 2 rfl) ?_
    refine lv_iconst (v := 0) hx hb dX12_ifCut_19 (by decide) ?_
    refine lv_bipush (v := 12) hx hb dX12_ifCut_20 (by decide) ?_
    obtain ⟨r_6, hc_5, hp⟩ := bn1_s hp
    refine k_ROS (As := [.int p2, .int 0, .int 12]) (rest := []) ⟨hx, hb, hml, hown, hts⟩ hK (show va_P D vwCl [] _ from fun k q h => by simp at h) (cw_X12_45 hts ⟨Nat.le_of_ble_eq_true rfl, Nat.le_of_ble_eq_true rfl⟩) (c_X12_in l D cy p2 0 12 r_6 hc_5) rfl hl.1 (Nat.le_of_ble_eq_true rfl) ⟨Nat.le_refl _, Nat.le_refl _⟩ dX12_ifCut_22 ?_
    refine lv_if_ne (tgt := 30) hx hb dX12_ifCut_25 (by decide) (fun c_7 => ?_) (fun c_7 => ?_)
    · have hp := ite_n hp c_7
      refine lv_aload_n hx hb dX12_ifCut_30 rfl (lv_at hl 0 rfl) ?_
      refine gf_X12_7 hx hb hts hown hK hP 0 rfl rfl dX12_ifCut_31 ?_
      refine lv_sipush (v := 174) hx hb dX12_ifCut_34 (by decide) ?_
      obtain ⟨hi_8, hp⟩ := ckI_s hp
      refine r_ild hx hb hK hP 1 rfl hi_8 dX12_ifCut_37 ?_
      refine lv_if_ne (tgt := 44) hx hb dX12_ifCut_38 (by decide) (fun c_9 => ?_) (fun c_9 => ?_)
      · have hp := ite_n hp c_9
        refine lv_aload_n hx hb dX12_ifCut_44 rfl (lv_at hl 0 rfl) ?_
        refine lv_bipush (v := 8) hx hb dX12_ifCut_45 (by decide) ?_
        obtain ⟨mo_11, hc_10, hp⟩ := bn1_s hp
        refine k_RVV (As := [.int 8]) (rest := []) ⟨hx, hb, hml, hown, hts⟩ hK hP hD hS hA FrS_rf (cw_X12_243 hts ⟨Nat.le_of_ble_eq_true rfl, Nat.le_of_ble_eq_true rfl⟩) 0 (ci := 12) rfl rfl rfl (c_X12_lays l D cy qmo mo 8 mo_11 hc_10) rfl hl.1 (Nat.le_of_ble_eq_true rfl) ⟨Nat.le_refl _, Nat.le_refl _⟩ dX12_ifCut_47 (fun H locs hP hD hS => ?_)
        refine lv_aload_n hx hb dX12_ifCut_50 rfl (lv_at hl 0 rfl) ?_
        refine gf_X12_7 hx hb hts hown hK hP 0 rfl rfl dX12_ifCut_51 ?_
        refine lv_sipush (v := 172) hx hb dX12_ifCut_54 (by decide) ?_
        refine lv_iload_n hx hb dX12_ifCut_57 rfl (lv_at hl 1 rfl) ?_
        obtain ⟨mo_12, emo_12⟩ : ∃ y : Mem, y = upm mo_11 0 (172 : Int32).toNatClampNeg p1 := ⟨_, rfl⟩
        have hp := stk_e hp emo_12
        refine r_ist hx hb hK hP hD hS (wn := (w_Mo cy qmo mo_12)) 1 rfl hi_1 (by subst emo_12; rfl) dX12_ifCut_58 (fun H locs hP hD hS => ?_)
        refine lv_aload_n hx hb dX12_ifCut_59 rfl (lv_at hl 0 rfl) ?_
        refine lv_iload_n hx hb dX12_ifCut_60 rfl (lv_at hl 1 rfl) ?_
        refine lv_bipush (v := 60) hx hb dX12_ifCut_61 (by decide) ?_
        refine lv_idiv hx hb dX12_ifCut_63 (by decide) ?_
        refine lv_bipush (v := 11) hx hb dX12_ifCut_64 (by decide) ?_
        refine lv_iload_n hx hb dX12_ifCut_66 rfl (lv_at hl 2 rfl) ?_
        obtain ⟨mo_14, hc_13, hp⟩ := bn1_s hp
        refine k_RVV (As := [.int (p1 / 60), .int 11, .int p2]) (rest := []) ⟨hx, hb, hml, hown, hts⟩ hK hP hD hS hA FrS_rf (cw_X12_301 hts ⟨Nat.le_of_ble_eq_true rfl, Nat.le_of_ble_eq_true rfl⟩) 0 (ci := 12) rfl rfl rfl (c_X12_rates l D cy qmo mo_12 (p1 / 60) 11 p2 mo_14 hc_13) rfl hl.1 (Nat.le_of_ble_eq_true rfl) ⟨Nat.le_refl _, Nat.le_refl _⟩ dX12_ifCut_67 (fun H locs hP hD hS => ?_)
        refine lv_aload_n hx hb dX12_ifCut_70 rfl (lv_at hl 0 rfl) ?_
        obtain ⟨mo_16, hc_15, hp⟩ := bn1_s hp
        refine k_RVV (As := []) (rest := []) ⟨hx, hb, hml, hown, hts⟩ hK hP hD hS hA FrS_rf (cw_X12_197 hts ⟨Nat.le_of_ble_eq_true rfl, Nat.le_of_ble_eq_true rfl⟩) 0 (ci := 12) rfl rfl rfl (c_X12_revises l D cy qmo mo_14 mo_16 hc_15) rfl hl.1 (Nat.le_of_ble_eq_true rfl) ⟨Nat.le_refl _, Nat.le_refl _⟩ dX12_ifCut_71 (fun H locs hP hD hS => ?_)
        refine lv_aload_n hx hb dX12_ifCut_74 rfl (lv_at hl 0 rfl) ?_
        refine lv_bipush (v := 6) hx hb dX12_ifCut_75 (by decide) ?_
        obtain ⟨r_18, hc_17, hp⟩ := bn1_s hp
        refine k_ROV (As := [.int 6]) (rest := []) ⟨hx, hb, hml, hown, hts⟩ hK hP (cw_X12_292 hts ⟨Nat.le_of_ble_eq_true rfl, Nat.le_of_ble_eq_true rfl⟩) 0 (ci := 12) rfl rfl rfl (c_X12_allOf l D cy qmo mo_16 6 r_18 hc_17) rfl hl.1 (Nat.le_of_ble_eq_true rfl) ⟨Nat.le_refl _, Nat.le_refl _⟩ dX12_ifCut_77 ?_
        refine lv_istore_n (lv' := [(3, .int r_18), (0, .ref (qmo 0)), (1, .int p1), (2, .int p2)]) hx hb dX12_ifCut_80 rfl hl (by decide) rfl (fun ls hl => ?_)
        refine lv_aload_n hx hb dX12_ifCut_81 rfl (lv_at hl 1 rfl) ?_
        refine lv_bipush (v := 8) hx hb dX12_ifCut_82 (by decide) ?_
        obtain ⟨mo_20, hc_19, hp⟩ := bn1_s hp
        refine k_RVV (As := [.int 8]) (rest := []) ⟨hx, hb, hml, hown, hts⟩ hK hP hD hS hA FrS_rf (cw_X12_246 hts ⟨Nat.le_of_ble_eq_true rfl, Nat.le_of_ble_eq_true rfl⟩) 0 (ci := 12) rfl rfl rfl (c_X12_takes l D cy qmo mo_16 8 mo_20 hc_19) rfl hl.1 (Nat.le_of_ble_eq_true rfl) ⟨Nat.le_refl _, Nat.le_refl _⟩ dX12_ifCut_84 (fun H locs hP hD hS => ?_)
        refine lv_iload_n hx hb dX12_ifCut_87 rfl (lv_at hl 0 rfl) ?_
        simp only [Option.some.injEq, Prod.mk.injEq] at hp
        obtain ⟨h0, rfl⟩ := hp
        exact e_RIi hx hb hr hk hP hD hS dX12_ifCut_88 h0
      · have hp := ite_p hp c_9
        refine lv_bipush (v := (-2)) hx hb dX12_ifCut_41 (by decide) ?_
        simp only [Option.some.injEq, Prod.mk.injEq] at hp
        obtain ⟨h0, rfl⟩ := hp
        exact e_RIi hx hb hr hk hP hD hS dX12_ifCut_43 h0
    · have hp := ite_p hp c_7
      refine lv_iconst (v := (-1)) hx hb dX12_ifCut_28 (by decide) ?_
      simp only [Option.some.injEq, Prod.mk.injEq] at hp
      obtain ⟨h0, rfl⟩ := hp
      exact e_RIi hx hb hr hk hP hD hS dX12_ifCut_29 h0
/-! StormSlotsModel.count(I)I -/
def Mo_count_b138B (mo : Mem) (p1 : Int32) (k138 : Int32 → Int32 → Option (Int32)) (x2 : Int32) (x3 : Int32) : Option (Int32) :=
  if 5 ≤ x3 then some x2 else bn1 (Mo_lineCounts mo x3 1) (fun r_30 => stk (x2 + r_30) (fun x2_31 => stk (x3 + 1) (fun x3_32 => k138 x2_31 x3_32)))
def Mo_count_b138 (mo : Mem) (p1 : Int32) : Nat → Int32 → Int32 → Option (Int32)
  | 0 => fun _ _ => none
  | n + 1 => Mo_count_b138B mo p1 (Mo_count_b138 mo p1 n)
def Mo_count_b162B (mo : Mem) (p1 : Int32) (k162 : Int32 → Int32 → Option (Int32)) (x2 : Int32) (x3 : Int32) : Option (Int32) :=
  if 5 ≤ x3 then some x2 else bn1 (Mo_keeps mo x3) (fun r_35 => stk (x2 + r_35) (fun x2_36 => stk (x3 + 1) (fun x3_37 => k162 x2_36 x3_37)))
def Mo_count_b162 (mo : Mem) (p1 : Int32) : Nat → Int32 → Int32 → Option (Int32)
  | 0 => fun _ _ => none
  | n + 1 => Mo_count_b162B mo p1 (Mo_count_b162 mo p1 n)
def Mo_count_b185B (mo : Mem) (p1 : Int32) (k185 : Int32 → Int32 → Option (Int32)) (x2 : Int32) (x3 : Int32) : Option (Int32) :=
  if 8 ≤ x3 then some x2 else bn1 (Mo_isOffer mo x3) (fun r_40 => if r_40 = 0 then stk (x2 + 0) (fun x2_42 => stk (x3 + 1) (fun x3_43 => k185 x2_42 x3_43)) else stk (x2 + 1) (fun x2_44 => stk (x3 + 1) (fun x3_45 => k185 x2_44 x3_45)))
def Mo_count_b185 (mo : Mem) (p1 : Int32) : Nat → Int32 → Int32 → Option (Int32)
  | 0 => fun _ _ => none
  | n + 1 => Mo_count_b185B mo p1 (Mo_count_b185 mo p1 n)
def Mo_count_b227B (mo : Mem) (p1 : Int32) (k227 : Int32 → Int32 → Option (Int32)) (x2 : Int32) (x3 : Int32) : Option (Int32) :=
  if 12 ≤ x3 then some (x2 + 96) else ckI (160 + x3) 1452 (stk (x2 + (mo 0 (160 + x3).toNatClampNeg)) (fun x2_48 => stk (x3 + 1) (fun x3_49 => k227 x2_48 x3_49)))
def Mo_count_b227 (mo : Mem) (p1 : Int32) : Nat → Int32 → Int32 → Option (Int32)
  | 0 => fun _ _ => none
  | n + 1 => Mo_count_b227B mo p1 (Mo_count_b227 mo p1 n)
def Mo_count (mo : Mem) (p1 : Int32) : Option (Int32) :=
  bn1 (Mo_in p1 20 31) (fun r_2 => if r_2 = 0 then if p1 = 0 then ckI 173 1452 (some (mo 0 (173 : Int32).toNatClampNeg)) else if p1 = 1 then ckI 172 1452 (some (mo 0 (172 : Int32).toNatClampNeg)) else if p1 = 2 then ckI 174 1452 (some (mo 0 (174 : Int32).toNatClampNeg)) else if p1 = 3 then bn1 (Mo_allOf mo 5) (fun r_12 => some r_12) else if p1 = 4 then bn1 (Mo_allOf mo 6) (fun r_15 => some r_15) else if p1 = 5 then Mo_count_b138 mo p1 fl 0 0 else if p1 = 6 then Mo_count_b162 mo p1 fl 0 0 else if p1 = 7 then Mo_count_b185 mo p1 fl 0 0 else if p1 = 8 then some (mo 3 0) else if p1 = 9 then some (mo 21 0) else if p1 = 10 then Mo_count_b227 mo p1 fl 0 0 else if p1 = 11 then ckI 175 1452 (some (mo 0 (175 : Int32).toNatClampNeg)) else if p1 = 12 then bn1 (Mo_broken mo) (fun r_26 => some r_26) else some (-1) else ckI ((160 + p1) - 20) 1452 (some (mo 0 ((160 + p1) - 20).toNatClampNeg)))
set_option maxHeartbeats 4000000 in
set_option maxRecDepth 100000 in
theorem Mo_count_b138B_w (C0 : cX RX12 cX12_count (some .int) 4 p s m args meth c) (hK : kN D cy s) {qmo : Nat → Nat} {mo : Mem} {p1 : Int32} {r : Int32} (hP : va_P D vwCl (w_Mo cy qmo mo) s.heap) {k138 : Int32 → Int32 → Option (Int32)} (hk138 : ∀ (x2 x3 : Int32) (ls : Array Slot), lv_has ls 4 [(0, .ref (qmo 0)), (1, .int p1), (2, .int x2), (3, .int x3)] → k138 x2 x3 = some r → W p l e (rmD 4) s m args below meth c s.heap [] 0 0 (qRO below args s r) (F0 m 138 ls [])) {x2 : Int32} {x3 : Int32} {ls : Array Slot} (hl : lv_has ls 4 [(0, .ref (qmo 0)), (1, .int p1), (2, .int x2), (3, .int x3)]) (hp : Mo_count_b138B mo p1 k138 x2 x3 = some r) : W p l e (rmD 4) s m args below meth c s.heap [] 0 0 (qRO below args s r) (F0 m 138 ls []) := by
  obtain ⟨hx, hb, hr, hml, hown, hts, hk⟩ := id C0
  unfold Mo_count_b138B at hp
  refine lv_iload_n hx hb dX12_count_138 rfl (lv_at hl 3 rfl) ?_
  refine lv_iconst (v := 5) hx hb dX12_count_139 (by decide) ?_
  refine lv_icmp_ge (tgt := 158) hx hb dX12_count_140 (by decide) (fun c_28 => ?_) (fun c_28 => ?_)
  · have hp := ite_p hp c_28
    refine lv_iload_n hx hb dX12_count_158 rfl (lv_at hl 2 rfl) ?_
    exact e_ROi hx hb hr hk dX12_count_159 (Option.some.inj hp)
  · have hp := ite_n hp c_28
    refine lv_iload_n hx hb dX12_count_143 rfl (lv_at hl 2 rfl) ?_
    refine lv_aload_n hx hb dX12_count_144 rfl (lv_at hl 0 rfl) ?_
    refine lv_iload_n hx hb dX12_count_145 rfl (lv_at hl 3 rfl) ?_
    refine lv_iconst (v := 1) hx hb dX12_count_146 (by decide) ?_
    obtain ⟨r_30, hc_29, hp⟩ := bn1_s hp
    refine k_ROV (As := [.int x3, .int 1]) (rest := [.int x2]) ⟨hx, hb, hml, hown, hts⟩ hK hP (cw_X12_258 hts ⟨Nat.le_of_ble_eq_true rfl, Nat.le_of_ble_eq_true rfl⟩) 0 (ci := 12) rfl rfl rfl (c_X12_lineCounts l D cy qmo mo x3 1 r_30 hc_29) rfl hl.1 (Nat.le_of_ble_eq_true rfl) ⟨Nat.le_refl _, Nat.le_refl _⟩ dX12_count_147 ?_
    refine lv_iadd hx hb dX12_count_150 ?_
    refine lv_topi (fun x2_31 ex2_31 => ?_)
    have hp := stk_e hp ex2_31
    refine lv_istore_n (lv' := [(2, .int x2_31), (0, .ref (qmo 0)), (1, .int p1), (3, .int x3)]) hx hb dX12_count_151 rfl hl (by decide) rfl (fun ls hl => ?_)
    obtain ⟨x3_32, ex3_32⟩ : ∃ y : Int32, y = x3 + 1 := ⟨_, rfl⟩
    have hp := stk_e hp ex3_32
    refine lv_iinc (v := x3_32) (lv' := [(3, .int x3_32), (2, .int x2_31), (0, .ref (qmo 0)), (1, .int p1)]) hx hb dX12_count_152 hl (k := 3) rfl (by rw [ex3_32]; rfl) (by decide) rfl (fun ls hl => ?_)
    refine lv_goto (tgt := 138) hx hb dX12_count_155 (by decide) ?_
    exact hk138 x2_31 x3_32 _ (lv_sub hl [2, 3, 1, 0] rfl) hp
theorem Mo_count_b138_w (C0 : cX RX12 cX12_count (some .int) 4 p s m args meth c) (hK : kN D cy s) {qmo : Nat → Nat} {mo : Mem} {p1 : Int32} {r : Int32} (hP : va_P D vwCl (w_Mo cy qmo mo) s.heap) : ∀ (n : Nat) (x2 x3 : Int32) (ls : Array Slot), lv_has ls 4 [(0, .ref (qmo 0)), (1, .int p1), (2, .int x2), (3, .int x3)] → Mo_count_b138 mo p1 n x2 x3 = some r → W p l e (rmD 4) s m args below meth c s.heap [] 0 0 (qRO below args s r) (F0 m 138 ls []) := by
  intro n
  induction n with
  | zero =>
    intro x2 x3 ls hl hp
    cases hp
  | succ n ih =>
    intro x2 x3 ls hl hp
    exact Mo_count_b138B_w C0 hK hP  (fun x2 x3 ls hl hp => ih x2 x3 ls hl hp) hl hp
set_option maxHeartbeats 4000000 in
set_option maxRecDepth 100000 in
theorem Mo_count_b162B_w (C0 : cX RX12 cX12_count (some .int) 4 p s m args meth c) (hK : kN D cy s) {qmo : Nat → Nat} {mo : Mem} {p1 : Int32} {r : Int32} (hP : va_P D vwCl (w_Mo cy qmo mo) s.heap) {k162 : Int32 → Int32 → Option (Int32)} (hk162 : ∀ (x2 x3 : Int32) (ls : Array Slot), lv_has ls 4 [(0, .ref (qmo 0)), (1, .int p1), (2, .int x2), (3, .int x3)] → k162 x2 x3 = some r → W p l e (rmD 4) s m args below meth c s.heap [] 0 0 (qRO below args s r) (F0 m 162 ls [])) {x2 : Int32} {x3 : Int32} {ls : Array Slot} (hl : lv_has ls 4 [(0, .ref (qmo 0)), (1, .int p1), (2, .int x2), (3, .int x3)]) (hp : Mo_count_b162B mo p1 k162 x2 x3 = some r) : W p l e (rmD 4) s m args below meth c s.heap [] 0 0 (qRO below args s r) (F0 m 162 ls []) := by
  obtain ⟨hx, hb, hr, hml, hown, hts, hk⟩ := id C0
  unfold Mo_count_b162B at hp
  refine lv_iload_n hx hb dX12_count_162 rfl (lv_at hl 3 rfl) ?_
  refine lv_iconst (v := 5) hx hb dX12_count_163 (by decide) ?_
  refine lv_icmp_ge (tgt := 181) hx hb dX12_count_164 (by decide) (fun c_33 => ?_) (fun c_33 => ?_)
  · have hp := ite_p hp c_33
    refine lv_iload_n hx hb dX12_count_181 rfl (lv_at hl 2 rfl) ?_
    exact e_ROi hx hb hr hk dX12_count_182 (Option.some.inj hp)
  · have hp := ite_n hp c_33
    refine lv_iload_n hx hb dX12_count_167 rfl (lv_at hl 2 rfl) ?_
    refine lv_aload_n hx hb dX12_count_168 rfl (lv_at hl 0 rfl) ?_
    refine lv_iload_n hx hb dX12_count_169 rfl (lv_at hl 3 rfl) ?_
    obtain ⟨r_35, hc_34, hp⟩ := bn1_s hp
    refine k_ROV (As := [.int x3]) (rest := [.int x2]) ⟨hx, hb, hml, hown, hts⟩ hK hP (cw_X12_255 hts ⟨Nat.le_of_ble_eq_true rfl, Nat.le_of_ble_eq_true rfl⟩) 0 (ci := 12) rfl rfl rfl (c_X12_keeps l D cy qmo mo x3 r_35 hc_34) rfl hl.1 (Nat.le_of_ble_eq_true rfl) ⟨Nat.le_refl _, Nat.le_refl _⟩ dX12_count_170 ?_
    refine lv_iadd hx hb dX12_count_173 ?_
    refine lv_topi (fun x2_36 ex2_36 => ?_)
    have hp := stk_e hp ex2_36
    refine lv_istore_n (lv' := [(2, .int x2_36), (0, .ref (qmo 0)), (1, .int p1), (3, .int x3)]) hx hb dX12_count_174 rfl hl (by decide) rfl (fun ls hl => ?_)
    obtain ⟨x3_37, ex3_37⟩ : ∃ y : Int32, y = x3 + 1 := ⟨_, rfl⟩
    have hp := stk_e hp ex3_37
    refine lv_iinc (v := x3_37) (lv' := [(3, .int x3_37), (2, .int x2_36), (0, .ref (qmo 0)), (1, .int p1)]) hx hb dX12_count_175 hl (k := 3) rfl (by rw [ex3_37]; rfl) (by decide) rfl (fun ls hl => ?_)
    refine lv_goto (tgt := 162) hx hb dX12_count_178 (by decide) ?_
    exact hk162 x2_36 x3_37 _ (lv_sub hl [2, 3, 1, 0] rfl) hp
theorem Mo_count_b162_w (C0 : cX RX12 cX12_count (some .int) 4 p s m args meth c) (hK : kN D cy s) {qmo : Nat → Nat} {mo : Mem} {p1 : Int32} {r : Int32} (hP : va_P D vwCl (w_Mo cy qmo mo) s.heap) : ∀ (n : Nat) (x2 x3 : Int32) (ls : Array Slot), lv_has ls 4 [(0, .ref (qmo 0)), (1, .int p1), (2, .int x2), (3, .int x3)] → Mo_count_b162 mo p1 n x2 x3 = some r → W p l e (rmD 4) s m args below meth c s.heap [] 0 0 (qRO below args s r) (F0 m 162 ls []) := by
  intro n
  induction n with
  | zero =>
    intro x2 x3 ls hl hp
    cases hp
  | succ n ih =>
    intro x2 x3 ls hl hp
    exact Mo_count_b162B_w C0 hK hP  (fun x2 x3 ls hl hp => ih x2 x3 ls hl hp) hl hp
set_option maxHeartbeats 4000000 in
set_option maxRecDepth 100000 in
theorem Mo_count_b185B_w (C0 : cX RX12 cX12_count (some .int) 4 p s m args meth c) (hK : kN D cy s) {qmo : Nat → Nat} {mo : Mem} {p1 : Int32} {r : Int32} (hP : va_P D vwCl (w_Mo cy qmo mo) s.heap) {k185 : Int32 → Int32 → Option (Int32)} (hk185 : ∀ (x2 x3 : Int32) (ls : Array Slot), lv_has ls 4 [(0, .ref (qmo 0)), (1, .int p1), (2, .int x2), (3, .int x3)] → k185 x2 x3 = some r → W p l e (rmD 4) s m args below meth c s.heap [] 0 0 (qRO below args s r) (F0 m 185 ls [])) {x2 : Int32} {x3 : Int32} {ls : Array Slot} (hl : lv_has ls 4 [(0, .ref (qmo 0)), (1, .int p1), (2, .int x2), (3, .int x3)]) (hp : Mo_count_b185B mo p1 k185 x2 x3 = some r) : W p l e (rmD 4) s m args below meth c s.heap [] 0 0 (qRO below args s r) (F0 m 185 ls []) := by
  obtain ⟨hx, hb, hr, hml, hown, hts, hk⟩ := id C0
  unfold Mo_count_b185B at hp
  refine lv_iload_n hx hb dX12_count_185 rfl (lv_at hl 3 rfl) ?_
  refine lv_bipush (v := 8) hx hb dX12_count_186 (by decide) ?_
  refine lv_icmp_ge (tgt := 213) hx hb dX12_count_188 (by decide) (fun c_38 => ?_) (fun c_38 => ?_)
  · have hp := ite_p hp c_38
    refine lv_iload_n hx hb dX12_count_213 rfl (lv_at hl 2 rfl) ?_
    exact e_ROi hx hb hr hk dX12_count_214 (Option.some.inj hp)
  · have hp := ite_n hp c_38
    refine lv_iload_n hx hb dX12_count_191 rfl (lv_at hl 2 rfl) ?_
    refine lv_aload_n hx hb dX12_count_192 rfl (lv_at hl 0 rfl) ?_
    refine lv_iload_n hx hb dX12_count_193 rfl (lv_at hl 3 rfl) ?_
    obtain ⟨r_40, hc_39, hp⟩ := bn1_s hp
    refine k_ROV (As := [.int x3]) (rest := [.int x2]) ⟨hx, hb, hml, hown, hts⟩ hK hP (cw_X12_222 hts ⟨Nat.le_of_ble_eq_true rfl, Nat.le_of_ble_eq_true rfl⟩) 0 (ci := 12) rfl rfl rfl (c_X12_isOffer l D cy qmo mo x3 r_40 hc_39) rfl hl.1 (Nat.le_of_ble_eq_true rfl) ⟨Nat.le_refl _, Nat.le_refl _⟩ dX12_count_194 ?_
    refine lv_if_eq (tgt := 204) hx hb dX12_count_197 (by decide) (fun c_41 => ?_) (fun c_41 => ?_)
    · have hp := ite_p hp c_41
      refine lv_iconst (v := 0) hx hb dX12_count_204 (by decide) ?_
      refine lv_iadd hx hb dX12_count_205 ?_
      refine lv_topi (fun x2_42 ex2_42 => ?_)
      have hp := stk_e hp ex2_42
      refine lv_istore_n (lv' := [(2, .int x2_42), (0, .ref (qmo 0)), (1, .int p1), (3, .int x3)]) hx hb dX12_count_206 rfl hl (by decide) rfl (fun ls hl => ?_)
      obtain ⟨x3_43, ex3_43⟩ : ∃ y : Int32, y = x3 + 1 := ⟨_, rfl⟩
      have hp := stk_e hp ex3_43
      refine lv_iinc (v := x3_43) (lv' := [(3, .int x3_43), (2, .int x2_42), (0, .ref (qmo 0)), (1, .int p1)]) hx hb dX12_count_207 hl (k := 3) rfl (by rw [ex3_43]; rfl) (by decide) rfl (fun ls hl => ?_)
      refine lv_goto (tgt := 185) hx hb dX12_count_210 (by decide) ?_
      exact hk185 x2_42 x3_43 _ (lv_sub hl [2, 3, 1, 0] rfl) hp
    · have hp := ite_n hp c_41
      refine lv_iconst (v := 1) hx hb dX12_count_200 (by decide) ?_
      refine lv_goto (tgt := 205) hx hb dX12_count_201 (by decide) ?_
      refine lv_iadd hx hb dX12_count_205 ?_
      refine lv_topi (fun x2_44 ex2_44 => ?_)
      have hp := stk_e hp ex2_44
      refine lv_istore_n (lv' := [(2, .int x2_44), (0, .ref (qmo 0)), (1, .int p1), (3, .int x3)]) hx hb dX12_count_206 rfl hl (by decide) rfl (fun ls hl => ?_)
      obtain ⟨x3_45, ex3_45⟩ : ∃ y : Int32, y = x3 + 1 := ⟨_, rfl⟩
      have hp := stk_e hp ex3_45
      refine lv_iinc (v := x3_45) (lv' := [(3, .int x3_45), (2, .int x2_44), (0, .ref (qmo 0)), (1, .int p1)]) hx hb dX12_count_207 hl (k := 3) rfl (by rw [ex3_45]; rfl) (by decide) rfl (fun ls hl => ?_)
      refine lv_goto (tgt := 185) hx hb dX12_count_210 (by decide) ?_
      exact hk185 x2_44 x3_45 _ (lv_sub hl [2, 3, 1, 0] rfl) hp
theorem Mo_count_b185_w (C0 : cX RX12 cX12_count (some .int) 4 p s m args meth c) (hK : kN D cy s) {qmo : Nat → Nat} {mo : Mem} {p1 : Int32} {r : Int32} (hP : va_P D vwCl (w_Mo cy qmo mo) s.heap) : ∀ (n : Nat) (x2 x3 : Int32) (ls : Array Slot), lv_has ls 4 [(0, .ref (qmo 0)), (1, .int p1), (2, .int x2), (3, .int x3)] → Mo_count_b185 mo p1 n x2 x3 = some r → W p l e (rmD 4) s m args below meth c s.heap [] 0 0 (qRO below args s r) (F0 m 185 ls []) := by
  intro n
  induction n with
  | zero =>
    intro x2 x3 ls hl hp
    cases hp
  | succ n ih =>
    intro x2 x3 ls hl hp
    exact Mo_count_b185B_w C0 hK hP  (fun x2 x3 ls hl hp => ih x2 x3 ls hl hp) hl hp
set_option maxHeartbeats 4000000 in
set_option maxRecDepth 100000 in
theorem Mo_count_b227B_w (C0 : cX RX12 cX12_count (some .int) 4 p s m args meth c) (hK : kN D cy s) {qmo : Nat → Nat} {mo : Mem} {p1 : Int32} {r : Int32} (hP : va_P D vwCl (w_Mo cy qmo mo) s.heap) {k227 : Int32 → Int32 → Option (Int32)} (hk227 : ∀ (x2 x3 : Int32) (ls : Array Slot), lv_has ls 4 [(0, .ref (qmo 0)), (1, .int p1), (2, .int x2), (3, .int x3)] → k227 x2 x3 = some r → W p l e (rmD 4) s m args below meth c s.heap [] 0 0 (qRO below args s r) (F0 m 227 ls [])) {x2 : Int32} {x3 : Int32} {ls : Array Slot} (hl : lv_has ls 4 [(0, .ref (qmo 0)), (1, .int p1), (2, .int x2), (3, .int x3)]) (hp : Mo_count_b227B mo p1 k227 x2 x3 = some r) : W p l e (rmD 4) s m args below meth c s.heap [] 0 0 (qRO below args s r) (F0 m 227 ls []) := by
  obtain ⟨hx, hb, hr, hml, hown, hts, hk⟩ := id C0
  unfold Mo_count_b227B at hp
  refine lv_iload_n hx hb dX12_count_227 rfl (lv_at hl 3 rfl) ?_
  refine lv_bipush (v := 12) hx hb dX12_count_228 (by decide) ?_
  refine lv_icmp_ge (tgt := 252) hx hb dX12_count_230 (by decide) (fun c_46 => ?_) (fun c_46 => ?_)
  · have hp := ite_p hp c_46
    refine lv_iload_n hx hb dX12_count_252 rfl (lv_at hl 2 rfl) ?_
    refine lv_bipush (v := 96) hx hb dX12_count_253 (by decide) ?_
    refine lv_iadd hx hb dX12_count_255 ?_
    exact e_ROi hx hb hr hk dX12_count_256 (Option.some.inj hp)
  · have hp := ite_n hp c_46
    refine lv_iload_n hx hb dX12_count_233 rfl (lv_at hl 2 rfl) ?_
    refine lv_aload_n hx hb dX12_count_234 rfl (lv_at hl 0 rfl) ?_
    refine gf_X12_7 hx hb hts hown hK hP 0 rfl rfl dX12_count_235 ?_
    refine lv_sipush (v := 160) hx hb dX12_count_238 (by decide) ?_
    refine lv_iload_n hx hb dX12_count_241 rfl (lv_at hl 3 rfl) ?_
    refine lv_iadd hx hb dX12_count_242 ?_
    obtain ⟨hi_47, hp⟩ := ckI_s hp
    refine r_ild hx hb hK hP 1 rfl hi_47 dX12_count_243 ?_
    refine lv_iadd hx hb dX12_count_244 ?_
    refine lv_topi (fun x2_48 ex2_48 => ?_)
    have hp := stk_e hp ex2_48
    refine lv_istore_n (lv' := [(2, .int x2_48), (0, .ref (qmo 0)), (1, .int p1), (3, .int x3)]) hx hb dX12_count_245 rfl hl (by decide) rfl (fun ls hl => ?_)
    obtain ⟨x3_49, ex3_49⟩ : ∃ y : Int32, y = x3 + 1 := ⟨_, rfl⟩
    have hp := stk_e hp ex3_49
    refine lv_iinc (v := x3_49) (lv' := [(3, .int x3_49), (2, .int x2_48), (0, .ref (qmo 0)), (1, .int p1)]) hx hb dX12_count_246 hl (k := 3) rfl (by rw [ex3_49]; rfl) (by decide) rfl (fun ls hl => ?_)
    refine lv_goto (tgt := 227) hx hb dX12_count_249 (by decide) ?_
    exact hk227 x2_48 x3_49 _ (lv_sub hl [2, 3, 1, 0] rfl) hp
theorem Mo_count_b227_w (C0 : cX RX12 cX12_count (some .int) 4 p s m args meth c) (hK : kN D cy s) {qmo : Nat → Nat} {mo : Mem} {p1 : Int32} {r : Int32} (hP : va_P D vwCl (w_Mo cy qmo mo) s.heap) : ∀ (n : Nat) (x2 x3 : Int32) (ls : Array Slot), lv_has ls 4 [(0, .ref (qmo 0)), (1, .int p1), (2, .int x2), (3, .int x3)] → Mo_count_b227 mo p1 n x2 x3 = some r → W p l e (rmD 4) s m args below meth c s.heap [] 0 0 (qRO below args s r) (F0 m 227 ls []) := by
  intro n
  induction n with
  | zero =>
    intro x2 x3 ls hl hp
    cases hp
  | succ n ih =>
    intro x2 x3 ls hl hp
    exact Mo_count_b227B_w C0 hK hP  (fun x2 x3 ls hl hp => ih x2 x3 ls hl hp) hl hp
set_option maxHeartbeats 4000000 in
set_option maxRecDepth 100000 in
theorem c_X12_count (l : Launch) (D : va_G) (cy : Nat → ClassId) (qmo : Nat → Nat) (mo : Mem) (p1 : Int32) (r : Int32) (hp : Mo_count mo p1 = some r) : RO l yX12_count cX12_count 4 (some .int) 4 D cy [.ref (qmo 0), .int p1] (w_Mo cy qmo mo) r := by
  refine RO_of RX12 rfl (by decide) (Nat.le_of_ble_eq_true rfl) ?_
  intro p e s m below meth c C0 hK hP ls hl
  obtain ⟨hx, hb, hr, hml, hown, hts, hk⟩ := id C0
  unfold Mo_count at hp
  have hl : lv_has ls 4 [(0, .ref (qmo 0)), (1, .int p1)] := hl
  refine lv_iconst (v := 0) hx hb dX12_count_0 (by decide) ?_
  refine lv_istore_n (lv' := [(2, .int 0), (0, .ref (qmo 0)), (1, .int p1)]) hx hb dX12_count_1 rfl hl (by decide) rfl (fun ls hl => ?_)
  refine lv_iload_n hx hb dX12_count_2 rfl (lv_at hl 2 rfl) ?_
  refine lv_bipush (v := 20) hx hb dX12_count_3 (by decide) ?_
  refine lv_bipush (v := 31) hx hb dX12_count_5 (by decide) ?_
  obtain ⟨r_2, hc_1, hp⟩ := bn1_s hp
  refine k_ROS (As := [.int p1, .int 20, .int 31]) (rest := []) ⟨hx, hb, hml, hown, hts⟩ hK (show va_P D vwCl [] _ from fun k q h => by simp at h) (cw_X12_45 hts ⟨Nat.le_of_ble_eq_true rfl, Nat.le_of_ble_eq_true rfl⟩) (c_X12_in l D cy p1 20 31 r_2 hc_1) rfl hl.1 (Nat.le_of_ble_eq_true rfl) ⟨Nat.le_refl _, Nat.le_refl _⟩ dX12_count_7 ?_
  refine lv_if_eq (tgt := 27) hx hb dX12_count_10 (by decide) (fun c_3 => ?_) (fun c_3 => ?_)
  · have hp := ite_p hp c_3
    refine lv_iload_n hx hb dX12_count_27 rfl (lv_at hl 2 rfl) ?_
    by_cases c_4 : p1 = 0
    · have hp := ite_p hp c_4
      refine r_tab (tgt := 96) (off := 68) 0 hx hb dX12_count_28 c_4 (by decide) (by decide) ?_
      refine lv_aload_n hx hb dX12_count_96 rfl (lv_at hl 1 rfl) ?_
      refine gf_X12_7 hx hb hts hown hK hP 0 rfl rfl dX12_count_97 ?_
      refine lv_sipush (v := 173) hx hb dX12_count_100 (by decide) ?_
      obtain ⟨hi_5, hp⟩ := ckI_s hp
      refine r_ild hx hb hK hP 1 rfl hi_5 dX12_count_103 ?_
      exact e_ROi hx hb hr hk dX12_count_104 (Option.some.inj hp)
    have hp := ite_n hp c_4
    by_cases c_6 : p1 = 1
    · have hp := ite_p hp c_6
      refine r_tab (tgt := 105) (off := 77) 1 hx hb dX12_count_28 c_6 (by decide) (by decide) ?_
      refine lv_aload_n hx hb dX12_count_105 rfl (lv_at hl 1 rfl) ?_
      refine gf_X12_7 hx hb hts hown hK hP 0 rfl rfl dX12_count_106 ?_
      refine lv_sipush (v := 172) hx hb dX12_count_109 (by decide) ?_
      obtain ⟨hi_7, hp⟩ := ckI_s hp
      refine r_ild hx hb hK hP 1 rfl hi_7 dX12_count_112 ?_
      exact e_ROi hx hb hr hk dX12_count_113 (Option.some.inj hp)
    have hp := ite_n hp c_6
    by_cases c_8 : p1 = 2
    · have hp := ite_p hp c_8
      refine r_tab (tgt := 114) (off := 86) 2 hx hb dX12_count_28 c_8 (by decide) (by decide) ?_
      refine lv_aload_n hx hb dX12_count_114 rfl (lv_at hl 1 rfl) ?_
      refine gf_X12_7 hx hb hts hown hK hP 0 rfl rfl dX12_count_115 ?_
      refine lv_sipush (v := 174) hx hb dX12_count_118 (by decide) ?_
      obtain ⟨hi_9, hp⟩ := ckI_s hp
      refine r_ild hx hb hK hP 1 rfl hi_9 dX12_count_121 ?_
      exact e_ROi hx hb hr hk dX12_count_122 (Option.some.inj hp)
    have hp := ite_n hp c_8
    by_cases c_10 : p1 = 3
    · have hp := ite_p hp c_10
      refine r_tab (tgt := 123) (off := 95) 3 hx hb dX12_count_28 c_10 (by decide) (by decide) ?_
      refine lv_aload_n hx hb dX12_count_123 rfl (lv_at hl 1 rfl) ?_
      refine lv_iconst (v := 5) hx hb dX12_count_124 (by decide) ?_
      obtain ⟨r_12, hc_11, hp⟩ := bn1_s hp
      refine k_ROV (As := [.int 5]) (rest := []) ⟨hx, hb, hml, hown, hts⟩ hK hP (cw_X12_292 hts ⟨Nat.le_of_ble_eq_true rfl, Nat.le_of_ble_eq_true rfl⟩) 0 (ci := 12) rfl rfl rfl (c_X12_allOf l D cy qmo mo 5 r_12 hc_11) rfl hl.1 (Nat.le_of_ble_eq_true rfl) ⟨Nat.le_refl _, Nat.le_refl _⟩ dX12_count_125 ?_
      exact e_ROi hx hb hr hk dX12_count_128 (Option.some.inj hp)
    have hp := ite_n hp c_10
    by_cases c_13 : p1 = 4
    · have hp := ite_p hp c_13
      refine r_tab (tgt := 129) (off := 101) 4 hx hb dX12_count_28 c_13 (by decide) (by decide) ?_
      refine lv_aload_n hx hb dX12_count_129 rfl (lv_at hl 1 rfl) ?_
      refine lv_bipush (v := 6) hx hb dX12_count_130 (by decide) ?_
      obtain ⟨r_15, hc_14, hp⟩ := bn1_s hp
      refine k_ROV (As := [.int 6]) (rest := []) ⟨hx, hb, hml, hown, hts⟩ hK hP (cw_X12_292 hts ⟨Nat.le_of_ble_eq_true rfl, Nat.le_of_ble_eq_true rfl⟩) 0 (ci := 12) rfl rfl rfl (c_X12_allOf l D cy qmo mo 6 r_15 hc_14) rfl hl.1 (Nat.le_of_ble_eq_true rfl) ⟨Nat.le_refl _, Nat.le_refl _⟩ dX12_count_132 ?_
      exact e_ROi hx hb hr hk dX12_count_135 (Option.some.inj hp)
    have hp := ite_n hp c_13
    by_cases c_16 : p1 = 5
    · have hp := ite_p hp c_16
      refine r_tab (tgt := 136) (off := 108) 5 hx hb dX12_count_28 c_16 (by decide) (by decide) ?_
      refine lv_iconst (v := 0) hx hb dX12_count_136 (by decide) ?_
      refine lv_istore_n (lv' := [(3, .int 0), (2, .int 0), (0, .ref (qmo 0)), (1, .int p1)]) hx hb dX12_count_137 rfl hl (by decide) rfl (fun ls hl => ?_)
      exact Mo_count_b138_w C0 hK hP  fl 0 0 _ (lv_sub hl [2, 3, 1, 0] rfl) hp
    have hp := ite_n hp c_16
    by_cases c_17 : p1 = 6
    · have hp := ite_p hp c_17
      refine r_tab (tgt := 160) (off := 132) 6 hx hb dX12_count_28 c_17 (by decide) (by decide) ?_
      refine lv_iconst (v := 0) hx hb dX12_count_160 (by decide) ?_
      refine lv_istore_n (lv' := [(3, .int 0), (2, .int 0), (0, .ref (qmo 0)), (1, .int p1)]) hx hb dX12_count_161 rfl hl (by decide) rfl (fun ls hl => ?_)
      exact Mo_count_b162_w C0 hK hP  fl 0 0 _ (lv_sub hl [2, 3, 1, 0] rfl) hp
    have hp := ite_n hp c_17
    by_cases c_18 : p1 = 7
    · have hp := ite_p hp c_18
      refine r_tab (tgt := 183) (off := 155) 7 hx hb dX12_count_28 c_18 (by decide) (by decide) ?_
      refine lv_iconst (v := 0) hx hb dX12_count_183 (by decide) ?_
      refine lv_istore_n (lv' := [(3, .int 0), (2, .int 0), (0, .ref (qmo 0)), (1, .int p1)]) hx hb dX12_count_184 rfl hl (by decide) rfl (fun ls hl => ?_)
      exact Mo_count_b185_w C0 hK hP  fl 0 0 _ (lv_sub hl [2, 3, 1, 0] rfl) hp
    have hp := ite_n hp c_18
    by_cases c_19 : p1 = 8
    · have hp := ite_p hp c_19
      refine r_tab (tgt := 215) (off := 187) 8 hx hb dX12_count_28 c_19 (by decide) (by decide) ?_
      refine lv_aload_n hx hb dX12_count_215 rfl (lv_at hl 1 rfl) ?_
      refine gf_X12_49 hx hb hts hown hK hP 0 rfl rfl dX12_count_216 ?_
      exact e_ROi hx hb hr hk dX12_count_219 (Option.some.inj hp)
    have hp := ite_n hp c_19
    by_cases c_20 : p1 = 9
    · have hp := ite_p hp c_20
      refine r_tab (tgt := 220) (off := 192) 9 hx hb dX12_count_28 c_20 (by decide) (by decide) ?_
      refine lv_aload_n hx hb dX12_count_220 rfl (lv_at hl 1 rfl) ?_
      refine gf_X12_307 hx hb hts hown hK hP 0 rfl rfl dX12_count_221 ?_
      exact e_ROi hx hb hr hk dX12_count_224 (Option.some.inj hp)
    have hp := ite_n hp c_20
    by_cases c_21 : p1 = 10
    · have hp := ite_p hp c_21
      refine r_tab (tgt := 225) (off := 197) 10 hx hb dX12_count_28 c_21 (by decide) (by decide) ?_
      refine lv_iconst (v := 0) hx hb dX12_count_225 (by decide) ?_
      refine lv_istore_n (lv' := [(3, .int 0), (2, .int 0), (0, .ref (qmo 0)), (1, .int p1)]) hx hb dX12_count_226 rfl hl (by decide) rfl (fun ls hl => ?_)
      exact Mo_count_b227_w C0 hK hP  fl 0 0 _ (lv_sub hl [2, 3, 1, 0] rfl) hp
    have hp := ite_n hp c_21
    by_cases c_22 : p1 = 11
    · have hp := ite_p hp c_22
      refine r_tab (tgt := 257) (off := 229) 11 hx hb dX12_count_28 c_22 (by decide) (by decide) ?_
      refine lv_aload_n hx hb dX12_count_257 rfl (lv_at hl 1 rfl) ?_
      refine gf_X12_7 hx hb hts hown hK hP 0 rfl rfl dX12_count_258 ?_
      refine lv_sipush (v := 175) hx hb dX12_count_261 (by decide) ?_
      obtain ⟨hi_23, hp⟩ := ckI_s hp
      refine r_ild hx hb hK hP 1 rfl hi_23 dX12_count_264 ?_
      exact e_ROi hx hb hr hk dX12_count_265 (Option.some.inj hp)
    have hp := ite_n hp c_22
    by_cases c_24 : p1 = 12
    · have hp := ite_p hp c_24
      refine r_tab (tgt := 266) (off := 238) 12 hx hb dX12_count_28 c_24 (by decide) (by decide) ?_
      refine lv_aload_n hx hb dX12_count_266 rfl (lv_at hl 1 rfl) ?_
      obtain ⟨r_26, hc_25, hp⟩ := bn1_s hp
      refine k_ROV (As := []) (rest := []) ⟨hx, hb, hml, hown, hts⟩ hK hP (cw_X12_289 hts ⟨Nat.le_of_ble_eq_true rfl, Nat.le_of_ble_eq_true rfl⟩) 0 (ci := 12) rfl rfl rfl (c_X12_broken l D cy qmo mo r_26 hc_25) rfl hl.1 (Nat.le_of_ble_eq_true rfl) ⟨Nat.le_refl _, Nat.le_refl _⟩ dX12_count_267 ?_
      exact e_ROi hx hb hr hk dX12_count_270 (Option.some.inj hp)
    have hp := ite_n hp c_24
    refine lv_tableOut (tgt := 271) hx hb dX12_count_28 (by have zc_4 : (p1).toInt ≠ 0 := ne_toInt c_4; have zc_6 : (p1).toInt ≠ 1 := ne_toInt c_6; have zc_8 : (p1).toInt ≠ 2 := ne_toInt c_8; have zc_10 : (p1).toInt ≠ 3 := ne_toInt c_10; have zc_13 : (p1).toInt ≠ 4 := ne_toInt c_13; have zc_16 : (p1).toInt ≠ 5 := ne_toInt c_16; have zc_17 : (p1).toInt ≠ 6 := ne_toInt c_17; have zc_18 : (p1).toInt ≠ 7 := ne_toInt c_18; have zc_19 : (p1).toInt ≠ 8 := ne_toInt c_19; have zc_20 : (p1).toInt ≠ 9 := ne_toInt c_20; have zc_21 : (p1).toInt ≠ 10 := ne_toInt c_21; have zc_22 : (p1).toInt ≠ 11 := ne_toInt c_22; have zc_24 : (p1).toInt ≠ 12 := ne_toInt c_24; omega) (by decide) ?_
    refine lv_iconst (v := (-1)) hx hb dX12_count_271 (by decide) ?_
    exact e_ROi hx hb hr hk dX12_count_272 (Option.some.inj hp)
  · have hp := ite_n hp c_3
    refine lv_aload_n hx hb dX12_count_13 rfl (lv_at hl 1 rfl) ?_
    refine gf_X12_7 hx hb hts hown hK hP 0 rfl rfl dX12_count_14 ?_
    refine lv_sipush (v := 160) hx hb dX12_count_17 (by decide) ?_
    refine lv_iload_n hx hb dX12_count_20 rfl (lv_at hl 2 rfl) ?_
    refine lv_iadd hx hb dX12_count_21 ?_
    refine lv_bipush (v := 20) hx hb dX12_count_22 (by decide) ?_
    refine lv_isub hx hb dX12_count_24 ?_
    obtain ⟨hi_27, hp⟩ := ckI_s hp
    refine r_ild hx hb hK hP 1 rfl hi_27 dX12_count_25 ?_
    exact e_ROi hx hb hr hk dX12_count_26 (Option.some.inj hp)
/-! StormSlotsModel.keep()I -/
def Mo_keep (mo : Mem) : Option (Int32 × Mem) :=
  if (mo 21 0) = 8 then some ((-1), mo) else bn1 (Mo_lays mo (mo 21 0)) (fun mo_3 => stk (upm mo_3 21 0 ((mo_3 21 0) + 1)) (fun mo_4 => some ((mo_4 21 0), mo_4)))
set_option maxHeartbeats 4000000 in
set_option maxRecDepth 100000 in
theorem c_X12_keep (l : Launch) (D : va_G) (cy : Nat → ClassId) (qmo : Nat → Nat) (mo : Mem) (r : Int32) (mo' : Mem) (hp : Mo_keep mo = some (r, mo')) : RI l yX12_keep cX12_keep 1 (some .int) 1 D cy [.ref (qmo 0)] (w_Mo cy qmo mo) (w_Mo cy qmo mo') r := by
  refine RI_of RX12 rfl (by decide) (Nat.le_of_ble_eq_true rfl) ?_
  intro p e s m below meth c A C0 hK hP hD hS hA ls hl
  obtain ⟨hx, hb, hr, hml, hown, hts, hk⟩ := id C0
  unfold Mo_keep at hp
  have hl : lv_has ls 1 [(0, .ref (qmo 0))] := hl
  refine lv_aload_n hx hb dX12_keep_0 rfl (lv_at hl 0 rfl) ?_
  refine gf_X12_307 hx hb hts hown hK hP 0 rfl rfl dX12_keep_1 ?_
  refine lv_bipush (v := 8) hx hb dX12_keep_4 (by decide) ?_
  refine lv_icmp_ne (tgt := 11) hx hb dX12_keep_6 (by decide) (fun c_1 => ?_) (fun c_1 => ?_)
  · have hp := ite_n hp c_1
    refine lv_aload_n hx hb dX12_keep_11 rfl (lv_at hl 0 rfl) ?_
    refine lv_aload_n hx hb dX12_keep_12 rfl (lv_at hl 0 rfl) ?_
    refine gf_X12_307 hx hb hts hown hK hP 0 rfl rfl dX12_keep_13 ?_
    obtain ⟨mo_3, hc_2, hp⟩ := bn1_s hp
    refine k_RVV (As := [.int (mo 21 0)]) (rest := []) ⟨hx, hb, hml, hown, hts⟩ hK hP hD hS hA FrS_rf (cw_X12_243 hts ⟨Nat.le_of_ble_eq_true rfl, Nat.le_of_ble_eq_true rfl⟩) 0 (ci := 12) rfl rfl rfl (c_X12_lays l D cy qmo mo (mo 21 0) mo_3 hc_2) rfl hl.1 (Nat.le_of_ble_eq_true rfl) ⟨Nat.le_refl _, Nat.le_refl _⟩ dX12_keep_16 (fun H locs hP hD hS => ?_)
    refine lv_aload_n hx hb dX12_keep_19 rfl (lv_at hl 0 rfl) ?_
    refine lv_aload_n hx hb dX12_keep_20 rfl (lv_at hl 0 rfl) ?_
    refine gf_X12_307 hx hb hts hown hK hP 0 rfl rfl dX12_keep_21 ?_
    refine lv_iconst (v := 1) hx hb dX12_keep_24 (by decide) ?_
    refine lv_iadd hx hb dX12_keep_25 ?_
    obtain ⟨mo_4, emo_4⟩ : ∃ y : Mem, y = upm mo_3 21 0 ((mo_3 21 0) + 1) := ⟨_, rfl⟩
    have hp := stk_e hp emo_4
    refine pf_X12_307 hx hb hts hown hK hP hD hS (wn := (w_Mo cy qmo mo_4)) 0 rfl (Nat.le_of_ble_eq_true rfl) (by subst emo_4; rfl) dX12_keep_26 (fun H locs hP hD hS => ?_)
    refine lv_aload_n hx hb dX12_keep_29 rfl (lv_at hl 0 rfl) ?_
    refine gf_X12_307 hx hb hts hown hK hP 0 rfl rfl dX12_keep_30 ?_
    simp only [Option.some.injEq, Prod.mk.injEq] at hp
    obtain ⟨h0, rfl⟩ := hp
    exact e_RIi hx hb hr hk hP hD hS dX12_keep_33 h0
  · have hp := ite_p hp c_1
    refine lv_iconst (v := (-1)) hx hb dX12_keep_9 (by decide) ?_
    simp only [Option.some.injEq, Prod.mk.injEq] at hp
    obtain ⟨h0, rfl⟩ := hp
    exact e_RIi hx hb hr hk hP hD hS dX12_keep_10 h0
/-! StormSlotsModel.undo()I -/
def Mo_undo (mo : Mem) : Option (Int32 × Mem) :=
  if (mo 21 0) = 0 then some ((-1), mo) else stk (upm mo 21 0 ((mo 21 0) - 1)) (fun mo_2 => bn1 (Mo_takes mo_2 (mo_2 21 0)) (fun mo_4 => some ((mo_4 21 0), mo_4)))
set_option maxHeartbeats 4000000 in
set_option maxRecDepth 100000 in
theorem c_X12_undo (l : Launch) (D : va_G) (cy : Nat → ClassId) (qmo : Nat → Nat) (mo : Mem) (r : Int32) (mo' : Mem) (hp : Mo_undo mo = some (r, mo')) : RI l yX12_undo cX12_undo 1 (some .int) 1 D cy [.ref (qmo 0)] (w_Mo cy qmo mo) (w_Mo cy qmo mo') r := by
  refine RI_of RX12 rfl (by decide) (Nat.le_of_ble_eq_true rfl) ?_
  intro p e s m below meth c A C0 hK hP hD hS hA ls hl
  obtain ⟨hx, hb, hr, hml, hown, hts, hk⟩ := id C0
  unfold Mo_undo at hp
  have hl : lv_has ls 1 [(0, .ref (qmo 0))] := hl
  refine lv_aload_n hx hb dX12_undo_0 rfl (lv_at hl 0 rfl) ?_
  refine gf_X12_307 hx hb hts hown hK hP 0 rfl rfl dX12_undo_1 ?_
  refine lv_if_ne (tgt := 9) hx hb dX12_undo_4 (by decide) (fun c_1 => ?_) (fun c_1 => ?_)
  · have hp := ite_n hp c_1
    refine lv_aload_n hx hb dX12_undo_9 rfl (lv_at hl 0 rfl) ?_
    refine lv_aload_n hx hb dX12_undo_10 rfl (lv_at hl 0 rfl) ?_
    refine gf_X12_307 hx hb hts hown hK hP 0 rfl rfl dX12_undo_11 ?_
    refine lv_iconst (v := 1) hx hb dX12_undo_14 (by decide) ?_
    refine lv_isub hx hb dX12_undo_15 ?_
    obtain ⟨mo_2, emo_2⟩ : ∃ y : Mem, y = upm mo 21 0 ((mo 21 0) - 1) := ⟨_, rfl⟩
    have hp := stk_e hp emo_2
    refine pf_X12_307 hx hb hts hown hK hP hD hS (wn := (w_Mo cy qmo mo_2)) 0 rfl (Nat.le_of_ble_eq_true rfl) (by subst emo_2; rfl) dX12_undo_16 (fun H locs hP hD hS => ?_)
    refine lv_aload_n hx hb dX12_undo_19 rfl (lv_at hl 0 rfl) ?_
    refine lv_aload_n hx hb dX12_undo_20 rfl (lv_at hl 0 rfl) ?_
    refine gf_X12_307 hx hb hts hown hK hP 0 rfl rfl dX12_undo_21 ?_
    obtain ⟨mo_4, hc_3, hp⟩ := bn1_s hp
    refine k_RVV (As := [.int (mo_2 21 0)]) (rest := []) ⟨hx, hb, hml, hown, hts⟩ hK hP hD hS hA FrS_rf (cw_X12_246 hts ⟨Nat.le_of_ble_eq_true rfl, Nat.le_of_ble_eq_true rfl⟩) 0 (ci := 12) rfl rfl rfl (c_X12_takes l D cy qmo mo_2 (mo_2 21 0) mo_4 hc_3) rfl hl.1 (Nat.le_of_ble_eq_true rfl) ⟨Nat.le_refl _, Nat.le_refl _⟩ dX12_undo_24 (fun H locs hP hD hS => ?_)
    refine lv_aload_n hx hb dX12_undo_27 rfl (lv_at hl 0 rfl) ?_
    refine gf_X12_307 hx hb hts hown hK hP 0 rfl rfl dX12_undo_28 ?_
    simp only [Option.some.injEq, Prod.mk.injEq] at hp
    obtain ⟨h0, rfl⟩ := hp
    exact e_RIi hx hb hr hk hP hD hS dX12_undo_31 h0
  · have hp := ite_p hp c_1
    refine lv_iconst (v := (-1)) hx hb dX12_undo_7 (by decide) ?_
    simp only [Option.some.injEq, Prod.mk.injEq] at hp
    obtain ⟨h0, rfl⟩ := hp
    exact e_RIi hx hb hr hk hP hD hS dX12_undo_8 h0
end SG14model
