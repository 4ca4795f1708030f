/-! the law: cases -/
section LC
variable {p : Program} {l : Launch} {e : Env} {s : State} {m : MethodId} {below : List Frame} {meth : Method} {c : Code} {b L : Nat} {xs : Nat → Int32} {D : va_G} {cy : Nat → ClassId} {ck : ClassId} {u qm : Nat → Nat} {Q : State → Prop} {H : Heap} {locs : List Loc} {cells slots : Nat} {ls : Array Slot} {N k P i : Nat} {qk : Nat → Nat → Nat} {mk : Nat → Nat → Mem} {sm bsa bsb rd di rof pn se fo ro ra vc os li fot rot rat vct ost lit mo : Mem}
set_option maxRecDepth 100000 in
theorem L_plan (B : LB p s m meth c b L xs D cy ck) (hl : lv_has ls 4 [(3, .int (nI i)), (2, .ref (qm 0)), (1, .ref (u 0)), (0, .ref b)]) (hi : i + 5 < L) (hL : L ≤ 3072) (hN : N ≤ 512) (hc : cells ≤ 500000 ∧ slots ≤ 7000000) (hI : LI N k P mk sm bsa pn fo ro ra vc os li mo) (hP : va_P D vwCl (LW cy u ck qk mk P qm sm bsa bsb rd di rof pn se fo ro ra vc os li fot rot rat vct ost lit mo) H) (hD : va_D (AA s) (LW cy u ck qk mk P qm sm bsa bsb rd di rof pn se fo ro ra vc os li fot rot rat vct ost lit mo)) (hS : va_S (AA s) s.heap H locs) (kk : LK p l e s m below meth c b D cy ck u qm Q cells slots ls N) : W p l e room_1 s m #[Value.ref b] below meth c H locs cells slots Q (F0 m 615 ls []) := by
  obtain ⟨hx, hb, hml, hown, hts, hX, hbl, hK, hN9, hQ9⟩ := id B
  have hbA : ¬ AA s b := Nat.not_le.mpr hbl
  have hA : ∀ q, s.heap.size ≤ q → AA s q := fun _ h => h
  obtain ⟨r, pn', fo', vc', os', mo', o1, o2, o3⟩ := s_plan   hN hI
  refine lv_aload_n hx hb dL_615 rfl (lv_at hl 2 rfl) ?_
  refine k_RIV (As := []) (rest := []) ⟨hx, hb, hml, hown, hts⟩ hK hP hD hS hA (wn := LW cy u ck qk mk P qm sm bsa bsb rd di rof pn' se fo' ro ra vc' os' li fot rot rat vct ost lit mo) (FrS_c rfl) (cw_L_62 (d := 6) hts ⟨Nat.le_of_ble_eq_true rfl, Nat.le_of_ble_eq_true rfl⟩) 0 (ci := 11) rfl rfl rfl (c_X11_plan l D cy (fun z => u z) (fun z => u (20 + z)) (fun z => u (40 + z)) (fun z => u (60 + z)) (fun z => u (80 + z)) (fun z => u (100 + z)) (fun z => u (120 + z)) (fun z => u (140 + z)) (fun z => u (160 + z)) (fun z => u (180 + z)) (fun z => u (200 + z)) (fun z => u (220 + z)) (fun z => u (240 + z)) (fun z => u (260 + z)) (fun z => u (280 + z)) (fun z => u (300 + z)) (fun z => u (320 + z)) (fun z => u (340 + z)) (fun z => u (360 + z)) (fun z => u (380 + z)) sm bsa bsb rd di rof pn se fo ro ra vc os li fot rot rat vct ost lit r pn' fo' vc' os' o1) rfl hl.1 (Nat.le_of_ble_eq_true rfl) ⟨by show cells + 0 ≤ 600000; omega, by show slots + 0 ≤ 7302250; omega⟩ dL_616 (fun H locs hP hD hS => ?_)
  refine lv_aload_n hx hb dL_619 rfl (lv_at hl 1 rfl) ?_
  refine k_RIV (As := []) (rest := [.int r]) ⟨hx, hb, hml, hown, hts⟩ hK hP hD hS hA (wn := LW cy u ck qk mk P qm sm bsa bsb rd di rof pn' se fo' ro ra vc' os' li fot rot rat vct ost lit mo') (FrS_m rfl) (cw_L_66 (d := 6) hts ⟨Nat.le_of_ble_eq_true rfl, Nat.le_of_ble_eq_true rfl⟩) 0 (ci := 12) rfl rfl rfl (c_X12_plan l D cy qm mo r mo' o2) rfl hl.1 (Nat.le_of_ble_eq_true rfl) ⟨by show cells + 0 ≤ 600000; omega, by show slots + 0 ≤ 7302250; omega⟩ dL_620 (fun H locs hP hD hS => ?_)
  refine lv_icmp_eq (tgt := 1620) hx hb dL_623 (by decide) (fun _ => ?_) (fun c1 => absurd rfl c1)
  exact kk _ _ _ _ _ _ _ _ _ _ _ _ _ _ _ _ _ _ _ _ _ _ _ _ _ _ _ _ _ (by omega) (by omega) o3 hP hD hS
set_option maxRecDepth 100000 in
theorem L_revise (B : LB p s m meth c b L xs D cy ck) (hl : lv_has ls 4 [(3, .int (nI i)), (2, .ref (qm 0)), (1, .ref (u 0)), (0, .ref b)]) (hi : i + 5 < L) (hL : L ≤ 3072) (hN : N ≤ 512) (hc : cells ≤ 500000 ∧ slots ≤ 7000000) (hI : LI N k P mk sm bsa pn fo ro ra vc os li mo) (hP : va_P D vwCl (LW cy u ck qk mk P qm sm bsa bsb rd di rof pn se fo ro ra vc os li fot rot rat vct ost lit mo) H) (hD : va_D (AA s) (LW cy u ck qk mk P qm sm bsa bsb rd di rof pn se fo ro ra vc os li fot rot rat vct ost lit mo)) (hS : va_S (AA s) s.heap H locs) (kk : LK p l e s m below meth c b D cy ck u qm Q cells slots ls N) : W p l e room_1 s m #[Value.ref b] below meth c H locs cells slots Q (F0 m 628 ls []) := by
  obtain ⟨hx, hb, hml, hown, hts, hX, hbl, hK, hN9, hQ9⟩ := id B
  have hbA : ¬ AA s b := Nat.not_le.mpr hbl
  have hA : ∀ q, s.heap.size ≤ q → AA s q := fun _ h => h
  obtain ⟨r, pn', fo', vc', os', mo', o1, o2, o3⟩ := s_revise   hN hI
  refine lv_aload_n hx hb dL_628 rfl (lv_at hl 2 rfl) ?_
  refine k_RIV (As := []) (rest := []) ⟨hx, hb, hml, hown, hts⟩ hK hP hD hS hA (wn := LW cy u ck qk mk P qm sm bsa bsb rd di rof pn' se fo' ro ra vc' os' li fot rot rat vct ost lit mo) (FrS_c rfl) (cw_L_67 (d := 6) hts ⟨Nat.le_of_ble_eq_true rfl, Nat.le_of_ble_eq_true rfl⟩) 0 (ci := 11) rfl rfl rfl (c_X11_revise l D cy (fun z => u z) (fun z => u (20 + z)) (fun z => u (40 + z)) (fun z => u (60 + z)) (fun z => u (80 + z)) (fun z => u (100 + z)) (fun z => u (120 + z)) (fun z => u (140 + z)) (fun z => u (160 + z)) (fun z => u (180 + z)) (fun z => u (200 + z)) (fun z => u (220 + z)) (fun z => u (240 + z)) (fun z => u (260 + z)) (fun z => u (280 + z)) (fun z => u (300 + z)) (fun z => u (320 + z)) (fun z => u (340 + z)) (fun z => u (360 + z)) (fun z => u (380 + z)) sm bsa bsb rd di rof pn se fo ro ra vc os li fot rot rat vct ost lit r pn' fo' vc' os' o1) rfl hl.1 (Nat.le_of_ble_eq_true rfl) ⟨by show cells + 0 ≤ 600000; omega, by show slots + 0 ≤ 7302250; omega⟩ dL_629 (fun H locs hP hD hS => ?_)
  refine lv_aload_n hx hb dL_632 rfl (lv_at hl 1 rfl) ?_
  refine k_RIV (As := []) (rest := [.int r]) ⟨hx, hb, hml, hown, hts⟩ hK hP hD hS hA (wn := LW cy u ck qk mk P qm sm bsa bsb rd di rof pn' se fo' ro ra vc' os' li fot rot rat vct ost lit mo') (FrS_m rfl) (cw_L_70 (d := 5) hts ⟨Nat.le_of_ble_eq_true rfl, Nat.le_of_ble_eq_true rfl⟩) 0 (ci := 12) rfl rfl rfl (c_X12_revise l D cy qm mo r mo' o2) rfl hl.1 (Nat.le_of_ble_eq_true rfl) ⟨by show cells + 0 ≤ 600000; omega, by show slots + 0 ≤ 7302250; omega⟩ dL_633 (fun H locs hP hD hS => ?_)
  refine lv_icmp_eq (tgt := 1620) hx hb dL_636 (by decide) (fun _ => ?_) (fun c1 => absurd rfl c1)
  exact kk _ _ _ _ _ _ _ _ _ _ _ _ _ _ _ _ _ _ _ _ _ _ _ _ _ _ _ _ _ (by omega) (by omega) o3 hP hD hS
set_option maxRecDepth 100000 in
theorem L_cancel (B : LB p s m meth c b L xs D cy ck) (hl : lv_has ls 4 [(3, .int (nI i)), (2, .ref (qm 0)), (1, .ref (u 0)), (0, .ref b)]) (hi : i + 5 < L) (hL : L ≤ 3072) (hN : N ≤ 512) (hc : cells ≤ 500000 ∧ slots ≤ 7000000) (hI : LI N k P mk sm bsa pn fo ro ra vc os li mo) (hP : va_P D vwCl (LW cy u ck qk mk P qm sm bsa bsb rd di rof pn se fo ro ra vc os li fot rot rat vct ost lit mo) H) (hD : va_D (AA s) (LW cy u ck qk mk P qm sm bsa bsb rd di rof pn se fo ro ra vc os li fot rot rat vct ost lit mo)) (hS : va_S (AA s) s.heap H locs) (kk : LK p l e s m below meth c b D cy ck u qm Q cells slots ls N) : W p l e room_1 s m #[Value.ref b] below meth c H locs cells slots Q (F0 m 641 ls []) := by
  obtain ⟨hx, hb, hml, hown, hts, hX, hbl, hK, hN9, hQ9⟩ := id B
  have hbA : ¬ AA s b := Nat.not_le.mpr hbl
  have hA : ∀ q, s.heap.size ≤ q → AA s q := fun _ h => h
  obtain ⟨a1, ea1⟩ : ∃ z : Int32, xs (nI i + 1).toNatClampNeg = z := ⟨_, rfl⟩
  obtain ⟨r, fo', vc', mo', o1, o2, o3⟩ := s_cancel (x := a1)  hN hI
  refine lv_aload_n hx hb dL_641 rfl (lv_at hl 2 rfl) ?_
  refine lv_aload_n hx hb dL_642 rfl (lv_at hl 3 rfl) ?_
  refine lv_iload_n hx hb dL_643 rfl (lv_at hl 0 rfl) ?_
  refine lv_iconst (v := 1) hx hb dL_644 (by decide) ?_
  refine lv_iadd hx hb dL_645 ?_
  refine va_sld hx hb hX hbl hbA hS (vin2 1 (by omega) (by omega)) dL_646 ?_
  rw [ea1]
  refine k_RIV (As := [.int a1]) (rest := []) ⟨hx, hb, hml, hown, hts⟩ hK hP hD hS hA (wn := LW cy u ck qk mk P qm sm bsa bsb rd di rof pn se fo' ro ra vc' os li fot rot rat vct ost lit mo) (FrS_c rfl) (cw_L_71 (d := 3) hts ⟨Nat.le_of_ble_eq_true rfl, Nat.le_of_ble_eq_true rfl⟩) 0 (ci := 11) rfl rfl rfl (c_X11_cancel l D cy (fun z => u z) (fun z => u (20 + z)) (fun z => u (40 + z)) (fun z => u (60 + z)) (fun z => u (80 + z)) (fun z => u (100 + z)) (fun z => u (120 + z)) (fun z => u (140 + z)) (fun z => u (160 + z)) (fun z => u (180 + z)) (fun z => u (200 + z)) (fun z => u (220 + z)) (fun z => u (240 + z)) (fun z => u (260 + z)) (fun z => u (280 + z)) (fun z => u (300 + z)) (fun z => u (320 + z)) (fun z => u (340 + z)) (fun z => u (360 + z)) (fun z => u (380 + z)) sm bsa bsb rd di rof pn se fo ro ra vc os li fot rot rat vct ost lit a1 r fo' vc' o1) rfl hl.1 (Nat.le_of_ble_eq_true rfl) ⟨by show cells + 0 ≤ 600000; omega, by show slots + 0 ≤ 7302250; omega⟩ dL_647 (fun H locs hP hD hS => ?_)
  refine lv_aload_n hx hb dL_650 rfl (lv_at hl 1 rfl) ?_
  refine lv_aload_n hx hb dL_651 rfl (lv_at hl 3 rfl) ?_
  refine lv_iload_n hx hb dL_652 rfl (lv_at hl 0 rfl) ?_
  refine lv_iconst (v := 1) hx hb dL_653 (by decide) ?_
  refine lv_iadd hx hb dL_654 ?_
  refine va_sld hx hb hX hbl hbA hS (vin2 1 (by omega) (by omega)) dL_655 ?_
  rw [ea1]
  refine k_RIV (As := [.int a1]) (rest := [.int r]) ⟨hx, hb, hml, hown, hts⟩ hK hP hD hS hA (wn := LW cy u ck qk mk P qm sm bsa bsb rd di rof pn se fo' ro ra vc' os li fot rot rat vct ost lit mo') (FrS_m rfl) (cw_L_74 (d := 3) hts ⟨Nat.le_of_ble_eq_true rfl, Nat.le_of_ble_eq_true rfl⟩) 0 (ci := 12) rfl rfl rfl (c_X12_cancel l D cy qm mo a1 r mo' o2) rfl hl.1 (Nat.le_of_ble_eq_true rfl) ⟨by show cells + 0 ≤ 600000; omega, by show slots + 0 ≤ 7302250; omega⟩ dL_656 (fun H locs hP hD hS => ?_)
  refine lv_icmp_eq (tgt := 1620) hx hb dL_659 (by decide) (fun _ => ?_) (fun c1 => absurd rfl c1)
  exact kk _ _ _ _ _ _ _ _ _ _ _ _ _ _ _ _ _ _ _ _ _ _ _ _ _ _ _ _ _ (by omega) (by omega) o3 hP hD hS
set_option maxRecDepth 100000 in
theorem L_exchange (B : LB p s m meth c b L xs D cy ck) (hl : lv_has ls 4 [(3, .int (nI i)), (2, .ref (qm 0)), (1, .ref (u 0)), (0, .ref b)]) (hi : i + 5 < L) (hL : L ≤ 3072) (hN : N ≤ 512) (hc : cells ≤ 500000 ∧ slots ≤ 7000000) (hI : LI N k P mk sm bsa pn fo ro ra vc os li mo) (hP : va_P D vwCl (LW cy u ck qk mk P qm sm bsa bsb rd di rof pn se fo ro ra vc os li fot rot rat vct ost lit mo) H) (hD : va_D (AA s) (LW cy u ck qk mk P qm sm bsa bsb rd di rof pn se fo ro ra vc os li fot rot rat vct ost lit mo)) (hS : va_S (AA s) s.heap H locs) (kk : LK p l e s m below meth c b D cy ck u qm Q cells slots ls N) : W p l e room_1 s m #[Value.ref b] below meth c H locs cells slots Q (F0 m 664 ls []) := by
  obtain ⟨hx, hb, hml, hown, hts, hX, hbl, hK, hN9, hQ9⟩ := id B
  have hbA : ¬ AA s b := Nat.not_le.mpr hbl
  have hA : ∀ q, s.heap.size ≤ q → AA s q := fun _ h => h
  obtain ⟨a1, ea1⟩ : ∃ z : Int32, xs (nI i + 1).toNatClampNeg = z := ⟨_, rfl⟩
  obtain ⟨a2, ea2⟩ : ∃ z : Int32, xs (nI i + 2).toNatClampNeg = z := ⟨_, rfl⟩
  obtain ⟨r, fo', mo', o1, o2, o3⟩ := s_exchange (x := a1) (y := a2)  hN hI
  refine lv_aload_n hx hb dL_664 rfl (lv_at hl 2 rfl) ?_
  refine lv_aload_n hx hb dL_665 rfl (lv_at hl 3 rfl) ?_
  refine lv_iload_n hx hb dL_666 rfl (lv_at hl 0 rfl) ?_
  refine lv_iconst (v := 1) hx hb dL_667 (by decide) ?_
  refine lv_iadd hx hb dL_668 ?_
  refine va_sld hx hb hX hbl hbA hS (vin2 1 (by omega) (by omega)) dL_669 ?_
  rw [ea1]
  refine lv_aload_n hx hb dL_670 rfl (lv_at hl 3 rfl) ?_
  refine lv_iload_n hx hb dL_671 rfl (lv_at hl 0 rfl) ?_
  refine lv_iconst (v := 2) hx hb dL_672 (by decide) ?_
  refine lv_iadd hx hb dL_673 ?_
  refine va_sld hx hb hX hbl hbA hS (vin2 2 (by omega) (by omega)) dL_674 ?_
  rw [ea2]
  refine k_RIV (As := [.int a1, .int a2]) (rest := []) ⟨hx, hb, hml, hown, hts⟩ hK hP hD hS hA (wn := LW cy u ck qk mk P qm sm bsa bsb rd di rof pn se fo' ro ra vc os li fot rot rat vct ost lit mo) (FrS_c rfl) (cw_L_75 (d := 3) hts ⟨Nat.le_of_ble_eq_true rfl, Nat.le_of_ble_eq_true rfl⟩) 0 (ci := 11) rfl rfl rfl (c_X11_exchange l D cy (fun z => u z) (fun z => u (20 + z)) (fun z => u (40 + z)) (fun z => u (60 + z)) (fun z => u (80 + z)) (fun z => u (100 + z)) (fun z => u (120 + z)) (fun z => u (140 + z)) (fun z => u (160 + z)) (fun z => u (180 + z)) (fun z => u (200 + z)) (fun z => u (220 + z)) (fun z => u (240 + z)) (fun z => u (260 + z)) (fun z => u (280 + z)) (fun z => u (300 + z)) (fun z => u (320 + z)) (fun z => u (340 + z)) (fun z => u (360 + z)) (fun z => u (380 + z)) sm bsa bsb rd di rof pn se fo ro ra vc os li fot rot rat vct ost lit a1 a2 r fo' o1) rfl hl.1 (Nat.le_of_ble_eq_true rfl) ⟨by show cells + 0 ≤ 600000; omega, by show slots + 0 ≤ 7302250; omega⟩ dL_675 (fun H locs hP hD hS => ?_)
  refine lv_aload_n hx hb dL_678 rfl (lv_at hl 1 rfl) ?_
  refine lv_aload_n hx hb dL_679 rfl (lv_at hl 3 rfl) ?_
  refine lv_iload_n hx hb dL_680 rfl (lv_at hl 0 rfl) ?_
  refine lv_iconst (v := 1) hx hb dL_681 (by decide) ?_
  refine lv_iadd hx hb dL_682 ?_
  refine va_sld hx hb hX hbl hbA hS (vin2 1 (by omega) (by omega)) dL_683 ?_
  rw [ea1]
  refine lv_aload_n hx hb dL_684 rfl (lv_at hl 3 rfl) ?_
  refine lv_iload_n hx hb dL_685 rfl (lv_at hl 0 rfl) ?_
  refine lv_iconst (v := 2) hx hb dL_686 (by decide) ?_
  refine lv_iadd hx hb dL_687 ?_
  refine va_sld hx hb hX hbl hbA hS (vin2 2 (by omega) (by omega)) dL_688 ?_
  rw [ea2]
  refine k_RIV (As := [.int a1, .int a2]) (rest := [.int r]) ⟨hx, hb, hml, hown, hts⟩ hK hP hD hS hA (wn := LW cy u ck qk mk P qm sm bsa bsb rd di rof pn se fo' ro ra vc os li fot rot rat vct ost lit mo') (FrS_m rfl) (cw_L_78 (d := 5) hts ⟨Nat.le_of_ble_eq_true rfl, Nat.le_of_ble_eq_true rfl⟩) 0 (ci := 12) rfl rfl rfl (c_X12_exchange l D cy qm mo a1 a2 r mo' o2) rfl hl.1 (Nat.le_of_ble_eq_true rfl) ⟨by show cells + 0 ≤ 600000; omega, by show slots + 0 ≤ 7302250; omega⟩ dL_689 (fun H locs hP hD hS => ?_)
  refine lv_icmp_eq (tgt := 1620) hx hb dL_692 (by decide) (fun _ => ?_) (fun c1 => absurd rfl c1)
  exact kk _ _ _ _ _ _ _ _ _ _ _ _ _ _ _ _ _ _ _ _ _ _ _ _ _ _ _ _ _ (by omega) (by omega) o3 hP hD hS
set_option maxRecDepth 100000 in
theorem L_move (B : LB p s m meth c b L xs D cy ck) (hl : lv_has ls 4 [(3, .int (nI i)), (2, .ref (qm 0)), (1, .ref (u 0)), (0, .ref b)]) (hi : i + 5 < L) (hL : L ≤ 3072) (hN : N ≤ 512) (hc : cells ≤ 500000 ∧ slots ≤ 7000000) (hI : LI N k P mk sm bsa pn fo ro ra vc os li mo) (hP : va_P D vwCl (LW cy u ck qk mk P qm sm bsa bsb rd di rof pn se fo ro ra vc os li fot rot rat vct ost lit mo) H) (hD : va_D (AA s) (LW cy u ck qk mk P qm sm bsa bsb rd di rof pn se fo ro ra vc os li fot rot rat vct ost lit mo)) (hS : va_S (AA s) s.heap H locs) (kk : LK p l e s m below meth c b D cy ck u qm Q cells slots ls N) : W p l e room_1 s m #[Value.ref b] below meth c H locs cells slots Q (F0 m 697 ls []) := by
  obtain ⟨hx, hb, hml, hown, hts, hX, hbl, hK, hN9, hQ9⟩ := id B
  have hbA : ¬ AA s b := Nat.not_le.mpr hbl
  have hA : ∀ q, s.heap.size ≤ q → AA s q := fun _ h => h
  obtain ⟨a1, ea1⟩ : ∃ z : Int32, xs (nI i + 1).toNatClampNeg = z := ⟨_, rfl⟩
  obtain ⟨a2, ea2⟩ : ∃ z : Int32, xs (nI i + 2).toNatClampNeg = z := ⟨_, rfl⟩
  obtain ⟨r, fo', vc', mo', o1, o2, o3⟩ := s_move (x := a1) (y := a2)  hN hI
  refine lv_aload_n hx hb dL_697 rfl (lv_at hl 2 rfl) ?_
  refine lv_aload_n hx hb dL_698 rfl (lv_at hl 3 rfl) ?_
  refine lv_iload_n hx hb dL_699 rfl (lv_at hl 0 rfl) ?_
  refine lv_iconst (v := 1) hx hb dL_700 (by decide) ?_
  refine lv_iadd hx hb dL_701 ?_
  refine va_sld hx hb hX hbl hbA hS (vin2 1 (by omega) (by omega)) dL_702 ?_
  rw [ea1]
  refine lv_aload_n hx hb dL_703 rfl (lv_at hl 3 rfl) ?_
  refine lv_iload_n hx hb dL_704 rfl (lv_at hl 0 rfl) ?_
  refine lv_iconst (v := 2) hx hb dL_705 (by decide) ?_
  refine lv_iadd hx hb dL_706 ?_
  refine va_sld hx hb hX hbl hbA hS (vin2 2 (by omega) (by omega)) dL_707 ?_
  rw [ea2]
  refine k_RIV (As := [.int a1, .int a2]) (rest := []) ⟨hx, hb, hml, hown, hts⟩ hK hP hD hS hA (wn := LW cy u ck qk mk P qm sm bsa bsb rd di rof pn se fo' ro ra vc' os li fot rot rat vct ost lit mo) (FrS_c rfl) (cw_L_79 (d := 3) hts ⟨Nat.le_of_ble_eq_true rfl, Nat.le_of_ble_eq_true rfl⟩) 0 (ci := 11) rfl rfl rfl (c_X11_move l D cy (fun z => u z) (fun z => u (20 + z)) (fun z => u (40 + z)) (fun z => u (60 + z)) (fun z => u (80 + z)) (fun z => u (100 + z)) (fun z => u (120 + z)) (fun z => u (140 + z)) (fun z => u (160 + z)) (fun z => u (180 + z)) (fun z => u (200 + z)) (fun z => u (220 + z)) (fun z => u (240 + z)) (fun z => u (260 + z)) (fun z => u (280 + z)) (fun z => u (300 + z)) (fun z => u (320 + z)) (fun z => u (340 + z)) (fun z => u (360 + z)) (fun z => u (380 + z)) sm bsa bsb rd di rof pn se fo ro ra vc os li fot rot rat vct ost lit a1 a2 r fo' vc' o1) rfl hl.1 (Nat.le_of_ble_eq_true rfl) ⟨by show cells + 0 ≤ 600000; omega, by show slots + 0 ≤ 7302250; omega⟩ dL_708 (fun H locs hP hD hS => ?_)
  refine lv_aload_n hx hb dL_711 rfl (lv_at hl 1 rfl) ?_
  refine lv_aload_n hx hb dL_712 rfl (lv_at hl 3 rfl) ?_
  refine lv_iload_n hx hb dL_713 rfl (lv_at hl 0 rfl) ?_
  refine lv_iconst (v := 1) hx hb dL_714 (by decide) ?_
  refine lv_iadd hx hb dL_715 ?_
  refine va_sld hx hb hX hbl hbA hS (vin2 1 (by omega) (by omega)) dL_716 ?_
  rw [ea1]
  refine lv_aload_n hx hb dL_717 rfl (lv_at hl 3 rfl) ?_
  refine lv_iload_n hx hb dL_718 rfl (lv_at hl 0 rfl) ?_
  refine lv_iconst (v := 2) hx hb dL_719 (by decide) ?_
  refine lv_iadd hx hb dL_720 ?_
  refine va_sld hx hb hX hbl hbA hS (vin2 2 (by omega) (by omega)) dL_721 ?_
  rw [ea2]
  refine k_RIV (As := [.int a1, .int a2]) (rest := [.int r]) ⟨hx, hb, hml, hown, hts⟩ hK hP hD hS hA (wn := LW cy u ck qk mk P qm sm bsa bsb rd di rof pn se fo' ro ra vc' os li fot rot rat vct ost lit mo') (FrS_m rfl) (cw_L_82 (d := 4) hts ⟨Nat.le_of_ble_eq_true rfl, Nat.le_of_ble_eq_true rfl⟩) 0 (ci := 12) rfl rfl rfl (c_X12_move l D cy qm mo a1 a2 r mo' o2) rfl hl.1 (Nat.le_of_ble_eq_true rfl) ⟨by show cells + 0 ≤ 600000; omega, by show slots + 0 ≤ 7302250; omega⟩ dL_722 (fun H locs hP hD hS => ?_)
  refine lv_icmp_eq (tgt := 1620) hx hb dL_725 (by decide) (fun _ => ?_) (fun c1 => absurd rfl c1)
  exact kk _ _ _ _ _ _ _ _ _ _ _ _ _ _ _ _ _ _ _ _ _ _ _ _ _ _ _ _ _ (by omega) (by omega) o3 hP hD hS
set_option maxRecDepth 100000 in
theorem L_fill (B : LB p s m meth c b L xs D cy ck) (hl : lv_has ls 4 [(3, .int (nI i)), (2, .ref (qm 0)), (1, .ref (u 0)), (0, .ref b)]) (hi : i + 5 < L) (hL : L ≤ 3072) (hN : N ≤ 512) (hc : cells ≤ 500000 ∧ slots ≤ 7000000) (hI : LI N k P mk sm bsa pn fo ro ra vc os li mo) (hP : va_P D vwCl (LW cy u ck qk mk P qm sm bsa bsb rd di rof pn se fo ro ra vc os li fot rot rat vct ost lit mo) H) (hD : va_D (AA s) (LW cy u ck qk mk P qm sm bsa bsb rd di rof pn se fo ro ra vc os li fot rot rat vct ost lit mo)) (hS : va_S (AA s) s.heap H locs) (kk : LK p l e s m below meth c b D cy ck u qm Q cells slots ls N) : W p l e room_1 s m #[Value.ref b] below meth c H locs cells slots Q (F0 m 730 ls []) := by
  obtain ⟨hx, hb, hml, hown, hts, hX, hbl, hK, hN9, hQ9⟩ := id B
  have hbA : ¬ AA s b := Nat.not_le.mpr hbl
  have hA : ∀ q, s.heap.size ≤ q → AA s q := fun _ h => h
  obtain ⟨r, fo', vc', mo', o1, o2, o3⟩ := s_fill   hN hI
  refine lv_aload_n hx hb dL_730 rfl (lv_at hl 2 rfl) ?_
  refine k_RIV (As := []) (rest := []) ⟨hx, hb, hml, hown, hts⟩ hK hP hD hS hA (wn := LW cy u ck qk mk P qm sm bsa bsb rd di rof pn se fo' ro ra vc' os li fot rot rat vct ost lit mo) (FrS_c rfl) (cw_L_83 (d := 5) hts ⟨Nat.le_of_ble_eq_true rfl, Nat.le_of_ble_eq_true rfl⟩) 0 (ci := 11) rfl rfl rfl (c_X11_fill l D cy (fun z => u z) (fun z => u (20 + z)) (fun z => u (40 + z)) (fun z => u (60 + z)) (fun z => u (80 + z)) (fun z => u (100 + z)) (fun z => u (120 + z)) (fun z => u (140 + z)) (fun z => u (160 + z)) (fun z => u (180 + z)) (fun z => u (200 + z)) (fun z => u (220 + z)) (fun z => u (240 + z)) (fun z => u (260 + z)) (fun z => u (280 + z)) (fun z => u (300 + z)) (fun z => u (320 + z)) (fun z => u (340 + z)) (fun z => u (360 + z)) (fun z => u (380 + z)) sm bsa bsb rd di rof pn se fo ro ra vc os li fot rot rat vct ost lit r fo' vc' o1) rfl hl.1 (Nat.le_of_ble_eq_true rfl) ⟨by show cells + 0 ≤ 600000; omega, by show slots + 0 ≤ 7302250; omega⟩ dL_731 (fun H locs hP hD hS => ?_)
  refine lv_aload_n hx hb dL_734 rfl (lv_at hl 1 rfl) ?_
  refine k_RIV (As := []) (rest := [.int r]) ⟨hx, hb, hml, hown, hts⟩ hK hP hD hS hA (wn := LW cy u ck qk mk P qm sm bsa bsb rd di rof pn se fo' ro ra vc' os li fot rot rat vct ost lit mo') (FrS_m rfl) (cw_L_86 (d := 6) hts ⟨Nat.le_of_ble_eq_true rfl, Nat.le_of_ble_eq_true rfl⟩) 0 (ci := 12) rfl rfl rfl (c_X12_fill l D cy qm mo r mo' o2) rfl hl.1 (Nat.le_of_ble_eq_true rfl) ⟨by show cells + 0 ≤ 600000; omega, by show slots + 0 ≤ 7302250; omega⟩ dL_735 (fun H locs hP hD hS => ?_)
  refine lv_icmp_eq (tgt := 1620) hx hb dL_738 (by decide) (fun _ => ?_) (fun c1 => absurd rfl c1)
  exact kk _ _ _ _ _ _ _ _ _ _ _ _ _ _ _ _ _ _ _ _ _ _ _ _ _ _ _ _ _ (by omega) (by omega) o3 hP hD hS
set_option maxRecDepth 100000 in
theorem L_vacant (B : LB p s m meth c b L xs D cy ck) (hl : lv_has ls 4 [(3, .int (nI i)), (2, .ref (qm 0)), (1, .ref (u 0)), (0, .ref b)]) (hi : i + 5 < L) (hL : L ≤ 3072) (hN : N ≤ 512) (hc : cells ≤ 500000 ∧ slots ≤ 7000000) (hI : LI N k P mk sm bsa pn fo ro ra vc os li mo) (hP : va_P D vwCl (LW cy u ck qk mk P qm sm bsa bsb rd di rof pn se fo ro ra vc os li fot rot rat vct ost lit mo) H) (hD : va_D (AA s) (LW cy u ck qk mk P qm sm bsa bsb rd di rof pn se fo ro ra vc os li fot rot rat vct ost lit mo)) (hS : va_S (AA s) s.heap H locs) (kk : LK p l e s m below meth c b D cy ck u qm Q cells slots ls N) : W p l e room_1 s m #[Value.ref b] below meth c H locs cells slots Q (F0 m 743 ls []) := by
  obtain ⟨hx, hb, hml, hown, hts, hX, hbl, hK, hN9, hQ9⟩ := id B
  have hbA : ¬ AA s b := Nat.not_le.mpr hbl
  have hA : ∀ q, s.heap.size ≤ q → AA s q := fun _ h => h
  obtain ⟨a1, ea1⟩ : ∃ z : Int32, xs (nI i + 1).toNatClampNeg = z := ⟨_, rfl⟩
  obtain ⟨a2, ea2⟩ : ∃ z : Int32, xs (nI i + 2).toNatClampNeg = z := ⟨_, rfl⟩
  obtain ⟨r, o1, o2, o3⟩ := s_vacant (x := a1) (y := a2)  hN hI
  refine lv_aload_n hx hb dL_743 rfl (lv_at hl 2 rfl) ?_
  refine lv_aload_n hx hb dL_744 rfl (lv_at hl 3 rfl) ?_
  refine lv_iload_n hx hb dL_745 rfl (lv_at hl 0 rfl) ?_
  refine lv_iconst (v := 1) hx hb dL_746 (by decide) ?_
  refine lv_iadd hx hb dL_747 ?_
  refine va_sld hx hb hX hbl hbA hS (vin2 1 (by omega) (by omega)) dL_748 ?_
  rw [ea1]
  refine lv_aload_n hx hb dL_749 rfl (lv_at hl 3 rfl) ?_
  refine lv_iload_n hx hb dL_750 rfl (lv_at hl 0 rfl) ?_
  refine lv_iconst (v := 2) hx hb dL_751 (by decide) ?_
  refine lv_iadd hx hb dL_752 ?_
  refine va_sld hx hb hX hbl hbA hS (vin2 2 (by omega) (by omega)) dL_753 ?_
  rw [ea2]
  refine k_ROV (As := [.int a1, .int a2]) (rest := []) ⟨hx, hb, hml, hown, hts⟩ hK (P_c hP) (cw_L_87 (d := 2) hts ⟨Nat.le_of_ble_eq_true rfl, Nat.le_of_ble_eq_true rfl⟩) 0 (ci := 11) rfl rfl rfl (c_X11_vacant l D cy (fun z => u z) (fun z => u (20 + z)) (fun z => u (40 + z)) (fun z => u (60 + z)) (fun z => u (80 + z)) (fun z => u (100 + z)) (fun z => u (120 + z)) (fun z => u (140 + z)) (fun z => u (160 + z)) (fun z => u (180 + z)) (fun z => u (200 + z)) (fun z => u (220 + z)) (fun z => u (240 + z)) (fun z => u (260 + z)) (fun z => u (280 + z)) (fun z => u (300 + z)) (fun z => u (320 + z)) (fun z => u (340 + z)) (fun z => u (360 + z)) (fun z => u (380 + z)) sm bsa bsb rd di rof pn se fo ro ra vc os li fot rot rat vct ost lit a1 a2 r o1) rfl hl.1 (Nat.le_of_ble_eq_true rfl) ⟨by show cells + 0 ≤ 600000; omega, by show slots + 0 ≤ 7302250; omega⟩ dL_754 ?_
  refine lv_aload_n hx hb dL_757 rfl (lv_at hl 1 rfl) ?_
  refine lv_aload_n hx hb dL_758 rfl (lv_at hl 3 rfl) ?_
  refine lv_iload_n hx hb dL_759 rfl (lv_at hl 0 rfl) ?_
  refine lv_iconst (v := 1) hx hb dL_760 (by decide) ?_
  refine lv_iadd hx hb dL_761 ?_
  refine va_sld hx hb hX hbl hbA hS (vin2 1 (by omega) (by omega)) dL_762 ?_
  rw [ea1]
  refine lv_aload_n hx hb dL_763 rfl (lv_at hl 3 rfl) ?_
  refine lv_iload_n hx hb dL_764 rfl (lv_at hl 0 rfl) ?_
  refine lv_iconst (v := 2) hx hb dL_765 (by decide) ?_
  refine lv_iadd hx hb dL_766 ?_
  refine va_sld hx hb hX hbl hbA hS (vin2 2 (by omega) (by omega)) dL_767 ?_
  rw [ea2]
  refine k_ROV (As := [.int a1, .int a2]) (rest := [.int r]) ⟨hx, hb, hml, hown, hts⟩ hK (P_m hP) (cw_L_90 (d := 1) hts ⟨Nat.le_of_ble_eq_true rfl, Nat.le_of_ble_eq_true rfl⟩) 0 (ci := 12) rfl rfl rfl (c_X12_vacant l D cy qm mo a1 a2 r o2) rfl hl.1 (Nat.le_of_ble_eq_true rfl) ⟨by show cells + 0 ≤ 600000; omega, by show slots + 0 ≤ 7302250; omega⟩ dL_768 ?_
  refine lv_icmp_eq (tgt := 1620) hx hb dL_771 (by decide) (fun _ => ?_) (fun c1 => absurd rfl c1)
  exact kk _ _ _ _ _ _ _ _ _ _ _ _ _ _ _ _ _ _ _ _ _ _ _ _ _ _ _ _ _ (by omega) (by omega) o3 hP hD hS
set_option maxRecDepth 100000 in
theorem L_offer (B : LB p s m meth c b L xs D cy ck) (hl : lv_has ls 4 [(3, .int (nI i)), (2, .ref (qm 0)), (1, .ref (u 0)), (0, .ref b)]) (hi : i + 5 < L) (hL : L ≤ 3072) (hN : N ≤ 512) (hc : cells ≤ 500000 ∧ slots ≤ 7000000) (hI : LI N k P mk sm bsa pn fo ro ra vc os li mo) (hP : va_P D vwCl (LW cy u ck qk mk P qm sm bsa bsb rd di rof pn se fo ro ra vc os li fot rot rat vct ost lit mo) H) (hD : va_D (AA s) (LW cy u ck qk mk P qm sm bsa bsb rd di rof pn se fo ro ra vc os li fot rot rat vct ost lit mo)) (hS : va_S (AA s) s.heap H locs) (kk : LK p l e s m below meth c b D cy ck u qm Q cells slots ls N) : W p l e room_1 s m #[Value.ref b] below meth c H locs cells slots Q (F0 m 776 ls []) := by
  obtain ⟨hx, hb, hml, hown, hts, hX, hbl, hK, hN9, hQ9⟩ := id B
  have hbA : ¬ AA s b := Nat.not_le.mpr hbl
  have hA : ∀ q, s.heap.size ≤ q → AA s q := fun _ h => h
  obtain ⟨a1, ea1⟩ : ∃ z : Int32, xs (nI i + 1).toNatClampNeg = z := ⟨_, rfl⟩
  obtain ⟨a2, ea2⟩ : ∃ z : Int32, xs (nI i + 2).toNatClampNeg = z := ⟨_, rfl⟩
  obtain ⟨a3, ea3⟩ : ∃ z : Int32, xs (nI i + 3).toNatClampNeg = z := ⟨_, rfl⟩
  obtain ⟨a4, ea4⟩ : ∃ z : Int32, xs (nI i + 4).toNatClampNeg = z := ⟨_, rfl⟩
  obtain ⟨r, os', mo', o1, o2, o3⟩ := s_offer (x := a1) (y := a2) (z := a3) (w := a4)  hN hI
  refine lv_aload_n hx hb dL_776 rfl (lv_at hl 2 rfl) ?_
  refine lv_aload_n hx hb dL_777 rfl (lv_at hl 3 rfl) ?_
  refine lv_iload_n hx hb dL_778 rfl (lv_at hl 0 rfl) ?_
  refine lv_iconst (v := 1) hx hb dL_779 (by decide) ?_
  refine lv_iadd hx hb dL_780 ?_
  refine va_sld hx hb hX hbl hbA hS (vin2 1 (by omega) (by omega)) dL_781 ?_
  rw [ea1]
  refine lv_aload_n hx hb dL_782 rfl (lv_at hl 3 rfl) ?_
  refine lv_iload_n hx hb dL_783 rfl (lv_at hl 0 rfl) ?_
  refine lv_iconst (v := 2) hx hb dL_784 (by decide) ?_
  refine lv_iadd hx hb dL_785 ?_
  refine va_sld hx hb hX hbl hbA hS (vin2 2 (by omega) (by omega)) dL_786 ?_
  rw [ea2]
  refine lv_aload_n hx hb dL_787 rfl (lv_at hl 3 rfl) ?_
  refine lv_iload_n hx hb dL_788 rfl (lv_at hl 0 rfl) ?_
  refine lv_iconst (v := 3) hx hb dL_789 (by decide) ?_
  refine lv_iadd hx hb dL_790 ?_
  refine va_sld hx hb hX hbl hbA hS (vin2 3 (by omega) (by omega)) dL_791 ?_
  rw [ea3]
  refine lv_aload_n hx hb dL_792 rfl (lv_at hl 3 rfl) ?_
  refine lv_iload_n hx hb dL_793 rfl (lv_at hl 0 rfl) ?_
  refine lv_iconst (v := 4) hx hb dL_794 (by decide) ?_
  refine lv_iadd hx hb dL_795 ?_
  refine va_sld hx hb hX hbl hbA hS (vin2 4 (by omega) (by omega)) dL_796 ?_
  rw [ea4]
  refine k_RIV (As := [.int a1, .int a2, .int a3, .int a4]) (rest := []) ⟨hx, hb, hml, hown, hts⟩ hK hP hD hS hA (wn := LW cy u ck qk mk P qm sm bsa bsb rd di rof pn se fo ro ra vc os' li fot rot rat vct ost lit mo) (FrS_c rfl) (cw_L_91 (d := 2) hts ⟨Nat.le_of_ble_eq_true rfl, Nat.le_of_ble_eq_true rfl⟩) 0 (ci := 11) rfl rfl rfl (c_X11_offer l D cy (fun z => u z) (fun z => u (20 + z)) (fun z => u (40 + z)) (fun z => u (60 + z)) (fun z => u (80 + z)) (fun z => u (100 + z)) (fun z => u (120 + z)) (fun z => u (140 + z)) (fun z => u (160 + z)) (fun z => u (180 + z)) (fun z => u (200 + z)) (fun z => u (220 + z)) (fun z => u (240 + z)) (fun z => u (260 + z)) (fun z => u (280 + z)) (fun z => u (300 + z)) (fun z => u (320 + z)) (fun z => u (340 + z)) (fun z => u (360 + z)) (fun z => u (380 + z)) sm bsa bsb rd di rof pn se fo ro ra vc os li fot rot rat vct ost lit a1 a2 a3 a4 r os' o1) rfl hl.1 (Nat.le_of_ble_eq_true rfl) ⟨by show cells + 0 ≤ 600000; omega, by show slots + 0 ≤ 7302250; omega⟩ dL_797 (fun H locs hP hD hS => ?_)
  refine lv_aload_n hx hb dL_800 rfl (lv_at hl 1 rfl) ?_
  refine lv_aload_n hx hb dL_801 rfl (lv_at hl 3 rfl) ?_
  refine lv_iload_n hx hb dL_802 rfl (lv_at hl 0 rfl) ?_
  refine lv_iconst (v := 1) hx hb dL_803 (by decide) ?_
  refine lv_iadd hx hb dL_804 ?_
  refine va_sld hx hb hX hbl hbA hS (vin2 1 (by omega) (by omega)) dL_805 ?_
  rw [ea1]
  refine lv_aload_n hx hb dL_806 rfl (lv_at hl 3 rfl) ?_
  refine lv_iload_n hx hb dL_807 rfl (lv_at hl 0 rfl) ?_
  refine lv_iconst (v := 2) hx hb dL_808 (by decide) ?_
  refine lv_iadd hx hb dL_809 ?_
  refine va_sld hx hb hX hbl hbA hS (vin2 2 (by omega) (by omega)) dL_810 ?_
  rw [ea2]
  refine lv_aload_n hx hb dL_811 rfl (lv_at hl 3 rfl) ?_
  refine lv_iload_n hx hb dL_812 rfl (lv_at hl 0 rfl) ?_
  refine lv_iconst (v := 3) hx hb dL_813 (by decide) ?_
  refine lv_iadd hx hb dL_814 ?_
  refine va_sld hx hb hX hbl hbA hS (vin2 3 (by omega) (by omega)) dL_815 ?_
  rw [ea3]
  refine lv_aload_n hx hb dL_816 rfl (lv_at hl 3 rfl) ?_
  refine lv_iload_n hx hb dL_817 rfl (lv_at hl 0 rfl) ?_
  refine lv_iconst (v := 4) hx hb dL_818 (by decide) ?_
  refine lv_iadd hx hb dL_819 ?_
  refine va_sld hx hb hX hbl hbA hS (vin2 4 (by omega) (by omega)) dL_820 ?_
  rw [ea4]
  refine k_RIV (As := [.int a1, .int a2, .int a3, .int a4]) (rest := [.int r]) ⟨hx, hb, hml, hown, hts⟩ hK hP hD hS hA (wn := LW cy u ck qk mk P qm sm bsa bsb rd di rof pn se fo ro ra vc os' li fot rot rat vct ost lit mo') (FrS_m rfl) (cw_L_94 (d := 4) hts ⟨Nat.le_of_ble_eq_true rfl, Nat.le_of_ble_eq_true rfl⟩) 0 (ci := 12) rfl rfl rfl (c_X12_offer l D cy qm mo a1 a2 a3 a4 r mo' o2) rfl hl.1 (Nat.le_of_ble_eq_true rfl) ⟨by show cells + 0 ≤ 600000; omega, by show slots + 0 ≤ 7302250; omega⟩ dL_821 (fun H locs hP hD hS => ?_)
  refine lv_icmp_eq (tgt := 1620) hx hb dL_824 (by decide) (fun _ => ?_) (fun c1 => absurd rfl c1)
  exact kk _ _ _ _ _ _ _ _ _ _ _ _ _ _ _ _ _ _ _ _ _ _ _ _ _ _ _ _ _ (by omega) (by omega) o3 hP hD hS
set_option maxRecDepth 100000 in
theorem L_withdraw (B : LB p s m meth c b L xs D cy ck) (hl : lv_has ls 4 [(3, .int (nI i)), (2, .ref (qm 0)), (1, .ref (u 0)), (0, .ref b)]) (hi : i + 5 < L) (hL : L ≤ 3072) (hN : N ≤ 512) (hc : cells ≤ 500000 ∧ slots ≤ 7000000) (hI : LI N k P mk sm bsa pn fo ro ra vc os li mo) (hP : va_P D vwCl (LW cy u ck qk mk P qm sm bsa bsb rd di rof pn se fo ro ra vc os li fot rot rat vct ost lit mo) H) (hD : va_D (AA s) (LW cy u ck qk mk P qm sm bsa bsb rd di rof pn se fo ro ra vc os li fot rot rat vct ost lit mo)) (hS : va_S (AA s) s.heap H locs) (kk : LK p l e s m below meth c b D cy ck u qm Q cells slots ls N) : W p l e room_1 s m #[Value.ref b] below meth c H locs cells slots Q (F0 m 829 ls []) := by
  obtain ⟨hx, hb, hml, hown, hts, hX, hbl, hK, hN9, hQ9⟩ := id B
  have hbA : ¬ AA s b := Nat.not_le.mpr hbl
  have hA : ∀ q, s.heap.size ≤ q → AA s q := fun _ h => h
  obtain ⟨a1, ea1⟩ : ∃ z : Int32, xs (nI i + 1).toNatClampNeg = z := ⟨_, rfl⟩
  obtain ⟨r, os', mo', o1, o2, o3⟩ := s_withdraw (x := a1)  hN hI
  refine lv_aload_n hx hb dL_829 rfl (lv_at hl 2 rfl) ?_
  refine lv_aload_n hx hb dL_830 rfl (lv_at hl 3 rfl) ?_
  refine lv_iload_n hx hb dL_831 rfl (lv_at hl 0 rfl) ?_
  refine lv_iconst (v := 1) hx hb dL_832 (by decide) ?_
  refine lv_iadd hx hb dL_833 ?_
  refine va_sld hx hb hX hbl hbA hS (vin2 1 (by omega) (by omega)) dL_834 ?_
  rw [ea1]
  refine k_RIV (As := [.int a1]) (rest := []) ⟨hx, hb, hml, hown, hts⟩ hK hP hD hS hA (wn := LW cy u ck qk mk P qm sm bsa bsb rd di rof pn se fo ro ra vc os' li fot rot rat vct ost lit mo) (FrS_c rfl) (cw_L_95 (d := 2) hts ⟨Nat.le_of_ble_eq_true rfl, Nat.le_of_ble_eq_true rfl⟩) 0 (ci := 11) rfl rfl rfl (c_X11_withdraw l D cy (fun z => u z) (fun z => u (20 + z)) (fun z => u (40 + z)) (fun z => u (60 + z)) (fun z => u (80 + z)) (fun z => u (100 + z)) (fun z => u (120 + z)) (fun z => u (140 + z)) (fun z => u (160 + z)) (fun z => u (180 + z)) (fun z => u (200 + z)) (fun z => u (220 + z)) (fun z => u (240 + z)) (fun z => u (260 + z)) (fun z => u (280 + z)) (fun z => u (300 + z)) (fun z => u (320 + z)) (fun z => u (340 + z)) (fun z => u (360 + z)) (fun z => u (380 + z)) sm bsa bsb rd di rof pn se fo ro ra vc os li fot rot rat vct ost lit a1 r os' o1) rfl hl.1 (Nat.le_of_ble_eq_true rfl) ⟨by show cells + 0 ≤ 600000; omega, by show slots + 0 ≤ 7302250; omega⟩ dL_835 (fun H locs hP hD hS => ?_)
  refine lv_aload_n hx hb dL_838 rfl (lv_at hl 1 rfl) ?_
  refine lv_aload_n hx hb dL_839 rfl (lv_at hl 3 rfl) ?_
  refine lv_iload_n hx hb dL_840 rfl (lv_at hl 0 rfl) ?_
  refine lv_iconst (v := 1) hx hb dL_841 (by decide) ?_
  refine lv_iadd hx hb dL_842 ?_
  refine va_sld hx hb hX hbl hbA hS (vin2 1 (by omega) (by omega)) dL_843 ?_
  rw [ea1]
  refine k_RIV (As := [.int a1]) (rest := [.int r]) ⟨hx, hb, hml, hown, hts⟩ hK hP hD hS hA (wn := LW cy u ck qk mk P qm sm bsa bsb rd di rof pn se fo ro ra vc os' li fot rot rat vct ost lit mo') (FrS_m rfl) (cw_L_98 (d := 2) hts ⟨Nat.le_of_ble_eq_true rfl, Nat.le_of_ble_eq_true rfl⟩) 0 (ci := 12) rfl rfl rfl (c_X12_withdraw l D cy qm mo a1 r mo' o2) rfl hl.1 (Nat.le_of_ble_eq_true rfl) ⟨by show cells + 0 ≤ 600000; omega, by show slots + 0 ≤ 7302250; omega⟩ dL_844 (fun H locs hP hD hS => ?_)
  refine lv_icmp_eq (tgt := 1620) hx hb dL_847 (by decide) (fun _ => ?_) (fun c1 => absurd rfl c1)
  exact kk _ _ _ _ _ _ _ _ _ _ _ _ _ _ _ _ _ _ _ _ _ _ _ _ _ _ _ _ _ (by omega) (by omega) o3 hP hD hS
set_option maxRecDepth 100000 in
theorem L_offered (B : LB p s m meth c b L xs D cy ck) (hl : lv_has ls 4 [(3, .int (nI i)), (2, .ref (qm 0)), (1, .ref (u 0)), (0, .ref b)]) (hi : i + 5 < L) (hL : L ≤ 3072) (hN : N ≤ 512) (hc : cells ≤ 500000 ∧ slots ≤ 7000000) (hI : LI N k P mk sm bsa pn fo ro ra vc os li mo) (hP : va_P D vwCl (LW cy u ck qk mk P qm sm bsa bsb rd di rof pn se fo ro ra vc os li fot rot rat vct ost lit mo) H) (hD : va_D (AA s) (LW cy u ck qk mk P qm sm bsa bsb rd di rof pn se fo ro ra vc os li fot rot rat vct ost lit mo)) (hS : va_S (AA s) s.heap H locs) (kk : LK p l e s m below meth c b D cy ck u qm Q cells slots ls N) : W p l e room_1 s m #[Value.ref b] below meth c H locs cells slots Q (F0 m 852 ls []) := by
  obtain ⟨hx, hb, hml, hown, hts, hX, hbl, hK, hN9, hQ9⟩ := id B
  have hbA : ¬ AA s b := Nat.not_le.mpr hbl
  have hA : ∀ q, s.heap.size ≤ q → AA s q := fun _ h => h
  obtain ⟨a1, ea1⟩ : ∃ z : Int32, xs (nI i + 1).toNatClampNeg = z := ⟨_, rfl⟩
  obtain ⟨a2, ea2⟩ : ∃ z : Int32, xs (nI i + 2).toNatClampNeg = z := ⟨_, rfl⟩
  obtain ⟨r, o1, o2, o3⟩ := s_offered (x := a1) (y := a2)  hN hI
  refine lv_aload_n hx hb dL_852 rfl (lv_at hl 2 rfl) ?_
  refine lv_aload_n hx hb dL_853 rfl (lv_at hl 3 rfl) ?_
  refine lv_iload_n hx hb dL_854 rfl (lv_at hl 0 rfl) ?_
  refine lv_iconst (v := 1) hx hb dL_855 (by decide) ?_
  refine lv_iadd hx hb dL_856 ?_
  refine va_sld hx hb hX hbl hbA hS (vin2 1 (by omega) (by omega)) dL_857 ?_
  rw [ea1]
  refine lv_aload_n hx hb dL_858 rfl (lv_at hl 3 rfl) ?_
  refine lv_iload_n hx hb dL_859 rfl (lv_at hl 0 rfl) ?_
  refine lv_iconst (v := 2) hx hb dL_860 (by decide) ?_
  refine lv_iadd hx hb dL_861 ?_
  refine va_sld hx hb hX hbl hbA hS (vin2 2 (by omega) (by omega)) dL_862 ?_
  rw [ea2]
  refine k_ROV (As := [.int a1, .int a2]) (rest := []) ⟨hx, hb, hml, hown, hts⟩ hK (P_c hP) (cw_L_99 (d := 1) hts ⟨Nat.le_of_ble_eq_true rfl, Nat.le_of_ble_eq_true rfl⟩) 0 (ci := 11) rfl rfl rfl (c_X11_offered l D cy (fun z => u z) (fun z => u (20 + z)) (fun z => u (40 + z)) (fun z => u (60 + z)) (fun z => u (80 + z)) (fun z => u (100 + z)) (fun z => u (120 + z)) (fun z => u (140 + z)) (fun z => u (160 + z)) (fun z => u (180 + z)) (fun z => u (200 + z)) (fun z => u (220 + z)) (fun z => u (240 + z)) (fun z => u (260 + z)) (fun z => u (280 + z)) (fun z => u (300 + z)) (fun z => u (320 + z)) (fun z => u (340 + z)) (fun z => u (360 + z)) (fun z => u (380 + z)) sm bsa bsb rd di rof pn se fo ro ra vc os li fot rot rat vct ost lit a1 a2 r o1) rfl hl.1 (Nat.le_of_ble_eq_true rfl) ⟨by show cells + 0 ≤ 600000; omega, by show slots + 0 ≤ 7302250; omega⟩ dL_863 ?_
  refine lv_aload_n hx hb dL_866 rfl (lv_at hl 1 rfl) ?_
  refine lv_aload_n hx hb dL_867 rfl (lv_at hl 3 rfl) ?_
  refine lv_iload_n hx hb dL_868 rfl (lv_at hl 0 rfl) ?_
  refine lv_iconst (v := 1) hx hb dL_869 (by decide) ?_
  refine lv_iadd hx hb dL_870 ?_
  refine va_sld hx hb hX hbl hbA hS (vin2 1 (by omega) (by omega)) dL_871 ?_
  rw [ea1]
  refine lv_aload_n hx hb dL_872 rfl (lv_at hl 3 rfl) ?_
  refine lv_iload_n hx hb dL_873 rfl (lv_at hl 0 rfl) ?_
  refine lv_iconst (v := 2) hx hb dL_874 (by decide) ?_
  refine lv_iadd hx hb dL_875 ?_
  refine va_sld hx hb hX hbl hbA hS (vin2 2 (by omega) (by omega)) dL_876 ?_
  rw [ea2]
  refine k_ROV (As := [.int a1, .int a2]) (rest := [.int r]) ⟨hx, hb, hml, hown, hts⟩ hK (P_m hP) (cw_L_102 (d := 2) hts ⟨Nat.le_of_ble_eq_true rfl, Nat.le_of_ble_eq_true rfl⟩) 0 (ci := 12) rfl rfl rfl (c_X12_offered l D cy qm mo a1 a2 r o2) rfl hl.1 (Nat.le_of_ble_eq_true rfl) ⟨by show cells + 0 ≤ 600000; omega, by show slots + 0 ≤ 7302250; omega⟩ dL_877 ?_
  refine lv_icmp_eq (tgt := 1620) hx hb dL_880 (by decide) (fun _ => ?_) (fun c1 => absurd rfl c1)
  exact kk _ _ _ _ _ _ _ _ _ _ _ _ _ _ _ _ _ _ _ _ _ _ _ _ _ _ _ _ _ (by omega) (by omega) o3 hP hD hS
set_option maxRecDepth 100000 in
theorem L_deal (B : LB p s m meth c b L xs D cy ck) (hl : lv_has ls 4 [(3, .int (nI i)), (2, .ref (qm 0)), (1, .ref (u 0)), (0, .ref b)]) (hi : i + 5 < L) (hL : L ≤ 3072) (hN : N ≤ 512) (hc : cells ≤ 500000 ∧ slots ≤ 7000000) (hI : LI N k P mk sm bsa pn fo ro ra vc os li mo) (hP : va_P D vwCl (LW cy u ck qk mk P qm sm bsa bsb rd di rof pn se fo ro ra vc os li fot rot rat vct ost lit mo) H) (hD : va_D (AA s) (LW cy u ck qk mk P qm sm bsa bsb rd di rof pn se fo ro ra vc os li fot rot rat vct ost lit mo)) (hS : va_S (AA s) s.heap H locs) (kk : LK p l e s m below meth c b D cy ck u qm Q cells slots ls N) : W p l e room_1 s m #[Value.ref b] below meth c H locs cells slots Q (F0 m 885 ls []) := by
  obtain ⟨hx, hb, hml, hown, hts, hX, hbl, hK, hN9, hQ9⟩ := id B
  have hbA : ¬ AA s b := Nat.not_le.mpr hbl
  have hA : ∀ q, s.heap.size ≤ q → AA s q := fun _ h => h
  obtain ⟨a1, ea1⟩ : ∃ z : Int32, xs (nI i + 1).toNatClampNeg = z := ⟨_, rfl⟩
  obtain ⟨a2, ea2⟩ : ∃ z : Int32, xs (nI i + 2).toNatClampNeg = z := ⟨_, rfl⟩
  obtain ⟨r, fo', os', mo', o1, o2, o3⟩ := s_deal (x := a1) (y := a2)  hN hI
  refine lv_aload_n hx hb dL_885 rfl (lv_at hl 2 rfl) ?_
  refine lv_aload_n hx hb dL_886 rfl (lv_at hl 3 rfl) ?_
  refine lv_iload_n hx hb dL_887 rfl (lv_at hl 0 rfl) ?_
  refine lv_iconst (v := 1) hx hb dL_888 (by decide) ?_
  refine lv_iadd hx hb dL_889 ?_
  refine va_sld hx hb hX hbl hbA hS (vin2 1 (by omega) (by omega)) dL_890 ?_
  rw [ea1]
  refine lv_aload_n hx hb dL_891 rfl (lv_at hl 3 rfl) ?_
  refine lv_iload_n hx hb dL_892 rfl (lv_at hl 0 rfl) ?_
  refine lv_iconst (v := 2) hx hb dL_893 (by decide) ?_
  refine lv_iadd hx hb dL_894 ?_
  refine va_sld hx hb hX hbl hbA hS (vin2 2 (by omega) (by omega)) dL_895 ?_
  rw [ea2]
  refine k_RIV (As := [.int a1, .int a2]) (rest := []) ⟨hx, hb, hml, hown, hts⟩ hK hP hD hS hA (wn := LW cy u ck qk mk P qm sm bsa bsb rd di rof pn se fo' ro ra vc os' li fot rot rat vct ost lit mo) (FrS_c rfl) (cw_L_103 (d := 4) hts ⟨Nat.le_of_ble_eq_true rfl, Nat.le_of_ble_eq_true rfl⟩) 0 (ci := 11) rfl rfl rfl (c_X11_deal l D cy (fun z => u z) (fun z => u (20 + z)) (fun z => u (40 + z)) (fun z => u (60 + z)) (fun z => u (80 + z)) (fun z => u (100 + z)) (fun z => u (120 + z)) (fun z => u (140 + z)) (fun z => u (160 + z)) (fun z => u (180 + z)) (fun z => u (200 + z)) (fun z => u (220 + z)) (fun z => u (240 + z)) (fun z => u (260 + z)) (fun z => u (280 + z)) (fun z => u (300 + z)) (fun z => u (320 + z)) (fun z => u (340 + z)) (fun z => u (360 + z)) (fun z => u (380 + z)) sm bsa bsb rd di rof pn se fo ro ra vc os li fot rot rat vct ost lit a1 a2 r fo' os' o1) rfl hl.1 (Nat.le_of_ble_eq_true rfl) ⟨by show cells + 0 ≤ 600000; omega, by show slots + 0 ≤ 7302250; omega⟩ dL_896 (fun H locs hP hD hS => ?_)
  refine lv_aload_n hx hb dL_899 rfl (lv_at hl 1 rfl) ?_
  refine lv_aload_n hx hb dL_900 rfl (lv_at hl 3 rfl) ?_
  refine lv_iload_n hx hb dL_901 rfl (lv_at hl 0 rfl) ?_
  refine lv_iconst (v := 1) hx hb dL_902 (by decide) ?_
  refine lv_iadd hx hb dL_903 ?_
  refine va_sld hx hb hX hbl hbA hS (vin2 1 (by omega) (by omega)) dL_904 ?_
  rw [ea1]
  refine lv_aload_n hx hb dL_905 rfl (lv_at hl 3 rfl) ?_
  refine lv_iload_n hx hb dL_906 rfl (lv_at hl 0 rfl) ?_
  refine lv_iconst (v := 2) hx hb dL_907 (by decide) ?_
  refine lv_iadd hx hb dL_908 ?_
  refine va_sld hx hb hX hbl hbA hS (vin2 2 (by omega) (by omega)) dL_909 ?_
  rw [ea2]
  refine k_RIV (As := [.int a1, .int a2]) (rest := [.int r]) ⟨hx, hb, hml, hown, hts⟩ hK hP hD hS hA (wn := LW cy u ck qk mk P qm sm bsa bsb rd di rof pn se fo' ro ra vc os' li fot rot rat vct ost lit mo') (FrS_m rfl) (cw_L_106 (d := 6) hts ⟨Nat.le_of_ble_eq_true rfl, Nat.le_of_ble_eq_true rfl⟩) 0 (ci := 12) rfl rfl rfl (c_X12_deal l D cy qm mo a1 a2 r mo' o2) rfl hl.1 (Nat.le_of_ble_eq_true rfl) ⟨by show cells + 0 ≤ 600000; omega, by show slots + 0 ≤ 7302250; omega⟩ dL_910 (fun H locs hP hD hS => ?_)
  refine lv_icmp_eq (tgt := 1620) hx hb dL_913 (by decide) (fun _ => ?_) (fun c1 => absurd rfl c1)
  exact kk _ _ _ _ _ _ _ _ _ _ _ _ _ _ _ _ _ _ _ _ _ _ _ _ _ _ _ _ _ (by omega) (by omega) o3 hP hD hS
end LC
