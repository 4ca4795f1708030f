/-! the law: cases -/
section LC
variable {p : Program} {l : Launch} {e : Env} {s : State} {m : MethodId} {below : List Frame} {meth : Method} {c : Code} {b L : Nat} {xs : Nat → Int32} {D : va_G} {cy : Nat → ClassId} {ck : ClassId} {u qm : Nat → Nat} {Q : State → Prop} {H : Heap} {locs : List Loc} {cells slots : Nat} {ls : Array Slot} {N k P i : Nat} {qk : Nat → Nat → Nat} {mk : Nat → Nat → Mem} {sm bsa bsb rd di rof pn se fo ro ra vc os li fot rot rat vct ost lit mo : Mem}
set_option maxRecDepth 100000 in
theorem L_bestDeal (B : LB p s m meth c b L xs D cy ck) (hl : lv_has ls 4 [(3, .int (nI i)), (2, .ref (qm 0)), (1, .ref (u 0)), (0, .ref b)]) (hi : i + 5 < L) (hL : L ≤ 3072) (hN : N ≤ 512) (hc : cells ≤ 500000 ∧ slots ≤ 7000000) (hI : LI N k P mk sm bsa pn fo ro ra vc os li mo) (hP : va_P D vwCl (LW cy u ck qk mk P qm sm bsa bsb rd di rof pn se fo ro ra vc os li fot rot rat vct ost lit mo) H) (hD : va_D (AA s) (LW cy u ck qk mk P qm sm bsa bsb rd di rof pn se fo ro ra vc os li fot rot rat vct ost lit mo)) (hS : va_S (AA s) s.heap H locs) (kk : LK p l e s m below meth c b D cy ck u qm Q cells slots ls N) : W p l e room_1 s m #[Value.ref b] below meth c H locs cells slots Q (F0 m 918 ls []) := by
  obtain ⟨hx, hb, hml, hown, hts, hX, hbl, hK, hN9, hQ9⟩ := id B
  have hbA : ¬ AA s b := Nat.not_le.mpr hbl
  have hA : ∀ q, s.heap.size ≤ q → AA s q := fun _ h => h
  obtain ⟨a1, ea1⟩ : ∃ z : Int32, xs (nI i + 1).toNatClampNeg = z := ⟨_, rfl⟩
  obtain ⟨r, mo', o1, o2, o3⟩ := s_bestDeal (x := a1)  hN hI
  refine lv_aload_n hx hb dL_918 rfl (lv_at hl 2 rfl) ?_
  refine lv_aload_n hx hb dL_919 rfl (lv_at hl 3 rfl) ?_
  refine lv_iload_n hx hb dL_920 rfl (lv_at hl 0 rfl) ?_
  refine lv_iconst (v := 1) hx hb dL_921 (by decide) ?_
  refine lv_iadd hx hb dL_922 ?_
  refine va_sld hx hb hX hbl hbA hS (vin2 1 (by omega) (by omega)) dL_923 ?_
  rw [ea1]
  refine k_ROV (As := [.int a1]) (rest := []) ⟨hx, hb, hml, hown, hts⟩ hK (P_c hP) (cw_L_107 (d := 4) hts ⟨Nat.le_of_ble_eq_true rfl, Nat.le_of_ble_eq_true rfl⟩) 0 (ci := 11) rfl rfl rfl (c_X11_bestDeal l D cy (fun z => u z) (fun z => u (20 + z)) (fun z => u (40 + z)) (fun z => u (60 + z)) (fun z => u (80 + z)) (fun z => u (100 + z)) (fun z => u (120 + z)) (fun z => u (140 + z)) (fun z => u (160 + z)) (fun z => u (180 + z)) (fun z => u (200 + z)) (fun z => u (220 + z)) (fun z => u (240 + z)) (fun z => u (260 + z)) (fun z => u (280 + z)) (fun z => u (300 + z)) (fun z => u (320 + z)) (fun z => u (340 + z)) (fun z => u (360 + z)) (fun z => u (380 + z)) sm bsa bsb rd di rof pn se fo ro ra vc os li fot rot rat vct ost lit a1 r o1) rfl hl.1 (Nat.le_of_ble_eq_true rfl) ⟨by show cells + 0 ≤ 600000; omega, by show slots + 0 ≤ 7302250; omega⟩ dL_924 ?_
  refine lv_aload_n hx hb dL_927 rfl (lv_at hl 1 rfl) ?_
  refine lv_aload_n hx hb dL_928 rfl (lv_at hl 3 rfl) ?_
  refine lv_iload_n hx hb dL_929 rfl (lv_at hl 0 rfl) ?_
  refine lv_iconst (v := 1) hx hb dL_930 (by decide) ?_
  refine lv_iadd hx hb dL_931 ?_
  refine va_sld hx hb hX hbl hbA hS (vin2 1 (by omega) (by omega)) dL_932 ?_
  rw [ea1]
  refine k_RIV (As := [.int a1]) (rest := [.int r]) ⟨hx, hb, hml, hown, hts⟩ hK hP hD hS hA (wn := LW cy u ck qk mk P qm sm bsa bsb rd di rof pn se fo ro ra vc os li fot rot rat vct ost lit mo') (FrS_m rfl) (cw_L_110 (d := 6) hts ⟨Nat.le_of_ble_eq_true rfl, Nat.le_of_ble_eq_true rfl⟩) 0 (ci := 12) rfl rfl rfl (c_X12_bestDeal l D cy qm mo a1 r mo' o2) rfl hl.1 (Nat.le_of_ble_eq_true rfl) ⟨by show cells + 0 ≤ 600000; omega, by show slots + 0 ≤ 7302250; omega⟩ dL_933 (fun H locs hP hD hS => ?_)
  refine lv_icmp_eq (tgt := 1620) hx hb dL_936 (by decide) (fun _ => ?_) (fun c1 => absurd rfl c1)
  exact kk _ _ _ _ _ _ _ _ _ _ _ _ _ _ _ _ _ _ _ _ _ _ _ _ _ _ _ _ _ (by omega) (by omega) o3 hP hD hS
set_option maxRecDepth 100000 in
theorem L_line (B : LB p s m meth c b L xs D cy ck) (hl : lv_has ls 4 [(3, .int (nI i)), (2, .ref (qm 0)), (1, .ref (u 0)), (0, .ref b)]) (hi : i + 5 < L) (hL : L ≤ 3072) (hN : N ≤ 512) (hc : cells ≤ 500000 ∧ slots ≤ 7000000) (hI : LI N k P mk sm bsa pn fo ro ra vc os li mo) (hP : va_P D vwCl (LW cy u ck qk mk P qm sm bsa bsb rd di rof pn se fo ro ra vc os li fot rot rat vct ost lit mo) H) (hD : va_D (AA s) (LW cy u ck qk mk P qm sm bsa bsb rd di rof pn se fo ro ra vc os li fot rot rat vct ost lit mo)) (hS : va_S (AA s) s.heap H locs) (kk : LK p l e s m below meth c b D cy ck u qm Q cells slots ls N) : W p l e room_1 s m #[Value.ref b] below meth c H locs cells slots Q (F0 m 941 ls []) := by
  obtain ⟨hx, hb, hml, hown, hts, hX, hbl, hK, hN9, hQ9⟩ := id B
  have hbA : ¬ AA s b := Nat.not_le.mpr hbl
  have hA : ∀ q, s.heap.size ≤ q → AA s q := fun _ h => h
  obtain ⟨a1, ea1⟩ : ∃ z : Int32, xs (nI i + 1).toNatClampNeg = z := ⟨_, rfl⟩
  obtain ⟨a2, ea2⟩ : ∃ z : Int32, xs (nI i + 2).toNatClampNeg = z := ⟨_, rfl⟩
  obtain ⟨r, o1, o2, o3⟩ := s_line (x := a1) (y := a2)  hN hI
  refine lv_aload_n hx hb dL_941 rfl (lv_at hl 2 rfl) ?_
  refine lv_aload_n hx hb dL_942 rfl (lv_at hl 3 rfl) ?_
  refine lv_iload_n hx hb dL_943 rfl (lv_at hl 0 rfl) ?_
  refine lv_iconst (v := 1) hx hb dL_944 (by decide) ?_
  refine lv_iadd hx hb dL_945 ?_
  refine va_sld hx hb hX hbl hbA hS (vin2 1 (by omega) (by omega)) dL_946 ?_
  rw [ea1]
  refine lv_aload_n hx hb dL_947 rfl (lv_at hl 3 rfl) ?_
  refine lv_iload_n hx hb dL_948 rfl (lv_at hl 0 rfl) ?_
  refine lv_iconst (v := 2) hx hb dL_949 (by decide) ?_
  refine lv_iadd hx hb dL_950 ?_
  refine va_sld hx hb hX hbl hbA hS (vin2 2 (by omega) (by omega)) dL_951 ?_
  rw [ea2]
  refine k_ROV (As := [.int a1, .int a2]) (rest := []) ⟨hx, hb, hml, hown, hts⟩ hK (P_c hP) (cw_L_111 (d := 3) hts ⟨Nat.le_of_ble_eq_true rfl, Nat.le_of_ble_eq_true rfl⟩) 0 (ci := 11) rfl rfl rfl (c_X11_line l D cy (fun z => u z) (fun z => u (20 + z)) (fun z => u (40 + z)) (fun z => u (60 + z)) (fun z => u (80 + z)) (fun z => u (100 + z)) (fun z => u (120 + z)) (fun z => u (140 + z)) (fun z => u (160 + z)) (fun z => u (180 + z)) (fun z => u (200 + z)) (fun z => u (220 + z)) (fun z => u (240 + z)) (fun z => u (260 + z)) (fun z => u (280 + z)) (fun z => u (300 + z)) (fun z => u (320 + z)) (fun z => u (340 + z)) (fun z => u (360 + z)) (fun z => u (380 + z)) sm bsa bsb rd di rof pn se fo ro ra vc os li fot rot rat vct ost lit a1 a2 r o1) rfl hl.1 (Nat.le_of_ble_eq_true rfl) ⟨by show cells + 0 ≤ 600000; omega, by show slots + 0 ≤ 7302250; omega⟩ dL_952 ?_
  refine lv_aload_n hx hb dL_955 rfl (lv_at hl 1 rfl) ?_
  refine lv_aload_n hx hb dL_956 rfl (lv_at hl 3 rfl) ?_
  refine lv_iload_n hx hb dL_957 rfl (lv_at hl 0 rfl) ?_
  refine lv_iconst (v := 1) hx hb dL_958 (by decide) ?_
  refine lv_iadd hx hb dL_959 ?_
  refine va_sld hx hb hX hbl hbA hS (vin2 1 (by omega) (by omega)) dL_960 ?_
  rw [ea1]
  refine lv_aload_n hx hb dL_961 rfl (lv_at hl 3 rfl) ?_
  refine lv_iload_n hx hb dL_962 rfl (lv_at hl 0 rfl) ?_
  refine lv_iconst (v := 2) hx hb dL_963 (by decide) ?_
  refine lv_iadd hx hb dL_964 ?_
  refine va_sld hx hb hX hbl hbA hS (vin2 2 (by omega) (by omega)) dL_965 ?_
  rw [ea2]
  refine k_ROV (As := [.int a1, .int a2]) (rest := [.int r]) ⟨hx, hb, hml, hown, hts⟩ hK (P_m hP) (cw_L_114 (d := 4) hts ⟨Nat.le_of_ble_eq_true rfl, Nat.le_of_ble_eq_true rfl⟩) 0 (ci := 12) rfl rfl rfl (c_X12_line l D cy qm mo a1 a2 r o2) rfl hl.1 (Nat.le_of_ble_eq_true rfl) ⟨by show cells + 0 ≤ 600000; omega, by show slots + 0 ≤ 7302250; omega⟩ dL_966 ?_
  refine lv_icmp_eq (tgt := 1620) hx hb dL_969 (by decide) (fun _ => ?_) (fun c1 => absurd rfl c1)
  exact kk _ _ _ _ _ _ _ _ _ _ _ _ _ _ _ _ _ _ _ _ _ _ _ _ _ _ _ _ _ (by omega) (by omega) o3 hP hD hS
set_option maxRecDepth 100000 in
theorem L_bestOrder (B : LB p s m meth c b L xs D cy ck) (hl : lv_has ls 4 [(3, .int (nI i)), (2, .ref (qm 0)), (1, .ref (u 0)), (0, .ref b)]) (hi : i + 5 < L) (hL : L ≤ 3072) (hN : N ≤ 512) (hc : cells ≤ 500000 ∧ slots ≤ 7000000) (hI : LI N k P mk sm bsa pn fo ro ra vc os li mo) (hP : va_P D vwCl (LW cy u ck qk mk P qm sm bsa bsb rd di rof pn se fo ro ra vc os li fot rot rat vct ost lit mo) H) (hD : va_D (AA s) (LW cy u ck qk mk P qm sm bsa bsb rd di rof pn se fo ro ra vc os li fot rot rat vct ost lit mo)) (hS : va_S (AA s) s.heap H locs) (kk : LK p l e s m below meth c b D cy ck u qm Q cells slots ls N) : W p l e room_1 s m #[Value.ref b] below meth c H locs cells slots Q (F0 m 974 ls []) := by
  obtain ⟨hx, hb, hml, hown, hts, hX, hbl, hK, hN9, hQ9⟩ := id B
  have hbA : ¬ AA s b := Nat.not_le.mpr hbl
  have hA : ∀ q, s.heap.size ≤ q → AA s q := fun _ h => h
  obtain ⟨a1, ea1⟩ : ∃ z : Int32, xs (nI i + 1).toNatClampNeg = z := ⟨_, rfl⟩
  obtain ⟨a2, ea2⟩ : ∃ z : Int32, xs (nI i + 2).toNatClampNeg = z := ⟨_, rfl⟩
  obtain ⟨r, se', mo', o1, o2, o3⟩ := s_bestOrder (x := a1) (y := a2) (se := se) hN hI
  refine lv_aload_n hx hb dL_974 rfl (lv_at hl 2 rfl) ?_
  refine lv_aload_n hx hb dL_975 rfl (lv_at hl 3 rfl) ?_
  refine lv_iload_n hx hb dL_976 rfl (lv_at hl 0 rfl) ?_
  refine lv_iconst (v := 1) hx hb dL_977 (by decide) ?_
  refine lv_iadd hx hb dL_978 ?_
  refine va_sld hx hb hX hbl hbA hS (vin2 1 (by omega) (by omega)) dL_979 ?_
  rw [ea1]
  refine lv_aload_n hx hb dL_980 rfl (lv_at hl 3 rfl) ?_
  refine lv_iload_n hx hb dL_981 rfl (lv_at hl 0 rfl) ?_
  refine lv_iconst (v := 2) hx hb dL_982 (by decide) ?_
  refine lv_iadd hx hb dL_983 ?_
  refine va_sld hx hb hX hbl hbA hS (vin2 2 (by omega) (by omega)) dL_984 ?_
  rw [ea2]
  refine k_RIV (As := [.int a1, .int a2]) (rest := []) ⟨hx, hb, hml, hown, hts⟩ hK hP hD hS hA (wn := LW cy u ck qk mk P qm sm bsa bsb rd di rof pn se' fo ro ra vc os li fot rot rat vct ost lit mo) (FrS_c rfl) (cw_L_115 (d := 14) hts ⟨Nat.le_of_ble_eq_true rfl, Nat.le_of_ble_eq_true rfl⟩) 0 (ci := 11) rfl rfl rfl (c_X11_bestOrder l D cy (fun z => u z) (fun z => u (20 + z)) (fun z => u (40 + z)) (fun z => u (60 + z)) (fun z => u (80 + z)) (fun z => u (100 + z)) (fun z => u (120 + z)) (fun z => u (140 + z)) (fun z => u (160 + z)) (fun z => u (180 + z)) (fun z => u (200 + z)) (fun z => u (220 + z)) (fun z => u (240 + z)) (fun z => u (260 + z)) (fun z => u (280 + z)) (fun z => u (300 + z)) (fun z => u (320 + z)) (fun z => u (340 + z)) (fun z => u (360 + z)) (fun z => u (380 + z)) sm bsa bsb rd di rof pn se fo ro ra vc os li fot rot rat vct ost lit a1 a2 r se' o1) rfl hl.1 (Nat.le_of_ble_eq_true rfl) ⟨by show cells + 0 ≤ 600000; omega, by show slots + 0 ≤ 7302250; omega⟩ dL_985 (fun H locs hP hD hS => ?_)
  refine lv_aload_n hx hb dL_988 rfl (lv_at hl 1 rfl) ?_
  refine lv_aload_n hx hb dL_989 rfl (lv_at hl 3 rfl) ?_
  refine lv_iload_n hx hb dL_990 rfl (lv_at hl 0 rfl) ?_
  refine lv_iconst (v := 1) hx hb dL_991 (by decide) ?_
  refine lv_iadd hx hb dL_992 ?_
  refine va_sld hx hb hX hbl hbA hS (vin2 1 (by omega) (by omega)) dL_993 ?_
  rw [ea1]
  refine lv_aload_n hx hb dL_994 rfl (lv_at hl 3 rfl) ?_
  refine lv_iload_n hx hb dL_995 rfl (lv_at hl 0 rfl) ?_
  refine lv_iconst (v := 2) hx hb dL_996 (by decide) ?_
  refine lv_iadd hx hb dL_997 ?_
  refine va_sld hx hb hX hbl hbA hS (vin2 2 (by omega) (by omega)) dL_998 ?_
  rw [ea2]
  refine k_RIV (As := [.int a1, .int a2]) (rest := [.int r]) ⟨hx, hb, hml, hown, hts⟩ hK hP hD hS hA (wn := LW cy u ck qk mk P qm sm bsa bsb rd di rof pn se' fo ro ra vc os li fot rot rat vct ost lit mo') (FrS_m rfl) (cw_L_118 (d := 6) hts ⟨Nat.le_of_ble_eq_true rfl, Nat.le_of_ble_eq_true rfl⟩) 0 (ci := 12) rfl rfl rfl (c_X12_bestOrder l D cy qm mo a1 a2 r mo' o2) rfl hl.1 (Nat.le_of_ble_eq_true rfl) ⟨by show cells + 0 ≤ 600000; omega, by show slots + 0 ≤ 7302250; omega⟩ dL_999 (fun H locs hP hD hS => ?_)
  refine lv_icmp_eq (tgt := 1620) hx hb dL_1002 (by decide) (fun _ => ?_) (fun c1 => absurd rfl c1)
  exact kk _ _ _ _ _ _ _ _ _ _ _ _ _ _ _ _ _ _ _ _ _ _ _ _ _ _ _ _ _ (by omega) (by omega) o3 hP hD hS
set_option maxRecDepth 100000 in
theorem L_order (B : LB p s m meth c b L xs D cy ck) (hl : lv_has ls 4 [(3, .int (nI i)), (2, .ref (qm 0)), (1, .ref (u 0)), (0, .ref b)]) (hi : i + 5 < L) (hL : L ≤ 3072) (hN : N ≤ 512) (hc : cells ≤ 500000 ∧ slots ≤ 7000000) (hI : LI N k P mk sm bsa pn fo ro ra vc os li mo) (hP : va_P D vwCl (LW cy u ck qk mk P qm sm bsa bsb rd di rof pn se fo ro ra vc os li fot rot rat vct ost lit mo) H) (hD : va_D (AA s) (LW cy u ck qk mk P qm sm bsa bsb rd di rof pn se fo ro ra vc os li fot rot rat vct ost lit mo)) (hS : va_S (AA s) s.heap H locs) (kk : LK p l e s m below meth c b D cy ck u qm Q cells slots ls N) : W p l e room_1 s m #[Value.ref b] below meth c H locs cells slots Q (F0 m 1007 ls []) := by
  obtain ⟨hx, hb, hml, hown, hts, hX, hbl, hK, hN9, hQ9⟩ := id B
  have hbA : ¬ AA s b := Nat.not_le.mpr hbl
  have hA : ∀ q, s.heap.size ≤ q → AA s q := fun _ h => h
  obtain ⟨a1, ea1⟩ : ∃ z : Int32, xs (nI i + 1).toNatClampNeg = z := ⟨_, rfl⟩
  obtain ⟨r, se', fo', mo', o1, o2, o3⟩ := s_order (x := a1) (se := se) hN hI
  refine lv_aload_n hx hb dL_1007 rfl (lv_at hl 2 rfl) ?_
  refine lv_aload_n hx hb dL_1008 rfl (lv_at hl 3 rfl) ?_
  refine lv_iload_n hx hb dL_1009 rfl (lv_at hl 0 rfl) ?_
  refine lv_iconst (v := 1) hx hb dL_1010 (by decide) ?_
  refine lv_iadd hx hb dL_1011 ?_
  refine va_sld hx hb hX hbl hbA hS (vin2 1 (by omega) (by omega)) dL_1012 ?_
  rw [ea1]
  refine k_RIV (As := [.int a1]) (rest := []) ⟨hx, hb, hml, hown, hts⟩ hK hP hD hS hA (wn := LW cy u ck qk mk P qm sm bsa bsb rd di rof pn se' fo' ro ra vc os li fot rot rat vct ost lit mo) (FrS_c rfl) (cw_L_119 (d := 14) hts ⟨Nat.le_of_ble_eq_true rfl, Nat.le_of_ble_eq_true rfl⟩) 0 (ci := 11) rfl rfl rfl (c_X11_order l D cy (fun z => u z) (fun z => u (20 + z)) (fun z => u (40 + z)) (fun z => u (60 + z)) (fun z => u (80 + z)) (fun z => u (100 + z)) (fun z => u (120 + z)) (fun z => u (140 + z)) (fun z => u (160 + z)) (fun z => u (180 + z)) (fun z => u (200 + z)) (fun z => u (220 + z)) (fun z => u (240 + z)) (fun z => u (260 + z)) (fun z => u (280 + z)) (fun z => u (300 + z)) (fun z => u (320 + z)) (fun z => u (340 + z)) (fun z => u (360 + z)) (fun z => u (380 + z)) sm bsa bsb rd di rof pn se fo ro ra vc os li fot rot rat vct ost lit a1 r se' fo' o1) rfl hl.1 (Nat.le_of_ble_eq_true rfl) ⟨by show cells + 0 ≤ 600000; omega, by show slots + 0 ≤ 7302250; omega⟩ dL_1013 (fun H locs hP hD hS => ?_)
  refine lv_aload_n hx hb dL_1016 rfl (lv_at hl 1 rfl) ?_
  refine lv_aload_n hx hb dL_1017 rfl (lv_at hl 3 rfl) ?_
  refine lv_iload_n hx hb dL_1018 rfl (lv_at hl 0 rfl) ?_
  refine lv_iconst (v := 1) hx hb dL_1019 (by decide) ?_
  refine lv_iadd hx hb dL_1020 ?_
  refine va_sld hx hb hX hbl hbA hS (vin2 1 (by omega) (by omega)) dL_1021 ?_
  rw [ea1]
  refine k_RIV (As := [.int a1]) (rest := [.int r]) ⟨hx, hb, hml, hown, hts⟩ hK hP hD hS hA (wn := LW cy u ck qk mk P qm sm bsa bsb rd di rof pn se' fo' ro ra vc os li fot rot rat vct ost lit mo') (FrS_m rfl) (cw_L_122 (d := 6) hts ⟨Nat.le_of_ble_eq_true rfl, Nat.le_of_ble_eq_true rfl⟩) 0 (ci := 12) rfl rfl rfl (c_X12_order l D cy qm mo a1 r mo' o2) rfl hl.1 (Nat.le_of_ble_eq_true rfl) ⟨by show cells + 0 ≤ 600000; omega, by show slots + 0 ≤ 7302250; omega⟩ dL_1022 (fun H locs hP hD hS => ?_)
  refine lv_icmp_eq (tgt := 1620) hx hb dL_1025 (by decide) (fun _ => ?_) (fun c1 => absurd rfl c1)
  exact kk _ _ _ _ _ _ _ _ _ _ _ _ _ _ _ _ _ _ _ _ _ _ _ _ _ _ _ _ _ (by omega) (by omega) o3 hP hD hS
set_option maxRecDepth 100000 in
theorem L_bestCancel (B : LB p s m meth c b L xs D cy ck) (hl : lv_has ls 4 [(3, .int (nI i)), (2, .ref (qm 0)), (1, .ref (u 0)), (0, .ref b)]) (hi : i + 5 < L) (hL : L ≤ 3072) (hN : N ≤ 512) (hc : cells ≤ 500000 ∧ slots ≤ 7000000) (hI : LI N k P mk sm bsa pn fo ro ra vc os li mo) (hP : va_P D vwCl (LW cy u ck qk mk P qm sm bsa bsb rd di rof pn se fo ro ra vc os li fot rot rat vct ost lit mo) H) (hD : va_D (AA s) (LW cy u ck qk mk P qm sm bsa bsb rd di rof pn se fo ro ra vc os li fot rot rat vct ost lit mo)) (hS : va_S (AA s) s.heap H locs) (kk : LK p l e s m below meth c b D cy ck u qm Q cells slots ls N) : W p l e room_1 s m #[Value.ref b] below meth c H locs cells slots Q (F0 m 1030 ls []) := by
  obtain ⟨hx, hb, hml, hown, hts, hX, hbl, hK, hN9, hQ9⟩ := id B
  have hbA : ¬ AA s b := Nat.not_le.mpr hbl
  have hA : ∀ q, s.heap.size ≤ q → AA s q := fun _ h => h
  obtain ⟨a1, ea1⟩ : ∃ z : Int32, xs (nI i + 1).toNatClampNeg = z := ⟨_, rfl⟩
  obtain ⟨a2, ea2⟩ : ∃ z : Int32, xs (nI i + 2).toNatClampNeg = z := ⟨_, rfl⟩
  obtain ⟨r, fot', rot', rat', vct', ost', lit', mo', o1, o2, o3⟩ := s_bestCancel (x := a1) (y := a2) (fot := fot) (rot := rot) (rat := rat) (vct := vct) (ost := ost) (lit := lit) hN hI
  refine lv_aload_n hx hb dL_1030 rfl (lv_at hl 2 rfl) ?_
  refine lv_aload_n hx hb dL_1031 rfl (lv_at hl 3 rfl) ?_
  refine lv_iload_n hx hb dL_1032 rfl (lv_at hl 0 rfl) ?_
  refine lv_iconst (v := 1) hx hb dL_1033 (by decide) ?_
  refine lv_iadd hx hb dL_1034 ?_
  refine va_sld hx hb hX hbl hbA hS (vin2 1 (by omega) (by omega)) dL_1035 ?_
  rw [ea1]
  refine lv_aload_n hx hb dL_1036 rfl (lv_at hl 3 rfl) ?_
  refine lv_iload_n hx hb dL_1037 rfl (lv_at hl 0 rfl) ?_
  refine lv_iconst (v := 2) hx hb dL_1038 (by decide) ?_
  refine lv_iadd hx hb dL_1039 ?_
  refine va_sld hx hb hX hbl hbA hS (vin2 2 (by omega) (by omega)) dL_1040 ?_
  rw [ea2]
  refine k_RIV (As := [.int a1, .int a2]) (rest := []) ⟨hx, hb, hml, hown, hts⟩ hK hP hD hS hA (wn := LW cy u ck qk mk P qm sm bsa bsb rd di rof pn se fo ro ra vc os li fot' rot' rat' vct' ost' lit' mo) (FrS_c rfl) (cw_L_123 (d := 6) hts ⟨Nat.le_of_ble_eq_true rfl, Nat.le_of_ble_eq_true rfl⟩) 0 (ci := 11) rfl rfl rfl (c_X11_bestCancel l D cy (fun z => u z) (fun z => u (20 + z)) (fun z => u (40 + z)) (fun z => u (60 + z)) (fun z => u (80 + z)) (fun z => u (100 + z)) (fun z => u (120 + z)) (fun z => u (140 + z)) (fun z => u (160 + z)) (fun z => u (180 + z)) (fun z => u (200 + z)) (fun z => u (220 + z)) (fun z => u (240 + z)) (fun z => u (260 + z)) (fun z => u (280 + z)) (fun z => u (300 + z)) (fun z => u (320 + z)) (fun z => u (340 + z)) (fun z => u (360 + z)) (fun z => u (380 + z)) sm bsa bsb rd di rof pn se fo ro ra vc os li fot rot rat vct ost lit a1 a2 r fot' rot' rat' vct' ost' lit' o1) rfl hl.1 (Nat.le_of_ble_eq_true rfl) ⟨by show cells + 0 ≤ 600000; omega, by show slots + 0 ≤ 7302250; omega⟩ dL_1041 (fun H locs hP hD hS => ?_)
  refine lv_aload_n hx hb dL_1044 rfl (lv_at hl 1 rfl) ?_
  refine lv_aload_n hx hb dL_1045 rfl (lv_at hl 3 rfl) ?_
  refine lv_iload_n hx hb dL_1046 rfl (lv_at hl 0 rfl) ?_
  refine lv_iconst (v := 1) hx hb dL_1047 (by decide) ?_
  refine lv_iadd hx hb dL_1048 ?_
  refine va_sld hx hb hX hbl hbA hS (vin2 1 (by omega) (by omega)) dL_1049 ?_
  rw [ea1]
  refine lv_aload_n hx hb dL_1050 rfl (lv_at hl 3 rfl) ?_
  refine lv_iload_n hx hb dL_1051 rfl (lv_at hl 0 rfl) ?_
  refine lv_iconst (v := 2) hx hb dL_1052 (by decide) ?_
  refine lv_iadd hx hb dL_1053 ?_
  refine va_sld hx hb hX hbl hbA hS (vin2 2 (by omega) (by omega)) dL_1054 ?_
  rw [ea2]
  refine k_RIV (As := [.int a1, .int a2]) (rest := [.int r]) ⟨hx, hb, hml, hown, hts⟩ hK hP hD hS hA (wn := LW cy u ck qk mk P qm sm bsa bsb rd di rof pn se fo ro ra vc os li fot' rot' rat' vct' ost' lit' mo') (FrS_m rfl) (cw_L_126 (d := 6) hts ⟨Nat.le_of_ble_eq_true rfl, Nat.le_of_ble_eq_true rfl⟩) 0 (ci := 12) rfl rfl rfl (c_X12_bestCancel l D cy qm mo a1 a2 r mo' o2) rfl hl.1 (Nat.le_of_ble_eq_true rfl) ⟨by show cells + 0 ≤ 600000; omega, by show slots + 0 ≤ 7302250; omega⟩ dL_1055 (fun H locs hP hD hS => ?_)
  refine lv_icmp_eq (tgt := 1620) hx hb dL_1058 (by decide) (fun _ => ?_) (fun c1 => absurd rfl c1)
  exact kk _ _ _ _ _ _ _ _ _ _ _ _ _ _ _ _ _ _ _ _ _ _ _ _ _ _ _ _ _ (by omega) (by omega) o3 hP hD hS
set_option maxRecDepth 100000 in
theorem L_helps (B : LB p s m meth c b L xs D cy ck) (hl : lv_has ls 4 [(3, .int (nI i)), (2, .ref (qm 0)), (1, .ref (u 0)), (0, .ref b)]) (hi : i + 5 < L) (hL : L ≤ 3072) (hN : N ≤ 512) (hc : cells ≤ 500000 ∧ slots ≤ 7000000) (hI : LI N k P mk sm bsa pn fo ro ra vc os li mo) (hP : va_P D vwCl (LW cy u ck qk mk P qm sm bsa bsb rd di rof pn se fo ro ra vc os li fot rot rat vct ost lit mo) H) (hD : va_D (AA s) (LW cy u ck qk mk P qm sm bsa bsb rd di rof pn se fo ro ra vc os li fot rot rat vct ost lit mo)) (hS : va_S (AA s) s.heap H locs) (kk : LK p l e s m below meth c b D cy ck u qm Q cells slots ls N) : W p l e room_1 s m #[Value.ref b] below meth c H locs cells slots Q (F0 m 1063 ls []) := by
  obtain ⟨hx, hb, hml, hown, hts, hX, hbl, hK, hN9, hQ9⟩ := id B
  have hbA : ¬ AA s b := Nat.not_le.mpr hbl
  have hA : ∀ q, s.heap.size ≤ q → AA s q := fun _ h => h
  obtain ⟨a1, ea1⟩ : ∃ z : Int32, xs (nI i + 1).toNatClampNeg = z := ⟨_, rfl⟩
  obtain ⟨a2, ea2⟩ : ∃ z : Int32, xs (nI i + 2).toNatClampNeg = z := ⟨_, rfl⟩
  obtain ⟨r, fot', rot', rat', vct', ost', lit', mo', o1, o2, o3⟩ := s_helps (x := a1) (y := a2) (fot := fot) (rot := rot) (rat := rat) (vct := vct) (ost := ost) (lit := lit) hN hI
  refine lv_aload_n hx hb dL_1063 rfl (lv_at hl 2 rfl) ?_
  refine lv_aload_n hx hb dL_1064 rfl (lv_at hl 3 rfl) ?_
  refine lv_iload_n hx hb dL_1065 rfl (lv_at hl 0 rfl) ?_
  refine lv_iconst (v := 1) hx hb dL_1066 (by decide) ?_
  refine lv_iadd hx hb dL_1067 ?_
  refine va_sld hx hb hX hbl hbA hS (vin2 1 (by omega) (by omega)) dL_1068 ?_
  rw [ea1]
  refine lv_aload_n hx hb dL_1069 rfl (lv_at hl 3 rfl) ?_
  refine lv_iload_n hx hb dL_1070 rfl (lv_at hl 0 rfl) ?_
  refine lv_iconst (v := 2) hx hb dL_1071 (by decide) ?_
  refine lv_iadd hx hb dL_1072 ?_
  refine va_sld hx hb hX hbl hbA hS (vin2 2 (by omega) (by omega)) dL_1073 ?_
  rw [ea2]
  refine k_RIV (As := [.int a1, .int a2]) (rest := []) ⟨hx, hb, hml, hown, hts⟩ hK hP hD hS hA (wn := LW cy u ck qk mk P qm sm bsa bsb rd di rof pn se fo ro ra vc os li fot' rot' rat' vct' ost' lit' mo) (FrS_c rfl) (cw_L_127 (d := 6) hts ⟨Nat.le_of_ble_eq_true rfl, Nat.le_of_ble_eq_true rfl⟩) 0 (ci := 11) rfl rfl rfl (c_X11_helps l D cy (fun z => u z) (fun z => u (20 + z)) (fun z => u (40 + z)) (fun z => u (60 + z)) (fun z => u (80 + z)) (fun z => u (100 + z)) (fun z => u (120 + z)) (fun z => u (140 + z)) (fun z => u (160 + z)) (fun z => u (180 + z)) (fun z => u (200 + z)) (fun z => u (220 + z)) (fun z => u (240 + z)) (fun z => u (260 + z)) (fun z => u (280 + z)) (fun z => u (300 + z)) (fun z => u (320 + z)) (fun z => u (340 + z)) (fun z => u (360 + z)) (fun z => u (380 + z)) sm bsa bsb rd di rof pn se fo ro ra vc os li fot rot rat vct ost lit a1 a2 r fot' rot' rat' vct' ost' lit' o1) rfl hl.1 (Nat.le_of_ble_eq_true rfl) ⟨by show cells + 0 ≤ 600000; omega, by show slots + 0 ≤ 7302250; omega⟩ dL_1074 (fun H locs hP hD hS => ?_)
  refine lv_aload_n hx hb dL_1077 rfl (lv_at hl 1 rfl) ?_
  refine lv_aload_n hx hb dL_1078 rfl (lv_at hl 3 rfl) ?_
  refine lv_iload_n hx hb dL_1079 rfl (lv_at hl 0 rfl) ?_
  refine lv_iconst (v := 1) hx hb dL_1080 (by decide) ?_
  refine lv_iadd hx hb dL_1081 ?_
  refine va_sld hx hb hX hbl hbA hS (vin2 1 (by omega) (by omega)) dL_1082 ?_
  rw [ea1]
  refine lv_aload_n hx hb dL_1083 rfl (lv_at hl 3 rfl) ?_
  refine lv_iload_n hx hb dL_1084 rfl (lv_at hl 0 rfl) ?_
  refine lv_iconst (v := 2) hx hb dL_1085 (by decide) ?_
  refine lv_iadd hx hb dL_1086 ?_
  refine va_sld hx hb hX hbl hbA hS (vin2 2 (by omega) (by omega)) dL_1087 ?_
  rw [ea2]
  refine k_RIV (As := [.int a1, .int a2]) (rest := [.int r]) ⟨hx, hb, hml, hown, hts⟩ hK hP hD hS hA (wn := LW cy u ck qk mk P qm sm bsa bsb rd di rof pn se fo ro ra vc os li fot' rot' rat' vct' ost' lit' mo') (FrS_m rfl) (cw_L_130 (d := 6) hts ⟨Nat.le_of_ble_eq_true rfl, Nat.le_of_ble_eq_true rfl⟩) 0 (ci := 12) rfl rfl rfl (c_X12_helps l D cy qm mo a1 a2 r mo' o2) rfl hl.1 (Nat.le_of_ble_eq_true rfl) ⟨by show cells + 0 ≤ 600000; omega, by show slots + 0 ≤ 7302250; omega⟩ dL_1088 (fun H locs hP hD hS => ?_)
  refine lv_icmp_eq (tgt := 1620) hx hb dL_1091 (by decide) (fun _ => ?_) (fun c1 => absurd rfl c1)
  exact kk _ _ _ _ _ _ _ _ _ _ _ _ _ _ _ _ _ _ _ _ _ _ _ _ _ _ _ _ _ (by omega) (by omega) o3 hP hD hS
set_option maxRecDepth 100000 in
theorem L_rank (B : LB p s m meth c b L xs D cy ck) (hl : lv_has ls 4 [(3, .int (nI i)), (2, .ref (qm 0)), (1, .ref (u 0)), (0, .ref b)]) (hi : i + 5 < L) (hL : L ≤ 3072) (hN : N ≤ 512) (hc : cells ≤ 500000 ∧ slots ≤ 7000000) (hI : LI N k P mk sm bsa pn fo ro ra vc os li mo) (hP : va_P D vwCl (LW cy u ck qk mk P qm sm bsa bsb rd di rof pn se fo ro ra vc os li fot rot rat vct ost lit mo) H) (hD : va_D (AA s) (LW cy u ck qk mk P qm sm bsa bsb rd di rof pn se fo ro ra vc os li fot rot rat vct ost lit mo)) (hS : va_S (AA s) s.heap H locs) (kk : LK p l e s m below meth c b D cy ck u qm Q cells slots ls N) : W p l e room_1 s m #[Value.ref b] below meth c H locs cells slots Q (F0 m 1096 ls []) := by
  obtain ⟨hx, hb, hml, hown, hts, hX, hbl, hK, hN9, hQ9⟩ := id B
  have hbA : ¬ AA s b := Nat.not_le.mpr hbl
  have hA : ∀ q, s.heap.size ≤ q → AA s q := fun _ h => h
  obtain ⟨a1, ea1⟩ : ∃ z : Int32, xs (nI i + 1).toNatClampNeg = z := ⟨_, rfl⟩
  obtain ⟨r, o1, o2, o3⟩ := s_rank (x := a1)  hN hI
  refine lv_aload_n hx hb dL_1096 rfl (lv_at hl 2 rfl) ?_
  refine lv_aload_n hx hb dL_1097 rfl (lv_at hl 3 rfl) ?_
  refine lv_iload_n hx hb dL_1098 rfl (lv_at hl 0 rfl) ?_
  refine lv_iconst (v := 1) hx hb dL_1099 (by decide) ?_
  refine lv_iadd hx hb dL_1100 ?_
  refine va_sld hx hb hX hbl hbA hS (vin2 1 (by omega) (by omega)) dL_1101 ?_
  rw [ea1]
  refine k_ROV (As := [.int a1]) (rest := []) ⟨hx, hb, hml, hown, hts⟩ hK (P_c hP) (cw_L_131 (d := 4) hts ⟨Nat.le_of_ble_eq_true rfl, Nat.le_of_ble_eq_true rfl⟩) 0 (ci := 11) rfl rfl rfl (c_X11_rank l D cy (fun z => u z) (fun z => u (20 + z)) (fun z => u (40 + z)) (fun z => u (60 + z)) (fun z => u (80 + z)) (fun z => u (100 + z)) (fun z => u (120 + z)) (fun z => u (140 + z)) (fun z => u (160 + z)) (fun z => u (180 + z)) (fun z => u (200 + z)) (fun z => u (220 + z)) (fun z => u (240 + z)) (fun z => u (260 + z)) (fun z => u (280 + z)) (fun z => u (300 + z)) (fun z => u (320 + z)) (fun z => u (340 + z)) (fun z => u (360 + z)) (fun z => u (380 + z)) sm bsa bsb rd di rof pn se fo ro ra vc os li fot rot rat vct ost lit a1 r o1) rfl hl.1 (Nat.le_of_ble_eq_true rfl) ⟨by show cells + 0 ≤ 600000; omega, by show slots + 0 ≤ 7302250; omega⟩ dL_1102 ?_
  refine lv_aload_n hx hb dL_1105 rfl (lv_at hl 1 rfl) ?_
  refine lv_aload_n hx hb dL_1106 rfl (lv_at hl 3 rfl) ?_
  refine lv_iload_n hx hb dL_1107 rfl (lv_at hl 0 rfl) ?_
  refine lv_iconst (v := 1) hx hb dL_1108 (by decide) ?_
  refine lv_iadd hx hb dL_1109 ?_
  refine va_sld hx hb hX hbl hbA hS (vin2 1 (by omega) (by omega)) dL_1110 ?_
  rw [ea1]
  refine k_ROV (As := [.int a1]) (rest := [.int r]) ⟨hx, hb, hml, hown, hts⟩ hK (P_m hP) (cw_L_134 (d := 5) hts ⟨Nat.le_of_ble_eq_true rfl, Nat.le_of_ble_eq_true rfl⟩) 0 (ci := 12) rfl rfl rfl (c_X12_rank l D cy qm mo a1 r o2) rfl hl.1 (Nat.le_of_ble_eq_true rfl) ⟨by show cells + 0 ≤ 600000; omega, by show slots + 0 ≤ 7302250; omega⟩ dL_1111 ?_
  refine lv_icmp_eq (tgt := 1620) hx hb dL_1114 (by decide) (fun _ => ?_) (fun c1 => absurd rfl c1)
  exact kk _ _ _ _ _ _ _ _ _ _ _ _ _ _ _ _ _ _ _ _ _ _ _ _ _ _ _ _ _ (by omega) (by omega) o3 hP hD hS
set_option maxRecDepth 100000 in
theorem L_unfair (B : LB p s m meth c b L xs D cy ck) (hl : lv_has ls 4 [(3, .int (nI i)), (2, .ref (qm 0)), (1, .ref (u 0)), (0, .ref b)]) (hi : i + 5 < L) (hL : L ≤ 3072) (hN : N ≤ 512) (hc : cells ≤ 500000 ∧ slots ≤ 7000000) (hI : LI N k P mk sm bsa pn fo ro ra vc os li mo) (hP : va_P D vwCl (LW cy u ck qk mk P qm sm bsa bsb rd di rof pn se fo ro ra vc os li fot rot rat vct ost lit mo) H) (hD : va_D (AA s) (LW cy u ck qk mk P qm sm bsa bsb rd di rof pn se fo ro ra vc os li fot rot rat vct ost lit mo)) (hS : va_S (AA s) s.heap H locs) (kk : LK p l e s m below meth c b D cy ck u qm Q cells slots ls N) : W p l e room_1 s m #[Value.ref b] below meth c H locs cells slots Q (F0 m 1119 ls []) := by
  obtain ⟨hx, hb, hml, hown, hts, hX, hbl, hK, hN9, hQ9⟩ := id B
  have hbA : ¬ AA s b := Nat.not_le.mpr hbl
  have hA : ∀ q, s.heap.size ≤ q → AA s q := fun _ h => h
  obtain ⟨r, o1, o2, o3⟩ := s_unfair   hN hI
  refine lv_aload_n hx hb dL_1119 rfl (lv_at hl 2 rfl) ?_
  refine k_ROV (As := []) (rest := []) ⟨hx, hb, hml, hown, hts⟩ hK (P_c hP) (cw_L_135 (d := 4) hts ⟨Nat.le_of_ble_eq_true rfl, Nat.le_of_ble_eq_true rfl⟩) 0 (ci := 11) rfl rfl rfl (c_X11_unfair l D cy (fun z => u z) (fun z => u (20 + z)) (fun z => u (40 + z)) (fun z => u (60 + z)) (fun z => u (80 + z)) (fun z => u (100 + z)) (fun z => u (120 + z)) (fun z => u (140 + z)) (fun z => u (160 + z)) (fun z => u (180 + z)) (fun z => u (200 + z)) (fun z => u (220 + z)) (fun z => u (240 + z)) (fun z => u (260 + z)) (fun z => u (280 + z)) (fun z => u (300 + z)) (fun z => u (320 + z)) (fun z => u (340 + z)) (fun z => u (360 + z)) (fun z => u (380 + z)) sm bsa bsb rd di rof pn se fo ro ra vc os li fot rot rat vct ost lit r o1) rfl hl.1 (Nat.le_of_ble_eq_true rfl) ⟨by show cells + 0 ≤ 600000; omega, by show slots + 0 ≤ 7302250; omega⟩ dL_1120 ?_
  refine lv_aload_n hx hb dL_1123 rfl (lv_at hl 1 rfl) ?_
  refine k_ROV (As := []) (rest := [.int r]) ⟨hx, hb, hml, hown, hts⟩ hK (P_m hP) (cw_L_138 (d := 5) hts ⟨Nat.le_of_ble_eq_true rfl, Nat.le_of_ble_eq_true rfl⟩) 0 (ci := 12) rfl rfl rfl (c_X12_unfair l D cy qm mo r o2) rfl hl.1 (Nat.le_of_ble_eq_true rfl) ⟨by show cells + 0 ≤ 600000; omega, by show slots + 0 ≤ 7302250; omega⟩ dL_1124 ?_
  refine lv_icmp_eq (tgt := 1620) hx hb dL_1127 (by decide) (fun _ => ?_) (fun c1 => absurd rfl c1)
  exact kk _ _ _ _ _ _ _ _ _ _ _ _ _ _ _ _ _ _ _ _ _ _ _ _ _ _ _ _ _ (by omega) (by omega) o3 hP hD hS
set_option maxRecDepth 100000 in
theorem L_link (B : LB p s m meth c b L xs D cy ck) (hl : lv_has ls 4 [(3, .int (nI i)), (2, .ref (qm 0)), (1, .ref (u 0)), (0, .ref b)]) (hi : i + 5 < L) (hL : L ≤ 3072) (hN : N ≤ 512) (hc : cells ≤ 500000 ∧ slots ≤ 7000000) (hI : LI N k P mk sm bsa pn fo ro ra vc os li mo) (hP : va_P D vwCl (LW cy u ck qk mk P qm sm bsa bsb rd di rof pn se fo ro ra vc os li fot rot rat vct ost lit mo) H) (hD : va_D (AA s) (LW cy u ck qk mk P qm sm bsa bsb rd di rof pn se fo ro ra vc os li fot rot rat vct ost lit mo)) (hS : va_S (AA s) s.heap H locs) (kk : LK p l e s m below meth c b D cy ck u qm Q cells slots ls N) : W p l e room_1 s m #[Value.ref b] below meth c H locs cells slots Q (F0 m 1132 ls []) := by
  obtain ⟨hx, hb, hml, hown, hts, hX, hbl, hK, hN9, hQ9⟩ := id B
  have hbA : ¬ AA s b := Nat.not_le.mpr hbl
  have hA : ∀ q, s.heap.size ≤ q → AA s q := fun _ h => h
  obtain ⟨a1, ea1⟩ : ∃ z : Int32, xs (nI i + 1).toNatClampNeg = z := ⟨_, rfl⟩
  obtain ⟨a2, ea2⟩ : ∃ z : Int32, xs (nI i + 2).toNatClampNeg = z := ⟨_, rfl⟩
  obtain ⟨a3, ea3⟩ : ∃ z : Int32, xs (nI i + 3).toNatClampNeg = z := ⟨_, rfl⟩
  obtain ⟨r, li', mo', o1, o2, o3⟩ := s_link (x := a1) (y := a2) (z := a3)  hN hI
  refine lv_aload_n hx hb dL_1132 rfl (lv_at hl 2 rfl) ?_
  refine lv_aload_n hx hb dL_1133 rfl (lv_at hl 3 rfl) ?_
  refine lv_iload_n hx hb dL_1134 rfl (lv_at hl 0 rfl) ?_
  refine lv_iconst (v := 1) hx hb dL_1135 (by decide) ?_
  refine lv_iadd hx hb dL_1136 ?_
  refine va_sld hx hb hX hbl hbA hS (vin2 1 (by omega) (by omega)) dL_1137 ?_
  rw [ea1]
  refine lv_aload_n hx hb dL_1138 rfl (lv_at hl 3 rfl) ?_
  refine lv_iload_n hx hb dL_1139 rfl (lv_at hl 0 rfl) ?_
  refine lv_iconst (v := 2) hx hb dL_1140 (by decide) ?_
  refine lv_iadd hx hb dL_1141 ?_
  refine va_sld hx hb hX hbl hbA hS (vin2 2 (by omega) (by omega)) dL_1142 ?_
  rw [ea2]
  refine lv_aload_n hx hb dL_1143 rfl (lv_at hl 3 rfl) ?_
  refine lv_iload_n hx hb dL_1144 rfl (lv_at hl 0 rfl) ?_
  refine lv_iconst (v := 3) hx hb dL_1145 (by decide) ?_
  refine lv_iadd hx hb dL_1146 ?_
  refine va_sld hx hb hX hbl hbA hS (vin2 3 (by omega) (by omega)) dL_1147 ?_
  rw [ea3]
  refine k_RIV (As := [.int a1, .int a2, .int a3]) (rest := []) ⟨hx, hb, hml, hown, hts⟩ hK hP hD hS hA (wn := LW cy u ck qk mk P qm sm bsa bsb rd di rof pn se fo ro ra vc os li' fot rot rat vct ost lit mo) (FrS_c rfl) (cw_L_139 (d := 1) hts ⟨Nat.le_of_ble_eq_true rfl, Nat.le_of_ble_eq_true rfl⟩) 0 (ci := 11) rfl rfl rfl (c_X11_link l D cy (fun z => u z) (fun z => u (20 + z)) (fun z => u (40 + z)) (fun z => u (60 + z)) (fun z => u (80 + z)) (fun z => u (100 + z)) (fun z => u (120 + z)) (fun z => u (140 + z)) (fun z => u (160 + z)) (fun z => u (180 + z)) (fun z => u (200 + z)) (fun z => u (220 + z)) (fun z => u (240 + z)) (fun z => u (260 + z)) (fun z => u (280 + z)) (fun z => u (300 + z)) (fun z => u (320 + z)) (fun z => u (340 + z)) (fun z => u (360 + z)) (fun z => u (380 + z)) sm bsa bsb rd di rof pn se fo ro ra vc os li fot rot rat vct ost lit a1 a2 a3 r li' o1) rfl hl.1 (Nat.le_of_ble_eq_true rfl) ⟨by show cells + 0 ≤ 600000; omega, by show slots + 0 ≤ 7302250; omega⟩ dL_1148 (fun H locs hP hD hS => ?_)
  refine lv_aload_n hx hb dL_1151 rfl (lv_at hl 1 rfl) ?_
  refine lv_aload_n hx hb dL_1152 rfl (lv_at hl 3 rfl) ?_
  refine lv_iload_n hx hb dL_1153 rfl (lv_at hl 0 rfl) ?_
  refine lv_iconst (v := 1) hx hb dL_1154 (by decide) ?_
  refine lv_iadd hx hb dL_1155 ?_
  refine va_sld hx hb hX hbl hbA hS (vin2 1 (by omega) (by omega)) dL_1156 ?_
  rw [ea1]
  refine lv_aload_n hx hb dL_1157 rfl (lv_at hl 3 rfl) ?_
  refine lv_iload_n hx hb dL_1158 rfl (lv_at hl 0 rfl) ?_
  refine lv_iconst (v := 2) hx hb dL_1159 (by decide) ?_
  refine lv_iadd hx hb dL_1160 ?_
  refine va_sld hx hb hX hbl hbA hS (vin2 2 (by omega) (by omega)) dL_1161 ?_
  rw [ea2]
  refine lv_aload_n hx hb dL_1162 rfl (lv_at hl 3 rfl) ?_
  refine lv_iload_n hx hb dL_1163 rfl (lv_at hl 0 rfl) ?_
  refine lv_iconst (v := 3) hx hb dL_1164 (by decide) ?_
  refine lv_iadd hx hb dL_1165 ?_
  refine va_sld hx hb hX hbl hbA hS (vin2 3 (by omega) (by omega)) dL_1166 ?_
  rw [ea3]
  refine k_RIV (As := [.int a1, .int a2, .int a3]) (rest := [.int r]) ⟨hx, hb, hml, hown, hts⟩ hK hP hD hS hA (wn := LW cy u ck qk mk P qm sm bsa bsb rd di rof pn se fo ro ra vc os li' fot rot rat vct ost lit mo') (FrS_m rfl) (cw_L_143 (d := 2) hts ⟨Nat.le_of_ble_eq_true rfl, Nat.le_of_ble_eq_true rfl⟩) 0 (ci := 12) rfl rfl rfl (c_X12_link l D cy qm mo a1 a2 a3 r mo' o2) rfl hl.1 (Nat.le_of_ble_eq_true rfl) ⟨by show cells + 0 ≤ 600000; omega, by show slots + 0 ≤ 7302250; omega⟩ dL_1167 (fun H locs hP hD hS => ?_)
  refine lv_icmp_eq (tgt := 1620) hx hb dL_1170 (by decide) (fun _ => ?_) (fun c1 => absurd rfl c1)
  exact kk _ _ _ _ _ _ _ _ _ _ _ _ _ _ _ _ _ _ _ _ _ _ _ _ _ _ _ _ _ (by omega) (by omega) o3 hP hD hS
set_option maxRecDepth 100000 in
theorem L_linked (B : LB p s m meth c b L xs D cy ck) (hl : lv_has ls 4 [(3, .int (nI i)), (2, .ref (qm 0)), (1, .ref (u 0)), (0, .ref b)]) (hi : i + 5 < L) (hL : L ≤ 3072) (hN : N ≤ 512) (hc : cells ≤ 500000 ∧ slots ≤ 7000000) (hI : LI N k P mk sm bsa pn fo ro ra vc os li mo) (hP : va_P D vwCl (LW cy u ck qk mk P qm sm bsa bsb rd di rof pn se fo ro ra vc os li fot rot rat vct ost lit mo) H) (hD : va_D (AA s) (LW cy u ck qk mk P qm sm bsa bsb rd di rof pn se fo ro ra vc os li fot rot rat vct ost lit mo)) (hS : va_S (AA s) s.heap H locs) (kk : LK p l e s m below meth c b D cy ck u qm Q cells slots ls N) : W p l e room_1 s m #[Value.ref b] below meth c H locs cells slots Q (F0 m 1175 ls []) := by
  obtain ⟨hx, hb, hml, hown, hts, hX, hbl, hK, hN9, hQ9⟩ := id B
  have hbA : ¬ AA s b := Nat.not_le.mpr hbl
  have hA : ∀ q, s.heap.size ≤ q → AA s q := fun _ h => h
  obtain ⟨a1, ea1⟩ : ∃ z : Int32, xs (nI i + 1).toNatClampNeg = z := ⟨_, rfl⟩
  obtain ⟨a2, ea2⟩ : ∃ z : Int32, xs (nI i + 2).toNatClampNeg = z := ⟨_, rfl⟩
  obtain ⟨r, o1, o2, o3⟩ := s_linked (x := a1) (y := a2)  hN hI
  refine lv_aload_n hx hb dL_1175 rfl (lv_at hl 2 rfl) ?_
  refine lv_aload_n hx hb dL_1176 rfl (lv_at hl 3 rfl) ?_
  refine lv_iload_n hx hb dL_1177 rfl (lv_at hl 0 rfl) ?_
  refine lv_iconst (v := 1) hx hb dL_1178 (by decide) ?_
  refine lv_iadd hx hb dL_1179 ?_
  refine va_sld hx hb hX hbl hbA hS (vin2 1 (by omega) (by omega)) dL_1180 ?_
  rw [ea1]
  refine lv_aload_n hx hb dL_1181 rfl (lv_at hl 3 rfl) ?_
  refine lv_iload_n hx hb dL_1182 rfl (lv_at hl 0 rfl) ?_
  refine lv_iconst (v := 2) hx hb dL_1183 (by decide) ?_
  refine lv_iadd hx hb dL_1184 ?_
  refine va_sld hx hb hX hbl hbA hS (vin2 2 (by omega) (by omega)) dL_1185 ?_
  rw [ea2]
  refine k_ROV (As := [.int a1, .int a2]) (rest := []) ⟨hx, hb, hml, hown, hts⟩ hK (P_c hP) (cw_L_144 (d := 2) hts ⟨Nat.le_of_ble_eq_true rfl, Nat.le_of_ble_eq_true rfl⟩) 0 (ci := 11) rfl rfl rfl (c_X11_linked l D cy (fun z => u z) (fun z => u (20 + z)) (fun z => u (40 + z)) (fun z => u (60 + z)) (fun z => u (80 + z)) (fun z => u (100 + z)) (fun z => u (120 + z)) (fun z => u (140 + z)) (fun z => u (160 + z)) (fun z => u (180 + z)) (fun z => u (200 + z)) (fun z => u (220 + z)) (fun z => u (240 + z)) (fun z => u (260 + z)) (fun z => u (280 + z)) (fun z => u (300 + z)) (fun z => u (320 + z)) (fun z => u (340 + z)) (fun z => u (360 + z)) (fun z => u (380 + z)) sm bsa bsb rd di rof pn se fo ro ra vc os li fot rot rat vct ost lit a1 a2 r o1) rfl hl.1 (Nat.le_of_ble_eq_true rfl) ⟨by show cells + 0 ≤ 600000; omega, by show slots + 0 ≤ 7302250; omega⟩ dL_1186 ?_
  refine lv_aload_n hx hb dL_1189 rfl (lv_at hl 1 rfl) ?_
  refine lv_aload_n hx hb dL_1190 rfl (lv_at hl 3 rfl) ?_
  refine lv_iload_n hx hb dL_1191 rfl (lv_at hl 0 rfl) ?_
  refine lv_iconst (v := 1) hx hb dL_1192 (by decide) ?_
  refine lv_iadd hx hb dL_1193 ?_
  refine va_sld hx hb hX hbl hbA hS (vin2 1 (by omega) (by omega)) dL_1194 ?_
  rw [ea1]
  refine lv_aload_n hx hb dL_1195 rfl (lv_at hl 3 rfl) ?_
  refine lv_iload_n hx hb dL_1196 rfl (lv_at hl 0 rfl) ?_
  refine lv_iconst (v := 2) hx hb dL_1197 (by decide) ?_
  refine lv_iadd hx hb dL_1198 ?_
  refine va_sld hx hb hX hbl hbA hS (vin2 2 (by omega) (by omega)) dL_1199 ?_
  rw [ea2]
  refine k_ROV (As := [.int a1, .int a2]) (rest := [.int r]) ⟨hx, hb, hml, hown, hts⟩ hK (P_m hP) (cw_L_147 (d := 3) hts ⟨Nat.le_of_ble_eq_true rfl, Nat.le_of_ble_eq_true rfl⟩) 0 (ci := 12) rfl rfl rfl (c_X12_linked l D cy qm mo a1 a2 r o2) rfl hl.1 (Nat.le_of_ble_eq_true rfl) ⟨by show cells + 0 ≤ 600000; omega, by show slots + 0 ≤ 7302250; omega⟩ dL_1200 ?_
  refine lv_icmp_eq (tgt := 1620) hx hb dL_1203 (by decide) (fun _ => ?_) (fun c1 => absurd rfl c1)
  exact kk _ _ _ _ _ _ _ _ _ _ _ _ _ _ _ _ _ _ _ _ _ _ _ _ _ _ _ _ _ (by omega) (by omega) o3 hP hD hS
set_option maxRecDepth 100000 in
theorem L_breaks (B : LB p s m meth c b L xs D cy ck) (hl : lv_has ls 4 [(3, .int (nI i)), (2, .ref (qm 0)), (1, .ref (u 0)), (0, .ref b)]) (hi : i + 5 < L) (hL : L ≤ 3072) (hN : N ≤ 512) (hc : cells ≤ 500000 ∧ slots ≤ 7000000) (hI : LI N k P mk sm bsa pn fo ro ra vc os li mo) (hP : va_P D vwCl (LW cy u ck qk mk P qm sm bsa bsb rd di rof pn se fo ro ra vc os li fot rot rat vct ost lit mo) H) (hD : va_D (AA s) (LW cy u ck qk mk P qm sm bsa bsb rd di rof pn se fo ro ra vc os li fot rot rat vct ost lit mo)) (hS : va_S (AA s) s.heap H locs) (kk : LK p l e s m below meth c b D cy ck u qm Q cells slots ls N) : W p l e room_1 s m #[Value.ref b] below meth c H locs cells slots Q (F0 m 1208 ls []) := by
  obtain ⟨hx, hb, hml, hown, hts, hX, hbl, hK, hN9, hQ9⟩ := id B
  have hbA : ¬ AA s b := Nat.not_le.mpr hbl
  have hA : ∀ q, s.heap.size ≤ q → AA s q := fun _ h => h
  obtain ⟨a1, ea1⟩ : ∃ z : Int32, xs (nI i + 1).toNatClampNeg = z := ⟨_, rfl⟩
  obtain ⟨a2, ea2⟩ : ∃ z : Int32, xs (nI i + 2).toNatClampNeg = z := ⟨_, rfl⟩
  obtain ⟨r, fot', rot', rat', vct', ost', lit', mo', o1, o2, o3⟩ := s_breaks (x := a1) (y := a2) (fot := fot) (rot := rot) (rat := rat) (vct := vct) (ost := ost) (lit := lit) hN hI
  refine lv_aload_n hx hb dL_1208 rfl (lv_at hl 2 rfl) ?_
  refine lv_aload_n hx hb dL_1209 rfl (lv_at hl 3 rfl) ?_
  refine lv_iload_n hx hb dL_1210 rfl (lv_at hl 0 rfl) ?_
  refine lv_iconst (v := 1) hx hb dL_1211 (by decide) ?_
  refine lv_iadd hx hb dL_1212 ?_
  refine va_sld hx hb hX hbl hbA hS (vin2 1 (by omega) (by omega)) dL_1213 ?_
  rw [ea1]
  refine lv_aload_n hx hb dL_1214 rfl (lv_at hl 3 rfl) ?_
  refine lv_iload_n hx hb dL_1215 rfl (lv_at hl 0 rfl) ?_
  refine lv_iconst (v := 2) hx hb dL_1216 (by decide) ?_
  refine lv_iadd hx hb dL_1217 ?_
  refine va_sld hx hb hX hbl hbA hS (vin2 2 (by omega) (by omega)) dL_1218 ?_
  rw [ea2]
  refine k_RIV (As := [.int a1, .int a2]) (rest := []) ⟨hx, hb, hml, hown, hts⟩ hK hP hD hS hA (wn := LW cy u ck qk mk P qm sm bsa bsb rd di rof pn se fo ro ra vc os li fot' rot' rat' vct' ost' lit' mo) (FrS_c rfl) (cw_L_148 (d := 3) hts ⟨Nat.le_of_ble_eq_true rfl, Nat.le_of_ble_eq_true rfl⟩) 0 (ci := 11) rfl rfl rfl (c_X11_breaks l D cy (fun z => u z) (fun z => u (20 + z)) (fun z => u (40 + z)) (fun z => u (60 + z)) (fun z => u (80 + z)) (fun z => u (100 + z)) (fun z => u (120 + z)) (fun z => u (140 + z)) (fun z => u (160 + z)) (fun z => u (180 + z)) (fun z => u (200 + z)) (fun z => u (220 + z)) (fun z => u (240 + z)) (fun z => u (260 + z)) (fun z => u (280 + z)) (fun z => u (300 + z)) (fun z => u (320 + z)) (fun z => u (340 + z)) (fun z => u (360 + z)) (fun z => u (380 + z)) sm bsa bsb rd di rof pn se fo ro ra vc os li fot rot rat vct ost lit a1 a2 r fot' rot' rat' vct' ost' lit' o1) rfl hl.1 (Nat.le_of_ble_eq_true rfl) ⟨by show cells + 0 ≤ 600000; omega, by show slots + 0 ≤ 7302250; omega⟩ dL_1219 (fun H locs hP hD hS => ?_)
  refine lv_aload_n hx hb dL_1222 rfl (lv_at hl 1 rfl) ?_
  refine lv_aload_n hx hb dL_1223 rfl (lv_at hl 3 rfl) ?_
  refine lv_iload_n hx hb dL_1224 rfl (lv_at hl 0 rfl) ?_
  refine lv_iconst (v := 1) hx hb dL_1225 (by decide) ?_
  refine lv_iadd hx hb dL_1226 ?_
  refine va_sld hx hb hX hbl hbA hS (vin2 1 (by omega) (by omega)) dL_1227 ?_
  rw [ea1]
  refine lv_aload_n hx hb dL_1228 rfl (lv_at hl 3 rfl) ?_
  refine lv_iload_n hx hb dL_1229 rfl (lv_at hl 0 rfl) ?_
  refine lv_iconst (v := 2) hx hb dL_1230 (by decide) ?_
  refine lv_iadd hx hb dL_1231 ?_
  refine va_sld hx hb hX hbl hbA hS (vin2 2 (by omega) (by omega)) dL_1232 ?_
  rw [ea2]
  refine k_RIV (As := [.int a1, .int a2]) (rest := [.int r]) ⟨hx, hb, hml, hown, hts⟩ hK hP hD hS hA (wn := LW cy u ck qk mk P qm sm bsa bsb rd di rof pn se fo ro ra vc os li fot' rot' rat' vct' ost' lit' mo') (FrS_m rfl) (cw_L_151 (d := 5) hts ⟨Nat.le_of_ble_eq_true rfl, Nat.le_of_ble_eq_true rfl⟩) 0 (ci := 12) rfl rfl rfl (c_X12_breaks l D cy qm mo a1 a2 r mo' o2) rfl hl.1 (Nat.le_of_ble_eq_true rfl) ⟨by show cells + 0 ≤ 600000; omega, by show slots + 0 ≤ 7302250; omega⟩ dL_1233 (fun H locs hP hD hS => ?_)
  refine lv_icmp_eq (tgt := 1620) hx hb dL_1236 (by decide) (fun _ => ?_) (fun c1 => absurd rfl c1)
  exact kk _ _ _ _ _ _ _ _ _ _ _ _ _ _ _ _ _ _ _ _ _ _ _ _ _ _ _ _ _ (by omega) (by omega) o3 hP hD hS
end LC
