/-! the field; the class itself -/
abbrev w_FiU (cy : Nat → ClassId) (u : Nat → Nat) (fo ro ra vc os li : Mem) : va_W := w_Fi cy (fun k => u k) (fun k => u (20 + k)) (fun k => u (40 + k)) (fun k => u (60 + k)) (fun k => u (80 + k)) (fun k => u (100 + k)) fo ro ra vc os li
theorem mi_1_163 : Cond.methodLink RX2 3 objectInit ∈ tb := tb_in (in_1 (List.mem_of_getElem? (i := 163) rfl)) rfl
theorem mi_1_164 : Cond.classLink RX2 9 RX9 ∈ tb := tb_in (in_1 (List.mem_of_getElem? (i := 164) rfl)) rfl
theorem mi_1_69 : Cond.instantiable RX9 5 ∈ tb := tb_in (in_1 (List.mem_of_getElem? (i := 69) rfl)) rfl
theorem mi_1_5 : Cond.initialized RX9 ∈ tb := tb_in (in_1 (List.mem_of_getElem? (i := 5) rfl)) rfl
theorem mi_1_72 : Cond.code yX9_init cX9_init 1 none ∈ tb := tb_in (in_1 (List.mem_of_getElem? (i := 72) rfl)) rfl
theorem mi_1_71 : Cond.instanceMethod yX9_init ∈ tb := tb_in (in_1 (List.mem_of_getElem? (i := 71) rfl)) rfl
theorem mi_2_11 : Cond.fieldLink RX2 12 "StormSlots$Field" "roster" "LStormSlots$Roster;" ∈ tb := tb_in (in_2 (List.mem_of_getElem? (i := 11) rfl)) rfl
theorem mi_1_166 : Cond.classLink RX2 18 RX7 ∈ tb := tb_in (in_1 (List.mem_of_getElem? (i := 166) rfl)) rfl
theorem mi_1_167 : Cond.instantiable RX7 1 ∈ tb := tb_in (in_1 (List.mem_of_getElem? (i := 167) rfl)) rfl
theorem mi_1_9 : Cond.initialized RX7 ∈ tb := tb_in (in_1 (List.mem_of_getElem? (i := 9) rfl)) rfl
theorem mi_1_170 : Cond.code yX7_init cX7_init 2 none ∈ tb := tb_in (in_1 (List.mem_of_getElem? (i := 170) rfl)) rfl
theorem mi_1_169 : Cond.instanceMethod yX7_init ∈ tb := tb_in (in_1 (List.mem_of_getElem? (i := 169) rfl)) rfl
theorem mi_1_168 : Cond.methodLink RX2 20 yX7_init ∈ tb := tb_in (in_1 (List.mem_of_getElem? (i := 168) rfl)) rfl
theorem mi_2_14 : Cond.fieldLink RX2 21 "StormSlots$Field" "rates" "LStormSlots$Rates;" ∈ tb := tb_in (in_2 (List.mem_of_getElem? (i := 14) rfl)) rfl
theorem mi_1_176 : Cond.classLink RX2 25 RX10 ∈ tb := tb_in (in_1 (List.mem_of_getElem? (i := 176) rfl)) rfl
theorem mi_1_177 : Cond.instantiable RX10 3 ∈ tb := tb_in (in_1 (List.mem_of_getElem? (i := 177) rfl)) rfl
theorem mi_1_10 : Cond.initialized RX10 ∈ tb := tb_in (in_1 (List.mem_of_getElem? (i := 10) rfl)) rfl
theorem mi_1_180 : Cond.code yX10_init cX10_init 1 none ∈ tb := tb_in (in_1 (List.mem_of_getElem? (i := 180) rfl)) rfl
theorem mi_1_179 : Cond.instanceMethod yX10_init ∈ tb := tb_in (in_1 (List.mem_of_getElem? (i := 179) rfl)) rfl
theorem mi_2_17 : Cond.fieldLink RX2 28 "StormSlots$Field" "vacancies" "LStormSlots$Vacancies;" ∈ tb := tb_in (in_2 (List.mem_of_getElem? (i := 17) rfl)) rfl
theorem mi_1_194 : Cond.classLink RX2 32 RX4 ∈ tb := tb_in (in_1 (List.mem_of_getElem? (i := 194) rfl)) rfl
theorem mi_1_195 : Cond.instantiable RX4 5 ∈ tb := tb_in (in_1 (List.mem_of_getElem? (i := 195) rfl)) rfl
theorem mi_1_11 : Cond.initialized RX4 ∈ tb := tb_in (in_1 (List.mem_of_getElem? (i := 11) rfl)) rfl
theorem mi_1_198 : Cond.code yX4_init cX4_init 1 none ∈ tb := tb_in (in_1 (List.mem_of_getElem? (i := 198) rfl)) rfl
theorem mi_1_197 : Cond.instanceMethod yX4_init ∈ tb := tb_in (in_1 (List.mem_of_getElem? (i := 197) rfl)) rfl
theorem mi_2_19 : Cond.fieldLink RX2 35 "StormSlots$Field" "offers" "LStormSlots$Offers;" ∈ tb := tb_in (in_2 (List.mem_of_getElem? (i := 19) rfl)) rfl
theorem mi_1_224 : Cond.classLink RX2 39 RX3 ∈ tb := tb_in (in_1 (List.mem_of_getElem? (i := 224) rfl)) rfl
theorem mi_1_225 : Cond.instantiable RX3 4 ∈ tb := tb_in (in_1 (List.mem_of_getElem? (i := 225) rfl)) rfl
theorem mi_1_12 : Cond.initialized RX3 ∈ tb := tb_in (in_1 (List.mem_of_getElem? (i := 12) rfl)) rfl
theorem mi_1_228 : Cond.code yX3_init cX3_init 1 none ∈ tb := tb_in (in_1 (List.mem_of_getElem? (i := 228) rfl)) rfl
theorem mi_1_227 : Cond.instanceMethod yX3_init ∈ tb := tb_in (in_1 (List.mem_of_getElem? (i := 227) rfl)) rfl
theorem mi_2_21 : Cond.fieldLink RX2 42 "StormSlots$Field" "links" "LStormSlots$Links;" ∈ tb := tb_in (in_2 (List.mem_of_getElem? (i := 21) rfl)) rfl
theorem mi_2_23 : Cond.fieldLink RX2 46 "StormSlots$Field" "seat" "[I" ∈ tb := tb_in (in_2 (List.mem_of_getElem? (i := 23) rfl)) rfl
theorem mi_2_27 : Cond.fieldLink RX2 50 "StormSlots$Field" "hold" "[I" ∈ tb := tb_in (in_2 (List.mem_of_getElem? (i := 27) rfl)) rfl
theorem mi_2_30 : Cond.fieldLink RX2 53 "StormSlots$Field" "circles" "[I" ∈ tb := tb_in (in_2 (List.mem_of_getElem? (i := 30) rfl)) rfl
set_option maxRecDepth 100000 in
theorem n_X2 (l : Launch) (D : va_G) (cy : Nat → ClassId) : RN l yX2_init cX2_init 2 2 22 278 D cy 2 [.null, .null, .null, .null, .null, .null, .null, .null, .int 0, .int 0, .int 0] (fun u => w_FiU cy u (foI 20) zeM (raI 12) zeM zeM zeM) := by
  refine RN_of RX2 rfl (by decide) rfl (by decide) ?_
  intro p e s m below meth c a A hin C0 hK hN hP hD hS hA ls hl
  obtain ⟨hx, hb, hr, hml, hown, hts, hk⟩ := id C0
  refine lv_aload_n hx hb dX2_init_0 rfl (lv_at hl 0 rfl) ?_
  refine W.objInit hx hb hown (hts _ mi_1_163) (hts _ mi_1_23) (hts _ mi_1_24) rfl (by rw [hml]; exact hl.1) rfl dX2_init_1 (Nat.le_of_ble_eq_true rfl) (Nat.le_of_ble_eq_true rfl) ?_
  refine W.eq (g2 := F0 m 4 ls []) rfl ?_
  refine lv_aload_n hx hb dX2_init_4 rfl (lv_at hl 0 rfl) ?_
  refine k_newN (C := RX9) (T := TX9) (N := 5) (ci := 9) (fs0 := [.null, .null, .null, .null, .int 0]) (rest := [.ref a]) ⟨hx, hb, hml, hown, hts⟩ inX9 tyX9 tyX9_ok hx hb hts hown (hts _ mi_1_164) (hts _ mi_1_69) (hts _ mi_1_5) hK hN hP hD hS hA rfl (fun j hj => by rcases (show j = 0 ∨ j = 1 ∨ j = 2 ∨ j = 3 ∨ j = 4 by omega) with rfl | rfl | rfl | rfl | rfl <;> rfl) (n_X9 l D cy) ⟨va_cnB 0 hts (wl_good mi_1_72) rfl rfl rfl hN.2.2.2.2.2.2.1 (hts _ mi_1_5) (by decide +kernel) ⟨Nat.le_of_ble_eq_true rfl, Nat.le_of_ble_eq_true rfl⟩, rfl, hts _ mi_1_71⟩ hl.1 (Nat.le_of_ble_eq_true rfl) (Nat.le_of_ble_eq_true rfl) (Nat.le_of_ble_eq_true rfl) dX2_init_5 dX2_init_8 dX2_init_9 (fun u1 H locs hP hD hS => ?_)
  have hP : va_P D vwCl ([(a, .inr (2, [.null, .null, .null, .null, .null, .null, .null, .null, .int 0, .int 0, .int 0]))] ++ (w_Ro cy u1 zeM)) H := hP
  have hD : va_D A ([(a, .inr (2, [.null, .null, .null, .null, .null, .null, .null, .null, .int 0, .int 0, .int 0]))] ++ (w_Ro cy u1 zeM)) := hD
  refine va_putF (ci := 2) (v := .ref (u1 0)) (ty := (.object "StormSlots$Roster")) (C := RX2) (T := TX2) (N := 11) hx hb hts inX2 tyX2 tyX2_ok nmX2 hown hK.1 hP hD hS 0 rfl rfl 0 (by decide) (hts _ mi_2_11) (fun _ h9 => h9) rfl hin rfl (by decide +kernel) rfl rfl (Nat.le_of_ble_eq_true rfl) dX2_init_12 (fun H locs hP hD hS => ?_)
  have hP : va_P D vwCl ([(a, .inr (2, [.ref (u1 0), .null, .null, .null, .null, .null, .null, .null, .int 0, .int 0, .int 0]))] ++ (w_Ro cy u1 zeM)) H := hP
  have hD : va_D A ([(a, .inr (2, [.ref (u1 0), .null, .null, .null, .null, .null, .null, .null, .int 0, .int 0, .int 0]))] ++ (w_Ro cy u1 zeM)) := hD
  refine lv_aload_n hx hb dX2_init_15 rfl (lv_at hl 0 rfl) ?_
  refine k_new (C := RX7) (T := TX7) (N := 1) (ci := 7) (fs0 := [.null]) (rest := [.ref a]) ⟨hx, hb, hml, hown, hts⟩ inX7 tyX7 tyX7_ok hx hb hts hown (hts _ mi_1_166) (hts _ mi_1_167) (hts _ mi_1_9) hK hN hP hD hS hA rfl (fun j hj => by rcases (show j = 0 by omega) with rfl <;> rfl) (n_X7 l D cy) ⟨callB_of 0 hts (wl_good mi_1_170) rfl rfl rfl (hts _ mi_1_9) (hts _ mi_1_168) (by decide +kernel) ⟨Nat.le_of_ble_eq_true rfl, Nat.le_of_ble_eq_true rfl⟩, rfl, hts _ mi_1_169⟩ hl.1 (Nat.le_of_ble_eq_true rfl) (Nat.le_of_ble_eq_true rfl) (Nat.le_of_ble_eq_true rfl) dX2_init_16 dX2_init_19 dX2_init_20 (fun u2 H locs hP hD hS => ?_)
  have hP : va_P D vwCl (([(a, .inr (2, [.ref (u1 0), .null, .null, .null, .null, .null, .null, .null, .int 0, .int 0, .int 0]))] ++ (w_Ro cy u1 zeM)) ++ (w_Ra cy u2 (raI 12))) H := hP
  have hD : va_D A (([(a, .inr (2, [.ref (u1 0), .null, .null, .null, .null, .null, .null, .null, .int 0, .int 0, .int 0]))] ++ (w_Ro cy u1 zeM)) ++ (w_Ra cy u2 (raI 12))) := hD
  refine va_putF (ci := 2) (v := .ref (u2 0)) (ty := (.object "StormSlots$Rates")) (C := RX2) (T := TX2) (N := 11) hx hb hts inX2 tyX2 tyX2_ok nmX2 hown hK.1 hP hD hS 0 rfl rfl 1 (by decide) (hts _ mi_2_14) (fun _ h9 => h9) rfl hin rfl (by decide +kernel) rfl rfl (Nat.le_of_ble_eq_true rfl) dX2_init_23 (fun H locs hP hD hS => ?_)
  have hP : va_P D vwCl (([(a, .inr (2, [.ref (u1 0), .ref (u2 0), .null, .null, .null, .null, .null, .null, .int 0, .int 0, .int 0]))] ++ (w_Ro cy u1 zeM)) ++ (w_Ra cy u2 (raI 12))) H := hP
  have hD : va_D A (([(a, .inr (2, [.ref (u1 0), .ref (u2 0), .null, .null, .null, .null, .null, .null, .int 0, .int 0, .int 0]))] ++ (w_Ro cy u1 zeM)) ++ (w_Ra cy u2 (raI 12))) := hD
  refine lv_aload_n hx hb dX2_init_26 rfl (lv_at hl 0 rfl) ?_
  refine k_newN (C := RX10) (T := TX10) (N := 3) (ci := 10) (fs0 := [.null, .null, .int 0]) (rest := [.ref a]) ⟨hx, hb, hml, hown, hts⟩ inX10 tyX10 tyX10_ok hx hb hts hown (hts _ mi_1_176) (hts _ mi_1_177) (hts _ mi_1_10) hK hN hP hD hS hA rfl (fun j hj => by rcases (show j = 0 ∨ j = 1 ∨ j = 2 by omega) with rfl | rfl | rfl <;> rfl) (n_X10 l D cy) ⟨va_cnB 0 hts (wl_good mi_1_180) rfl rfl rfl hN.2.2.2.2.2.2.2.1 (hts _ mi_1_10) (by decide +kernel) ⟨Nat.le_of_ble_eq_true rfl, Nat.le_of_ble_eq_true rfl⟩, rfl, hts _ mi_1_179⟩ hl.1 (Nat.le_of_ble_eq_true rfl) (Nat.le_of_ble_eq_true rfl) (Nat.le_of_ble_eq_true rfl) dX2_init_27 dX2_init_30 dX2_init_31 (fun u3 H locs hP hD hS => ?_)
  have hP : va_P D vwCl ((([(a, .inr (2, [.ref (u1 0), .ref (u2 0), .null, .null, .null, .null, .null, .null, .int 0, .int 0, .int 0]))] ++ (w_Ro cy u1 zeM)) ++ (w_Ra cy u2 (raI 12))) ++ (w_Va cy u3 zeM)) H := hP
  have hD : va_D A ((([(a, .inr (2, [.ref (u1 0), .ref (u2 0), .null, .null, .null, .null, .null, .null, .int 0, .int 0, .int 0]))] ++ (w_Ro cy u1 zeM)) ++ (w_Ra cy u2 (raI 12))) ++ (w_Va cy u3 zeM)) := hD
  refine va_putF (ci := 2) (v := .ref (u3 0)) (ty := (.object "StormSlots$Vacancies")) (C := RX2) (T := TX2) (N := 11) hx hb hts inX2 tyX2 tyX2_ok nmX2 hown hK.1 hP hD hS 0 rfl rfl 2 (by decide) (hts _ mi_2_17) (fun _ h9 => h9) rfl hin rfl (by decide +kernel) rfl rfl (Nat.le_of_ble_eq_true rfl) dX2_init_34 (fun H locs hP hD hS => ?_)
  have hP : va_P D vwCl ((([(a, .inr (2, [.ref (u1 0), .ref (u2 0), .ref (u3 0), .null, .null, .null, .null, .null, .int 0, .int 0, .int 0]))] ++ (w_Ro cy u1 zeM)) ++ (w_Ra cy u2 (raI 12))) ++ (w_Va cy u3 zeM)) H := hP
  have hD : va_D A ((([(a, .inr (2, [.ref (u1 0), .ref (u2 0), .ref (u3 0), .null, .null, .null, .null, .null, .int 0, .int 0, .int 0]))] ++ (w_Ro cy u1 zeM)) ++ (w_Ra cy u2 (raI 12))) ++ (w_Va cy u3 zeM)) := hD
  refine lv_aload_n hx hb dX2_init_37 rfl (lv_at hl 0 rfl) ?_
  refine k_newN (C := RX4) (T := TX4) (N := 5) (ci := 4) (fs0 := [.null, .null, .null, .null, .int 0]) (rest := [.ref a]) ⟨hx, hb, hml, hown, hts⟩ inX4 tyX4 tyX4_ok hx hb hts hown (hts _ mi_1_194) (hts _ mi_1_195) (hts _ mi_1_11) hK hN hP hD hS hA rfl (fun j hj => by rcases (show j = 0 ∨ j = 1 ∨ j = 2 ∨ j = 3 ∨ j = 4 by omega) with rfl | rfl | rfl | rfl | rfl <;> rfl) (n_X4 l D cy) ⟨va_cnB 0 hts (wl_good mi_1_198) rfl rfl rfl hN.2.2.2.2.2.2.2.2.1 (hts _ mi_1_11) (by decide +kernel) ⟨Nat.le_of_ble_eq_true rfl, Nat.le_of_ble_eq_true rfl⟩, rfl, hts _ mi_1_197⟩ hl.1 (Nat.le_of_ble_eq_true rfl) (Nat.le_of_ble_eq_true rfl) (Nat.le_of_ble_eq_true rfl) dX2_init_38 dX2_init_41 dX2_init_42 (fun u4 H locs hP hD hS => ?_)
  have hP : va_P D vwCl (((([(a, .inr (2, [.ref (u1 0), .ref (u2 0), .ref (u3 0), .null, .null, .null, .null, .null, .int 0, .int 0, .int 0]))] ++ (w_Ro cy u1 zeM)) ++ (w_Ra cy u2 (raI 12))) ++ (w_Va cy u3 zeM)) ++ (w_Of cy u4 zeM)) H := hP
  have hD : va_D A (((([(a, .inr (2, [.ref (u1 0), .ref (u2 0), .ref (u3 0), .null, .null, .null, .null, .null, .int 0, .int 0, .int 0]))] ++ (w_Ro cy u1 zeM)) ++ (w_Ra cy u2 (raI 12))) ++ (w_Va cy u3 zeM)) ++ (w_Of cy u4 zeM)) := hD
  refine va_putF (ci := 2) (v := .ref (u4 0)) (ty := (.object "StormSlots$Offers")) (C := RX2) (T := TX2) (N := 11) hx hb hts inX2 tyX2 tyX2_ok nmX2 hown hK.1 hP hD hS 0 rfl rfl 3 (by decide) (hts _ mi_2_19) (fun _ h9 => h9) rfl hin rfl (by decide +kernel) rfl rfl (Nat.le_of_ble_eq_true rfl) dX2_init_45 (fun H locs hP hD hS => ?_)
  have hP : va_P D vwCl (((([(a, .inr (2, [.ref (u1 0), .ref (u2 0), .ref (u3 0), .ref (u4 0), .null, .null, .null, .null, .int 0, .int 0, .int 0]))] ++ (w_Ro cy u1 zeM)) ++ (w_Ra cy u2 (raI 12))) ++ (w_Va cy u3 zeM)) ++ (w_Of cy u4 zeM)) H := hP
  have hD : va_D A (((([(a, .inr (2, [.ref (u1 0), .ref (u2 0), .ref (u3 0), .ref (u4 0), .null, .null, .null, .null, .int 0, .int 0, .int 0]))] ++ (w_Ro cy u1 zeM)) ++ (w_Ra cy u2 (raI 12))) ++ (w_Va cy u3 zeM)) ++ (w_Of cy u4 zeM)) := hD
  refine lv_aload_n hx hb dX2_init_48 rfl (lv_at hl 0 rfl) ?_
  refine k_newN (C := RX3) (T := TX3) (N := 4) (ci := 3) (fs0 := [.null, .null, .null, .int 0]) (rest := [.ref a]) ⟨hx, hb, hml, hown, hts⟩ inX3 tyX3 tyX3_ok hx hb hts hown (hts _ mi_1_224) (hts _ mi_1_225) (hts _ mi_1_12) hK hN hP hD hS hA rfl (fun j hj => by rcases (show j = 0 ∨ j = 1 ∨ j = 2 ∨ j = 3 by omega) with rfl | rfl | rfl | rfl <;> rfl) (n_X3 l D cy) ⟨va_cnB 0 hts (wl_good mi_1_228) rfl rfl rfl hN.2.2.2.2.2.2.2.2.2.1 (hts _ mi_1_12) (by decide +kernel) ⟨Nat.le_of_ble_eq_true rfl, Nat.le_of_ble_eq_true rfl⟩, rfl, hts _ mi_1_227⟩ hl.1 (Nat.le_of_ble_eq_true rfl) (Nat.le_of_ble_eq_true rfl) (Nat.le_of_ble_eq_true rfl) dX2_init_49 dX2_init_52 dX2_init_53 (fun u5 H locs hP hD hS => ?_)
  have hP : va_P D vwCl ((((([(a, .inr (2, [.ref (u1 0), .ref (u2 0), .ref (u3 0), .ref (u4 0), .null, .null, .null, .null, .int 0, .int 0, .int 0]))] ++ (w_Ro cy u1 zeM)) ++ (w_Ra cy u2 (raI 12))) ++ (w_Va cy u3 zeM)) ++ (w_Of cy u4 zeM)) ++ (w_Li cy u5 zeM)) H := hP
  have hD : va_D A ((((([(a, .inr (2, [.ref (u1 0), .ref (u2 0), .ref (u3 0), .ref (u4 0), .null, .null, .null, .null, .int 0, .int 0, .int 0]))] ++ (w_Ro cy u1 zeM)) ++ (w_Ra cy u2 (raI 12))) ++ (w_Va cy u3 zeM)) ++ (w_Of cy u4 zeM)) ++ (w_Li cy u5 zeM)) := hD
  refine va_putF (ci := 2) (v := .ref (u5 0)) (ty := (.object "StormSlots$Links")) (C := RX2) (T := TX2) (N := 11) hx hb hts inX2 tyX2 tyX2_ok nmX2 hown hK.1 hP hD hS 0 rfl rfl 4 (by decide) (hts _ mi_2_21) (fun _ h9 => h9) rfl hin rfl (by decide +kernel) rfl rfl (Nat.le_of_ble_eq_true rfl) dX2_init_56 (fun H locs hP hD hS => ?_)
  have hP : va_P D vwCl ((((([(a, .inr (2, [.ref (u1 0), .ref (u2 0), .ref (u3 0), .ref (u4 0), .ref (u5 0), .null, .null, .null, .int 0, .int 0, .int 0]))] ++ (w_Ro cy u1 zeM)) ++ (w_Ra cy u2 (raI 12))) ++ (w_Va cy u3 zeM)) ++ (w_Of cy u4 zeM)) ++ (w_Li cy u5 zeM)) H := hP
  have hD : va_D A ((((([(a, .inr (2, [.ref (u1 0), .ref (u2 0), .ref (u3 0), .ref (u4 0), .ref (u5 0), .null, .null, .null, .int 0, .int 0, .int 0]))] ++ (w_Ro cy u1 zeM)) ++ (w_Ra cy u2 (raI 12))) ++ (w_Va cy u3 zeM)) ++ (w_Of cy u4 zeM)) ++ (w_Li cy u5 zeM)) := hD
  refine lv_aload_n hx hb dX2_init_59 rfl (lv_at hl 0 rfl) ?_
  refine lv_bipush (v := 20) hx hb dX2_init_60 (by decide) ?_
  refine r_newI (N' := 20) hx hb (hts _ mi_1_104) hK hP hD hS hA (by decide) (by decide) (by decide) (Nat.le_of_ble_eq_true rfl) (Nat.le_of_ble_eq_true rfl) dX2_init_62 (fun q6 H hP hD hS => ?_)
  have hP : va_P D vwCl (((((([(a, .inr (2, [.ref (u1 0), .ref (u2 0), .ref (u3 0), .ref (u4 0), .ref (u5 0), .null, .null, .null, .int 0, .int 0, .int 0]))] ++ (w_Ro cy u1 zeM)) ++ (w_Ra cy u2 (raI 12))) ++ (w_Va cy u3 zeM)) ++ (w_Of cy u4 zeM)) ++ (w_Li cy u5 zeM)) ++ [(q6, .inl (cy 0, 20, .inl (fun _ => 0)))]) H := hP
  have hD : va_D A (((((([(a, .inr (2, [.ref (u1 0), .ref (u2 0), .ref (u3 0), .ref (u4 0), .ref (u5 0), .null, .null, .null, .int 0, .int 0, .int 0]))] ++ (w_Ro cy u1 zeM)) ++ (w_Ra cy u2 (raI 12))) ++ (w_Va cy u3 zeM)) ++ (w_Of cy u4 zeM)) ++ (w_Li cy u5 zeM)) ++ [(q6, .inl (cy 0, 20, .inl (fun _ => 0)))]) := hD
  refine va_putF (ci := 2) (v := .ref q6) (ty := (.array .int)) (C := RX2) (T := TX2) (N := 11) hx hb hts inX2 tyX2 tyX2_ok nmX2 hown hK.1 hP hD hS 0 rfl rfl 5 (by decide) (hts _ mi_2_23) (fun _ h9 => h9) rfl hin rfl (by decide +kernel) rfl rfl (Nat.le_of_ble_eq_true rfl) dX2_init_64 (fun H locs hP hD hS => ?_)
  have hP : va_P D vwCl (((((([(a, .inr (2, [.ref (u1 0), .ref (u2 0), .ref (u3 0), .ref (u4 0), .ref (u5 0), .ref q6, .null, .null, .int 0, .int 0, .int 0]))] ++ (w_Ro cy u1 zeM)) ++ (w_Ra cy u2 (raI 12))) ++ (w_Va cy u3 zeM)) ++ (w_Of cy u4 zeM)) ++ (w_Li cy u5 zeM)) ++ [(q6, .inl (cy 0, 20, .inl (fun _ => 0)))]) H := hP
  have hD : va_D A (((((([(a, .inr (2, [.ref (u1 0), .ref (u2 0), .ref (u3 0), .ref (u4 0), .ref (u5 0), .ref q6, .null, .null, .int 0, .int 0, .int 0]))] ++ (w_Ro cy u1 zeM)) ++ (w_Ra cy u2 (raI 12))) ++ (w_Va cy u3 zeM)) ++ (w_Of cy u4 zeM)) ++ (w_Li cy u5 zeM)) ++ [(q6, .inl (cy 0, 20, .inl (fun _ => 0)))]) := hD
  refine lv_aload_n hx hb dX2_init_67 rfl (lv_at hl 0 rfl) ?_
  refine lv_bipush (v := 20) hx hb dX2_init_68 (by decide) ?_
  refine r_newI (N' := 20) hx hb (hts _ mi_1_104) hK hP hD hS hA (by decide) (by decide) (by decide) (Nat.le_of_ble_eq_true rfl) (Nat.le_of_ble_eq_true rfl) dX2_init_70 (fun q7 H hP hD hS => ?_)
  have hP : va_P D vwCl ((((((([(a, .inr (2, [.ref (u1 0), .ref (u2 0), .ref (u3 0), .ref (u4 0), .ref (u5 0), .ref q6, .null, .null, .int 0, .int 0, .int 0]))] ++ (w_Ro cy u1 zeM)) ++ (w_Ra cy u2 (raI 12))) ++ (w_Va cy u3 zeM)) ++ (w_Of cy u4 zeM)) ++ (w_Li cy u5 zeM)) ++ [(q6, .inl (cy 0, 20, .inl (fun _ => 0)))]) ++ [(q7, .inl (cy 0, 20, .inl (fun _ => 0)))]) H := hP
  have hD : va_D A ((((((([(a, .inr (2, [.ref (u1 0), .ref (u2 0), .ref (u3 0), .ref (u4 0), .ref (u5 0), .ref q6, .null, .null, .int 0, .int 0, .int 0]))] ++ (w_Ro cy u1 zeM)) ++ (w_Ra cy u2 (raI 12))) ++ (w_Va cy u3 zeM)) ++ (w_Of cy u4 zeM)) ++ (w_Li cy u5 zeM)) ++ [(q6, .inl (cy 0, 20, .inl (fun _ => 0)))]) ++ [(q7, .inl (cy 0, 20, .inl (fun _ => 0)))]) := hD
  refine va_putF (ci := 2) (v := .ref q7) (ty := (.array .int)) (C := RX2) (T := TX2) (N := 11) hx hb hts inX2 tyX2 tyX2_ok nmX2 hown hK.1 hP hD hS 0 rfl rfl 6 (by decide) (hts _ mi_2_27) (fun _ h9 => h9) rfl hin rfl (by decide +kernel) rfl rfl (Nat.le_of_ble_eq_true rfl) dX2_init_72 (fun H locs hP hD hS => ?_)
  have hP : va_P D vwCl ((((((([(a, .inr (2, [.ref (u1 0), .ref (u2 0), .ref (u3 0), .ref (u4 0), .ref (u5 0), .ref q6, .ref q7, .null, .int 0, .int 0, .int 0]))] ++ (w_Ro cy u1 zeM)) ++ (w_Ra cy u2 (raI 12))) ++ (w_Va cy u3 zeM)) ++ (w_Of cy u4 zeM)) ++ (w_Li cy u5 zeM)) ++ [(q6, .inl (cy 0, 20, .inl (fun _ => 0)))]) ++ [(q7, .inl (cy 0, 20, .inl (fun _ => 0)))]) H := hP
  have hD : va_D A ((((((([(a, .inr (2, [.ref (u1 0), .ref (u2 0), .ref (u3 0), .ref (u4 0), .ref (u5 0), .ref q6, .ref q7, .null, .int 0, .int 0, .int 0]))] ++ (w_Ro cy u1 zeM)) ++ (w_Ra cy u2 (raI 12))) ++ (w_Va cy u3 zeM)) ++ (w_Of cy u4 zeM)) ++ (w_Li cy u5 zeM)) ++ [(q6, .inl (cy 0, 20, .inl (fun _ => 0)))]) ++ [(q7, .inl (cy 0, 20, .inl (fun _ => 0)))]) := hD
  refine lv_aload_n hx hb dX2_init_75 rfl (lv_at hl 0 rfl) ?_
  refine lv_bipush (v := 20) hx hb dX2_init_76 (by decide) ?_
  refine r_newI (N' := 20) hx hb (hts _ mi_1_104) hK hP hD hS hA (by decide) (by decide) (by decide) (Nat.le_of_ble_eq_true rfl) (Nat.le_of_ble_eq_true rfl) dX2_init_78 (fun q8 H hP hD hS => ?_)
  have hP : va_P D vwCl (((((((([(a, .inr (2, [.ref (u1 0), .ref (u2 0), .ref (u3 0), .ref (u4 0), .ref (u5 0), .ref q6, .ref q7, .null, .int 0, .int 0, .int 0]))] ++ (w_Ro cy u1 zeM)) ++ (w_Ra cy u2 (raI 12))) ++ (w_Va cy u3 zeM)) ++ (w_Of cy u4 zeM)) ++ (w_Li cy u5 zeM)) ++ [(q6, .inl (cy 0, 20, .inl (fun _ => 0)))]) ++ [(q7, .inl (cy 0, 20, .inl (fun _ => 0)))]) ++ [(q8, .inl (cy 0, 20, .inl (fun _ => 0)))]) H := hP
  have hD : va_D A (((((((([(a, .inr (2, [.ref (u1 0), .ref (u2 0), .ref (u3 0), .ref (u4 0), .ref (u5 0), .ref q6, .ref q7, .null, .int 0, .int 0, .int 0]))] ++ (w_Ro cy u1 zeM)) ++ (w_Ra cy u2 (raI 12))) ++ (w_Va cy u3 zeM)) ++ (w_Of cy u4 zeM)) ++ (w_Li cy u5 zeM)) ++ [(q6, .inl (cy 0, 20, .inl (fun _ => 0)))]) ++ [(q7, .inl (cy 0, 20, .inl (fun _ => 0)))]) ++ [(q8, .inl (cy 0, 20, .inl (fun _ => 0)))]) := hD
  refine va_putF (ci := 2) (v := .ref q8) (ty := (.array .int)) (C := RX2) (T := TX2) (N := 11) hx hb hts inX2 tyX2 tyX2_ok nmX2 hown hK.1 hP hD hS 0 rfl rfl 7 (by decide) (hts _ mi_2_30) (fun _ h9 => h9) rfl hin rfl (by decide +kernel) rfl rfl (Nat.le_of_ble_eq_true rfl) dX2_init_80 (fun H locs hP hD hS => ?_)
  have hP : va_P D vwCl (((((((([(a, .inr (2, [.ref (u1 0), .ref (u2 0), .ref (u3 0), .ref (u4 0), .ref (u5 0), .ref q6, .ref q7, .ref q8, .int 0, .int 0, .int 0]))] ++ (w_Ro cy u1 zeM)) ++ (w_Ra cy u2 (raI 12))) ++ (w_Va cy u3 zeM)) ++ (w_Of cy u4 zeM)) ++ (w_Li cy u5 zeM)) ++ [(q6, .inl (cy 0, 20, .inl (fun _ => 0)))]) ++ [(q7, .inl (cy 0, 20, .inl (fun _ => 0)))]) ++ [(q8, .inl (cy 0, 20, .inl (fun _ => 0)))]) H := hP
  have hD : va_D A (((((((([(a, .inr (2, [.ref (u1 0), .ref (u2 0), .ref (u3 0), .ref (u4 0), .ref (u5 0), .ref q6, .ref q7, .ref q8, .int 0, .int 0, .int 0]))] ++ (w_Ro cy u1 zeM)) ++ (w_Ra cy u2 (raI 12))) ++ (w_Va cy u3 zeM)) ++ (w_Of cy u4 zeM)) ++ (w_Li cy u5 zeM)) ++ [(q6, .inl (cy 0, 20, .inl (fun _ => 0)))]) ++ [(q7, .inl (cy 0, 20, .inl (fun _ => 0)))]) ++ [(q8, .inl (cy 0, 20, .inl (fun _ => 0)))]) := hD
  obtain ⟨u, hu⟩ : ∃ u : Nat → Nat, u = (fun z => if z < 20 then (match z with | 0 => a | 6 => q6 | 7 => q7 | 8 => q8 | _ => 0) else if z < 40 then u1 (z - 20) else if z < 60 then u2 (z - 40) else if z < 80 then u3 (z - 60) else if z < 100 then u4 (z - 80) else u5 (z - 100)) := ⟨_, rfl⟩
  have e0 : (w_FiU cy u (foI 0) zeM (raI 12) zeM zeM zeM) = w_FiU cy u zeM zeM (raI 12) zeM zeM zeM := by
    have e1 : foI 0 = zeM := funext (fun k => funext (fun j => if_neg (by omega)))
    rw [e1]
  have hP0 : va_P D vwCl (w_FiU cy u (foI 0) zeM (raI 12) zeM zeM zeM) H := by rw [e0]; exact hP.sub (ws' := w_FiU cy u zeM zeM (raI 12) zeM zeM zeM) [0, 20, 21, 22, 1, 2, 3, 4, 5, 6, 7, 8, 9, 10, 11, 12, 13, 14, 15, 16, 17, 18, 19] (by subst hu; rfl)
  have hD0 : va_D A (w_FiU cy u (foI 0) zeM (raI 12) zeM zeM zeM) := by rw [e0]; exact hD.sub (ws' := w_FiU cy u zeM zeM (raI 12) zeM zeM zeM) [0, 20, 21, 22, 1, 2, 3, 4, 5, 6, 7, 8, 9, 10, 11, 12, 13, 14, 15, 16, 17, 18, 19] (by decide) (by subst hu; rfl)
  have ha : a = u 0 := by subst hu; rfl
  clear hu e0
  subst ha
  refine lv_iconst (v := 0) hx hb dX2_init_83 (by decide) ?_
  refine lv_istore_n (lv' := [(1, .int 0), (0, .ref (u 0))]) hx hb dX2_init_84 rfl hl (by decide) rfl (fun ls hl => ?_)
  have loop : ∀ (r i : Nat) (H : Heap) (locs : List Loc) (ls : Array Slot), i + r = 20 → lv_has ls 2 [(1, .int (nI i)), (0, .ref (u 0))] → va_P D vwCl (w_FiU cy u (foI i) zeM (raI 12) zeM zeM zeM) H → va_D A (w_FiU cy u (foI i) zeM (raI 12) zeM zeM zeM) → va_S A s.heap H locs → W p l e (rmN 2 22 278) s m #[.ref (u 0)] below meth c H locs 22 278 (qRN D below #[.ref (u 0)] s 22 278 A (u 0) (fun u => w_FiU cy u (foI 20) zeM (raI 12) zeM zeM zeM)) (F0 m 85 ls []) := by
    intro r
    induction r with
    | zero =>
      intro i H locs ls hi hl hP hD hS
      refine lv_iload_n hx hb dX2_init_85 rfl (lv_at hl 0 rfl) ?_
      refine lv_bipush (v := 20) hx hb dX2_init_86 (by decide) ?_
      refine lv_icmp_ge (tgt := 104) hx hb dX2_init_88 (by decide) (fun c1 => ?_) (fun c1 => ?_)
      · have e : i = 20 := by omega
        subst e
        exact e_RN (wf := fun u => w_FiU cy u (foI 20) zeM (raI 12) zeM zeM zeM) u hx hb hr hk rfl hP hD hS ⟨Nat.le_refl _, Nat.le_refl _⟩ dX2_init_104
      · exact absurd (show (20 : Int32) ≤ nI i from nI_le (a := 20) (by omega) (by omega)) c1
    | succ r ih =>
      intro i H locs ls hi hl hP hD hS
      refine lv_iload_n hx hb dX2_init_85 rfl (lv_at hl 0 rfl) ?_
      refine lv_bipush (v := 20) hx hb dX2_init_86 (by decide) ?_
      refine lv_icmp_ge (tgt := 104) hx hb dX2_init_88 (by decide) (fun c1 => ?_) (fun c1 => ?_)
      · exact absurd c1 (show ¬ (20 : Int32) ≤ nI i from nI_ge (b := 20) (by omega) (by omega))
      · refine lv_aload_n hx hb dX2_init_91 rfl (lv_at hl 1 rfl) ?_
        refine gf_X2_46 hx hb hts hown hK hP 0 rfl rfl dX2_init_92 ?_
        refine lv_iload_n hx hb dX2_init_95 rfl (lv_at hl 0 rfl) ?_
        refine lv_iconst (v := -1) hx hb dX2_init_96 (by decide) ?_
        refine r_ist hx hb hK hP hD hS (wn := (w_FiU cy u (foI (i + 1)) zeM (raI 12) zeM zeM zeM)) 1 rfl (vin (by omega) (by omega)) (by rw [nI_clamp (by omega), foI_u i]; rfl) dX2_init_97 (fun H locs hP hD hS => ?_)
        refine lv_iinc (v := nI (i + 1)) (lv' := [(1, .int (nI (i + 1))), (0, .ref (u 0))]) hx hb dX2_init_98 hl (k := 0) rfl (nI_1 i) (by decide) rfl (fun ls hl => ?_)
        refine lv_goto (tgt := 85) hx hb dX2_init_101 (by decide) ?_
        exact ih (i + 1) H locs ls (by omega) hl hP hD hS
  exact loop 20 0 H locs ls (by omega) hl hP0 hD0 hS
