/-! constructors with loops; those that make others -/
def raI (i : Nat) : Mem := fun _ j => if j < i then 12 else 0
def foI (i : Nat) : Mem := fun k j => if k = 5 ∧ j < i then -1 else 0
def moI (i : Nat) : Mem := fun k j => if k = 0 ∧ 160 ≤ j ∧ j < 160 + i then 12 else 0
theorem raI_u (i : Nat) : upd (raI i 0) i 12 = raI (i + 1) 0 := funext (fun j => by
  by_cases e : j = i
  · subst e; rw [pk_us]; exact (if_pos (by omega)).symm
  · rw [pk_un e]
    show (if j < i then (12 : Int32) else 0) = if j < i + 1 then 12 else 0
    by_cases q : j < i
    · rw [if_pos q, if_pos (by omega)]
    · rw [if_neg q, if_neg (by omega)])
theorem foI_u (i : Nat) : upd (foI i 5) i (-1) = foI (i + 1) 5 := funext (fun j => by
  by_cases e : j = i
  · subst e; rw [pk_us]; exact (if_pos ⟨rfl, by omega⟩).symm
  · rw [pk_un e]
    show (if (5 : Nat) = 5 ∧ j < i then (-1 : Int32) else 0) = if (5 : Nat) = 5 ∧ j < i + 1 then -1 else 0
    by_cases q : j < i
    · rw [if_pos ⟨rfl, q⟩, if_pos ⟨rfl, by omega⟩]
    · rw [if_neg (by omega), if_neg (by omega)])
theorem moI_u (i : Nat) : upd (moI i 0) (160 + i) 12 = moI (i + 1) 0 := funext (fun j => by
  by_cases e : j = 160 + i
  · subst e; rw [pk_us]; exact (if_pos ⟨rfl, by omega, by omega⟩).symm
  · rw [pk_un e]
    show (if (0 : Nat) = 0 ∧ 160 ≤ j ∧ j < 160 + i then (12 : Int32) else 0) = if (0 : Nat) = 0 ∧ 160 ≤ j ∧ j < 160 + (i + 1) then 12 else 0
    by_cases q : 160 ≤ j ∧ j < 160 + i
    · rw [if_pos ⟨rfl, q⟩, if_pos ⟨rfl, by omega, by omega⟩]
    · rw [if_neg (by omega), if_neg (by omega)])
theorem foI_0 : foI 0 5 = fun _ => 0 := funext (fun j => if_neg (by omega))
theorem raI_0 : raI 0 0 = fun _ => 0 := funext (fun j => if_neg (by omega))
theorem moI_0 : moI 0 0 = fun _ => 0 := funext (fun j => if_neg (by omega))
theorem vin {i n : Nat} (h : i < n) (hn : n < 2 ^ 31) : vp_in (nI i) n := fun z => by
  rcases z with z | z
  · exact nI_pos (by omega) z
  · rw [nI_clamp (by omega)] at z; omega
theorem mi_1_171 : Cond.methodLink RX7 3 objectInit ∈ tb := tb_in (in_1 (List.mem_of_getElem? (i := 171) rfl)) rfl
theorem mi_1_172 : Cond.fieldLink RX7 9 "StormSlots$Rates" "rate" "[I" ∈ tb := tb_in (in_1 (List.mem_of_getElem? (i := 172) rfl)) rfl
set_option maxRecDepth 100000 in
theorem n_X7 (l : Launch) (D : va_G) (cy : Nat → ClassId) : RN l yX7_init cX7_init 2 1 1 12 D cy 7 [.null] (fun u => w_Ra cy u (raI 12)) := by
  refine RN_of RX7 rfl (by decide) rfl (by decide) ?_
  intro p e s m below meth c a A hin C0 hK hN hP hD hS hA ls hl
  obtain ⟨hx, hb, hr, hml, hown, hts, hk⟩ := id C0
  refine lv_aload_n hx hb dX7_init_0 rfl (lv_at hl 0 rfl) ?_
  refine W.objInit hx hb hown (hts _ mi_1_171) (hts _ mi_1_23) (hts _ mi_1_24) rfl (by rw [hml]; exact hl.1) rfl dX7_init_1 (Nat.le_of_ble_eq_true rfl) (Nat.le_of_ble_eq_true rfl) ?_
  refine W.eq (g2 := F0 m 4 ls []) rfl ?_
  refine lv_aload_n hx hb dX7_init_4 rfl (lv_at hl 0 rfl) ?_
  refine lv_bipush (v := 12) hx hb dX7_init_5 (by decide) ?_
  refine r_newI (N' := 12) hx hb (hts _ mi_1_104) hK hP hD hS hA (by decide) (by decide) (by decide) (Nat.le_of_ble_eq_true rfl) (Nat.le_of_ble_eq_true rfl) dX7_init_7 (fun q1 H hP hD hS => ?_)
  have hP : va_P D vwCl [(a, .inr (7, [.null])), (q1, .inl (cy 0, 12, .inl (fun _ => 0)))] H := hP
  have hD : va_D A [(a, .inr (7, [.null])), (q1, .inl (cy 0, 12, .inl (fun _ => 0)))] := hD
  refine va_putF (ci := 7) (v := .ref q1) (ty := (.array .int)) (C := RX7) (T := TX7) (N := 1) hx hb hts inX7 tyX7 tyX7_ok nmX7 hown hK.1 hP hD hS 0 rfl rfl 0 (by decide) (hts _ mi_1_172) (fun _ h9 => h9) rfl hin rfl (by decide +kernel) rfl rfl (Nat.le_of_ble_eq_true rfl) dX7_init_9 (fun H locs hP hD hS => ?_)
  have hP : va_P D vwCl [(a, .inr (7, [.ref q1])), (q1, .inl (cy 0, 12, .inl (fun _ => 0)))] H := hP
  have hD : va_D A [(a, .inr (7, [.ref q1])), (q1, .inl (cy 0, 12, .inl (fun _ => 0)))] := hD
  obtain ⟨u, hu⟩ : ∃ u : Nat → Nat, u = (fun z => match z with | 0 => a | 1 => q1 | _ => 0) := ⟨_, rfl⟩
  have hP0 : va_P D vwCl (w_Ra cy u (raI 0)) H := by
    have h := hP.sub (ws' := w_Ra cy u zeM) [0, 1] (by subst hu; rfl)
    have e : w_Ra cy u (raI 0) = w_Ra cy u zeM := by
      show [_, (u 1, (.inl (cy 0, 12, .inl (raI 0 0)) : va_E))] = _
      rw [raI_0]; rfl
    rw [e]; exact h
  have hD0 : va_D A (w_Ra cy u (raI 0)) := by
    have h := hD.sub (ws' := w_Ra cy u zeM) [0, 1] (by decide) (by subst hu; rfl)
    have e : w_Ra cy u (raI 0) = w_Ra cy u zeM := by
      show [_, (u 1, (.inl (cy 0, 12, .inl (raI 0 0)) : va_E))] = _
      rw [raI_0]; rfl
    rw [e]; exact h
  have ha : a = u 0 := by subst hu; rfl
  clear hu
  subst ha
  refine lv_iconst (v := 0) hx hb dX7_init_12 (by decide) ?_
  refine lv_istore_n (lv' := [(1, .int 0), (0, .ref (u 0))]) hx hb dX7_init_13 rfl hl (by decide) rfl (fun ls hl => ?_)
  have loop : ∀ (r i : Nat) (H : Heap) (locs : List Loc) (ls : Array Slot), i + r = 12 → lv_has ls 2 [(1, .int (nI i)), (0, .ref (u 0))] → va_P D vwCl (w_Ra cy u (raI i)) H → va_D A (w_Ra cy u (raI i)) → va_S A s.heap H locs → W p l e (rmN 1 1 12) s m #[.ref (u 0)] below meth c H locs 1 12 (qRN D below #[.ref (u 0)] s 1 12 A (u 0) (fun u => w_Ra cy u (raI 12))) (F0 m 14 ls []) := by
    intro r
    induction r with
    | zero =>
      intro i H locs ls hi hl hP hD hS
      refine lv_iload_n hx hb dX7_init_14 rfl (lv_at hl 0 rfl) ?_
      refine lv_bipush (v := 12) hx hb dX7_init_15 (by decide) ?_
      refine lv_icmp_ge (tgt := 34) hx hb dX7_init_17 (by decide) (fun c1 => ?_) (fun c1 => ?_)
      · have e : i = 12 := by omega
        subst e
        exact e_RN (wf := fun u => w_Ra cy u (raI 12)) u hx hb hr hk rfl hP hD hS ⟨Nat.le_refl _, Nat.le_refl _⟩ dX7_init_34
      · exact absurd (show (12 : Int32) ≤ nI i from nI_le (a := 12) (by omega) (by omega)) c1
    | succ r ih =>
      intro i H locs ls hi hl hP hD hS
      refine lv_iload_n hx hb dX7_init_14 rfl (lv_at hl 0 rfl) ?_
      refine lv_bipush (v := 12) hx hb dX7_init_15 (by decide) ?_
      refine lv_icmp_ge (tgt := 34) hx hb dX7_init_17 (by decide) (fun c1 => ?_) (fun c1 => ?_)
      · exact absurd c1 (show ¬ (12 : Int32) ≤ nI i from nI_ge (b := 12) (by omega) (by omega))
      · refine lv_aload_n hx hb dX7_init_20 rfl (lv_at hl 1 rfl) ?_
        refine gf_X7_9 hx hb hts hown hK hP 0 rfl rfl dX7_init_21 ?_
        refine lv_iload_n hx hb dX7_init_24 rfl (lv_at hl 0 rfl) ?_
        refine lv_bipush (v := 12) hx hb dX7_init_25 (by decide) ?_
        refine r_ist hx hb hK hP hD hS (wn := (w_Ra cy u (raI (i + 1)))) 1 rfl (vin (by omega) (by omega)) (by rw [nI_clamp (by omega), raI_u i]; rfl) dX7_init_27 (fun H locs hP hD hS => ?_)
        refine lv_iinc (v := nI (i + 1)) (lv' := [(1, .int (nI (i + 1))), (0, .ref (u 0))]) hx hb dX7_init_28 hl (k := 0) rfl (nI_1 i) (by decide) rfl (fun ls hl => ?_)
        refine lv_goto (tgt := 14) hx hb dX7_init_31 (by decide) ?_
        exact ih (i + 1) H locs ls (by omega) hl hP hD hS
  exact loop 12 0 H locs ls (by omega) hl hP0 hD0 hS
theorem mi_5_144 : Cond.methodLink RX12 1 objectInit ∈ tb := tb_in (in_5 (List.mem_of_getElem? (i := 144) rfl)) rfl
theorem mi_5_145 : Cond.fieldLink RX12 7 "StormSlotsModel" "s" "[I" ∈ tb := tb_in (in_5 (List.mem_of_getElem? (i := 145) rfl)) rfl
theorem mi_5_146 : Cond.fieldLink RX12 13 "StormSlotsModel" "rows" "[I" ∈ tb := tb_in (in_5 (List.mem_of_getElem? (i := 146) rfl)) rfl
theorem mi_5_147 : Cond.fieldLink RX12 16 "StormSlotsModel" "tape" "[B" ∈ tb := tb_in (in_5 (List.mem_of_getElem? (i := 147) rfl)) rfl
theorem mi_5_153 : Cond.fieldLink RX12 20 "StormSlotsModel" "read" "[I" ∈ tb := tb_in (in_5 (List.mem_of_getElem? (i := 153) rfl)) rfl
theorem mi_5_158 : Cond.fieldLink RX12 23 "StormSlotsModel" "isUsed" "[Z" ∈ tb := tb_in (in_5 (List.mem_of_getElem? (i := 158) rfl)) rfl
theorem mi_5_159 : Cond.fieldLink RX12 27 "StormSlotsModel" "isDone" "[Z" ∈ tb := tb_in (in_5 (List.mem_of_getElem? (i := 159) rfl)) rfl
theorem mi_5_160 : Cond.fieldLink RX12 30 "StormSlotsModel" "was" "[I" ∈ tb := tb_in (in_5 (List.mem_of_getElem? (i := 160) rfl)) rfl
theorem mi_5_161 : Cond.fieldLink RX12 33 "StormSlotsModel" "trader" "[I" ∈ tb := tb_in (in_5 (List.mem_of_getElem? (i := 161) rfl)) rfl
theorem mi_5_162 : Cond.fieldLink RX12 36 "StormSlotsModel" "minutes" "[I" ∈ tb := tb_in (in_5 (List.mem_of_getElem? (i := 162) rfl)) rfl
theorem mi_5_163 : Cond.fieldLink RX12 39 "StormSlotsModel" "has" "[I" ∈ tb := tb_in (in_5 (List.mem_of_getElem? (i := 163) rfl)) rfl
theorem mi_5_164 : Cond.fieldLink RX12 42 "StormSlotsModel" "bestRow" "[I" ∈ tb := tb_in (in_5 (List.mem_of_getElem? (i := 164) rfl)) rfl
set_option maxRecDepth 100000 in
theorem n_X12 (l : Launch) (D : va_G) (cy : Nat → ClassId) : RN l yX12_init cX12_init 2 1 11 16184 D cy 12 [.null, .null, .null, .int 0, .int 0, .int 0, .int 0, .int 0, .null, .int 0, .int 0, .int 0, .int 0, .null, .null, .null, .null, .null, .null, .null, .int 0, .int 0] (fun u => w_Mo cy u (moI 12)) := by
  refine RN_of RX12 rfl (by decide) rfl (by decide) ?_
  intro p e s m below meth c a A hin C0 hK hN hP hD hS hA ls hl
  obtain ⟨hx, hb, hr, hml, hown, hts, hk⟩ := id C0
  refine lv_aload_n hx hb dX12_init_0 rfl (lv_at hl 0 rfl) ?_
  refine W.objInit hx hb hown (hts _ mi_5_144) (hts _ mi_1_23) (hts _ mi_1_24) rfl (by rw [hml]; exact hl.1) rfl dX12_init_1 (Nat.le_of_ble_eq_true rfl) (Nat.le_of_ble_eq_true rfl) ?_
  refine W.eq (g2 := F0 m 4 ls []) rfl ?_
  refine lv_aload_n hx hb dX12_init_4 rfl (lv_at hl 0 rfl) ?_
  refine lv_sipush (v := 1452) hx hb dX12_init_5 (by decide) ?_
  refine r_newI (N' := 1452) hx hb (hts _ mi_1_104) hK hP hD hS hA (by decide) (by decide) (by decide) (Nat.le_of_ble_eq_true rfl) (Nat.le_of_ble_eq_true rfl) dX12_init_8 (fun q1 H hP hD hS => ?_)
  have hP : va_P D vwCl [(a, .inr (12, [.null, .null, .null, .int 0, .int 0, .int 0, .int 0, .int 0, .null, .int 0, .int 0, .int 0, .int 0, .null, .null, .null, .null, .null, .null, .null, .int 0, .int 0])), (q1, .inl (cy 0, 1452, .inl (fun _ => 0)))] H := hP
  have hD : va_D A [(a, .inr (12, [.null, .null, .null, .int 0, .int 0, .int 0, .int 0, .int 0, .null, .int 0, .int 0, .int 0, .int 0, .null, .null, .null, .null, .null, .null, .null, .int 0, .int 0])), (q1, .inl (cy 0, 1452, .inl (fun _ => 0)))] := hD
  refine va_putF (ci := 12) (v := .ref q1) (ty := (.array .int)) (C := RX12) (T := TX12) (N := 22) hx hb hts inX12 tyX12 tyX12_ok nmX12 hown hK.1 hP hD hS 0 rfl rfl 0 (by decide) (hts _ mi_5_145) (fun _ h9 => h9) rfl hin rfl (by decide +kernel) rfl rfl (Nat.le_of_ble_eq_true rfl) dX12_init_10 (fun H locs hP hD hS => ?_)
  have hP : va_P D vwCl [(a, .inr (12, [.ref q1, .null, .null, .int 0, .int 0, .int 0, .int 0, .int 0, .null, .int 0, .int 0, .int 0, .int 0, .null, .null, .null, .null, .null, .null, .null, .int 0, .int 0])), (q1, .inl (cy 0, 1452, .inl (fun _ => 0)))] H := hP
  have hD : va_D A [(a, .inr (12, [.ref q1, .null, .null, .int 0, .int 0, .int 0, .int 0, .int 0, .null, .int 0, .int 0, .int 0, .int 0, .null, .null, .null, .null, .null, .null, .null, .int 0, .int 0])), (q1, .inl (cy 0, 1452, .inl (fun _ => 0)))] := hD
  refine lv_aload_n hx hb dX12_init_13 rfl (lv_at hl 0 rfl) ?_
  refine lv_sipush (v := 13068) hx hb dX12_init_14 (by decide) ?_
  refine r_newI (N' := 13068) hx hb (hts _ mi_1_104) hK hP hD hS hA (by decide) (by decide) (by decide) (Nat.le_of_ble_eq_true rfl) (Nat.le_of_ble_eq_true rfl) dX12_init_17 (fun q2 H hP hD hS => ?_)
  have hP : va_P D vwCl [(a, .inr (12, [.ref q1, .null, .null, .int 0, .int 0, .int 0, .int 0, .int 0, .null, .int 0, .int 0, .int 0, .int 0, .null, .null, .null, .null, .null, .null, .null, .int 0, .int 0])), (q1, .inl (cy 0, 1452, .inl (fun _ => 0))), (q2, .inl (cy 0, 13068, .inl (fun _ => 0)))] H := hP
  have hD : va_D A [(a, .inr (12, [.ref q1, .null, .null, .int 0, .int 0, .int 0, .int 0, .int 0, .null, .int 0, .int 0, .int 0, .int 0, .null, .null, .null, .null, .null, .null, .null, .int 0, .int 0])), (q1, .inl (cy 0, 1452, .inl (fun _ => 0))), (q2, .inl (cy 0, 13068, .inl (fun _ => 0)))] := hD
  refine va_putF (ci := 12) (v := .ref q2) (ty := (.array .int)) (C := RX12) (T := TX12) (N := 22) hx hb hts inX12 tyX12 tyX12_ok nmX12 hown hK.1 hP hD hS 0 rfl rfl 1 (by decide) (hts _ mi_5_146) (fun _ h9 => h9) rfl hin rfl (by decide +kernel) rfl rfl (Nat.le_of_ble_eq_true rfl) dX12_init_19 (fun H locs hP hD hS => ?_)
  have hP : va_P D vwCl [(a, .inr (12, [.ref q1, .ref q2, .null, .int 0, .int 0, .int 0, .int 0, .int 0, .null, .int 0, .int 0, .int 0, .int 0, .null, .null, .null, .null, .null, .null, .null, .int 0, .int 0])), (q1, .inl (cy 0, 1452, .inl (fun _ => 0))), (q2, .inl (cy 0, 13068, .inl (fun _ => 0)))] H := hP
  have hD : va_D A [(a, .inr (12, [.ref q1, .ref q2, .null, .int 0, .int 0, .int 0, .int 0, .int 0, .null, .int 0, .int 0, .int 0, .int 0, .null, .null, .null, .null, .null, .null, .null, .int 0, .int 0])), (q1, .inl (cy 0, 1452, .inl (fun _ => 0))), (q2, .inl (cy 0, 13068, .inl (fun _ => 0)))] := hD
  refine lv_aload_n hx hb dX12_init_22 rfl (lv_at hl 0 rfl) ?_
  refine lv_sipush (v := 320) hx hb dX12_init_23 (by decide) ?_
  refine r_newB (N' := 320) hx hb (hts _ mi_1_40) hK hP hD hS hA (by decide) (by decide) (by decide) (Nat.le_of_ble_eq_true rfl) (Nat.le_of_ble_eq_true rfl) dX12_init_26 (fun q3 H hP hD hS => ?_)
  have hP : va_P D vwCl [(a, .inr (12, [.ref q1, .ref q2, .null, .int 0, .int 0, .int 0, .int 0, .int 0, .null, .int 0, .int 0, .int 0, .int 0, .null, .null, .null, .null, .null, .null, .null, .int 0, .int 0])), (q1, .inl (cy 0, 1452, .inl (fun _ => 0))), (q2, .inl (cy 0, 13068, .inl (fun _ => 0))), (q3, .inl (cy 1, 320, .inl (fun _ => 0)))] H := hP
  have hD : va_D A [(a, .inr (12, [.ref q1, .ref q2, .null, .int 0, .int 0, .int 0, .int 0, .int 0, .null, .int 0, .int 0, .int 0, .int 0, .null, .null, .null, .null, .null, .null, .null, .int 0, .int 0])), (q1, .inl (cy 0, 1452, .inl (fun _ => 0))), (q2, .inl (cy 0, 13068, .inl (fun _ => 0))), (q3, .inl (cy 1, 320, .inl (fun _ => 0)))] := hD
  refine va_putF (ci := 12) (v := .ref q3) (ty := (.array .byte)) (C := RX12) (T := TX12) (N := 22) hx hb hts inX12 tyX12 tyX12_ok nmX12 hown hK.1 hP hD hS 0 rfl rfl 2 (by decide) (hts _ mi_5_147) (fun _ h9 => h9) rfl hin rfl (by decide +kernel) rfl rfl (Nat.le_of_ble_eq_true rfl) dX12_init_28 (fun H locs hP hD hS => ?_)
  have hP : va_P D vwCl [(a, .inr (12, [.ref q1, .ref q2, .ref q3, .int 0, .int 0, .int 0, .int 0, .int 0, .null, .int 0, .int 0, .int 0, .int 0, .null, .null, .null, .null, .null, .null, .null, .int 0, .int 0])), (q1, .inl (cy 0, 1452, .inl (fun _ => 0))), (q2, .inl (cy 0, 13068, .inl (fun _ => 0))), (q3, .inl (cy 1, 320, .inl (fun _ => 0)))] H := hP
  have hD : va_D A [(a, .inr (12, [.ref q1, .ref q2, .ref q3, .int 0, .int 0, .int 0, .int 0, .int 0, .null, .int 0, .int 0, .int 0, .int 0, .null, .null, .null, .null, .null, .null, .null, .int 0, .int 0])), (q1, .inl (cy 0, 1452, .inl (fun _ => 0))), (q2, .inl (cy 0, 13068, .inl (fun _ => 0))), (q3, .inl (cy 1, 320, .inl (fun _ => 0)))] := hD
  refine lv_aload_n hx hb dX12_init_31 rfl (lv_at hl 0 rfl) ?_
  refine lv_bipush (v := 80) hx hb dX12_init_32 (by decide) ?_
  refine r_newI (N' := 80) hx hb (hts _ mi_1_104) hK hP hD hS hA (by decide) (by decide) (by decide) (Nat.le_of_ble_eq_true rfl) (Nat.le_of_ble_eq_true rfl) dX12_init_34 (fun q9 H hP hD hS => ?_)
  have hP : va_P D vwCl [(a, .inr (12, [.ref q1, .ref q2, .ref q3, .int 0, .int 0, .int 0, .int 0, .int 0, .null, .int 0, .int 0, .int 0, .int 0, .null, .null, .null, .null, .null, .null, .null, .int 0, .int 0])), (q1, .inl (cy 0, 1452, .inl (fun _ => 0))), (q2, .inl (cy 0, 13068, .inl (fun _ => 0))), (q3, .inl (cy 1, 320, .inl (fun _ => 0))), (q9, .inl (cy 0, 80, .inl (fun _ => 0)))] H := hP
  have hD : va_D A [(a, .inr (12, [.ref q1, .ref q2, .ref q3, .int 0, .int 0, .int 0, .int 0, .int 0, .null, .int 0, .int 0, .int 0, .int 0, .null, .null, .null, .null, .null, .null, .null, .int 0, .int 0])), (q1, .inl (cy 0, 1452, .inl (fun _ => 0))), (q2, .inl (cy 0, 13068, .inl (fun _ => 0))), (q3, .inl (cy 1, 320, .inl (fun _ => 0))), (q9, .inl (cy 0, 80, .inl (fun _ => 0)))] := hD
  refine va_putF (ci := 12) (v := .ref q9) (ty := (.array .int)) (C := RX12) (T := TX12) (N := 22) hx hb hts inX12 tyX12 tyX12_ok nmX12 hown hK.1 hP hD hS 0 rfl rfl 8 (by decide) (hts _ mi_5_153) (fun _ h9 => h9) rfl hin rfl (by decide +kernel) rfl rfl (Nat.le_of_ble_eq_true rfl) dX12_init_36 (fun H locs hP hD hS => ?_)
  have hP : va_P D vwCl [(a, .inr (12, [.ref q1, .ref q2, .ref q3, .int 0, .int 0, .int 0, .int 0, .int 0, .ref q9, .int 0, .int 0, .int 0, .int 0, .null, .null, .null, .null, .null, .null, .null, .int 0, .int 0])), (q1, .inl (cy 0, 1452, .inl (fun _ => 0))), (q2, .inl (cy 0, 13068, .inl (fun _ => 0))), (q3, .inl (cy 1, 320, .inl (fun _ => 0))), (q9, .inl (cy 0, 80, .inl (fun _ => 0)))] H := hP
  have hD : va_D A [(a, .inr (12, [.ref q1, .ref q2, .ref q3, .int 0, .int 0, .int 0, .int 0, .int 0, .ref q9, .int 0, .int 0, .int 0, .int 0, .null, .null, .null, .null, .null, .null, .null, .int 0, .int 0])), (q1, .inl (cy 0, 1452, .inl (fun _ => 0))), (q2, .inl (cy 0, 13068, .inl (fun _ => 0))), (q3, .inl (cy 1, 320, .inl (fun _ => 0))), (q9, .inl (cy 0, 80, .inl (fun _ => 0)))] := hD
  refine lv_aload_n hx hb dX12_init_39 rfl (lv_at hl 0 rfl) ?_
  refine lv_sipush (v := 1200) hx hb dX12_init_40 (by decide) ?_
  refine r_newZ (N' := 1200) hx hb (hts _ mi_5_212) hK hP hD hS hA (by decide) (by decide) (by decide) (Nat.le_of_ble_eq_true rfl) (Nat.le_of_ble_eq_true rfl) dX12_init_43 (fun q14 H hP hD hS => ?_)
  have hP : va_P D vwCl [(a, .inr (12, [.ref q1, .ref q2, .ref q3, .int 0, .int 0, .int 0, .int 0, .int 0, .ref q9, .int 0, .int 0, .int 0, .int 0, .null, .null, .null, .null, .null, .null, .null, .int 0, .int 0])), (q1, .inl (cy 0, 1452, .inl (fun _ => 0))), (q2, .inl (cy 0, 13068, .inl (fun _ => 0))), (q3, .inl (cy 1, 320, .inl (fun _ => 0))), (q9, .inl (cy 0, 80, .inl (fun _ => 0))), (q14, .inl (cy 2, 1200, .inl (fun _ => 0)))] H := hP
  have hD : va_D A [(a, .inr (12, [.ref q1, .ref q2, .ref q3, .int 0, .int 0, .int 0, .int 0, .int 0, .ref q9, .int 0, .int 0, .int 0, .int 0, .null, .null, .null, .null, .null, .null, .null, .int 0, .int 0])), (q1, .inl (cy 0, 1452, .inl (fun _ => 0))), (q2, .inl (cy 0, 13068, .inl (fun _ => 0))), (q3, .inl (cy 1, 320, .inl (fun _ => 0))), (q9, .inl (cy 0, 80, .inl (fun _ => 0))), (q14, .inl (cy 2, 1200, .inl (fun _ => 0)))] := hD
  refine va_putF (ci := 12) (v := .ref q14) (ty := (.array .boolean)) (C := RX12) (T := TX12) (N := 22) hx hb hts inX12 tyX12 tyX12_ok nmX12 hown hK.1 hP hD hS 0 rfl rfl 13 (by decide) (hts _ mi_5_158) (fun _ h9 => h9) rfl hin rfl (by decide +kernel) rfl rfl (Nat.le_of_ble_eq_true rfl) dX12_init_45 (fun H locs hP hD hS => ?_)
  have hP : va_P D vwCl [(a, .inr (12, [.ref q1, .ref q2, .ref q3, .int 0, .int 0, .int 0, .int 0, .int 0, .ref q9, .int 0, .int 0, .int 0, .int 0, .ref q14, .null, .null, .null, .null, .null, .null, .int 0, .int 0])), (q1, .inl (cy 0, 1452, .inl (fun _ => 0))), (q2, .inl (cy 0, 13068, .inl (fun _ => 0))), (q3, .inl (cy 1, 320, .inl (fun _ => 0))), (q9, .inl (cy 0, 80, .inl (fun _ => 0))), (q14, .inl (cy 2, 1200, .inl (fun _ => 0)))] H := hP
  have hD : va_D A [(a, .inr (12, [.ref q1, .ref q2, .ref q3, .int 0, .int 0, .int 0, .int 0, .int 0, .ref q9, .int 0, .int 0, .int 0, .int 0, .ref q14, .null, .null, .null, .null, .null, .null, .int 0, .int 0])), (q1, .inl (cy 0, 1452, .inl (fun _ => 0))), (q2, .inl (cy 0, 13068, .inl (fun _ => 0))), (q3, .inl (cy 1, 320, .inl (fun _ => 0))), (q9, .inl (cy 0, 80, .inl (fun _ => 0))), (q14, .inl (cy 2, 1200, .inl (fun _ => 0)))] := hD
  refine lv_aload_n hx hb dX12_init_48 rfl (lv_at hl 0 rfl) ?_
  refine lv_bipush (v := 20) hx hb dX12_init_49 (by decide) ?_
  refine r_newZ (N' := 20) hx hb (hts _ mi_5_212) hK hP hD hS hA (by decide) (by decide) (by decide) (Nat.le_of_ble_eq_true rfl) (Nat.le_of_ble_eq_true rfl) dX12_init_51 (fun q15 H hP hD hS => ?_)
  have hP : va_P D vwCl [(a, .inr (12, [.ref q1, .ref q2, .ref q3, .int 0, .int 0, .int 0, .int 0, .int 0, .ref q9, .int 0, .int 0, .int 0, .int 0, .ref q14, .null, .null, .null, .null, .null, .null, .int 0, .int 0])), (q1, .inl (cy 0, 1452, .inl (fun _ => 0))), (q2, .inl (cy 0, 13068, .inl (fun _ => 0))), (q3, .inl (cy 1, 320, .inl (fun _ => 0))), (q9, .inl (cy 0, 80, .inl (fun _ => 0))), (q14, .inl (cy 2, 1200, .inl (fun _ => 0))), (q15, .inl (cy 2, 20, .inl (fun _ => 0)))] H := hP
  have hD : va_D A [(a, .inr (12, [.ref q1, .ref q2, .ref q3, .int 0, .int 0, .int 0, .int 0, .int 0, .ref q9, .int 0, .int 0, .int 0, .int 0, .ref q14, .null, .null, .null, .null, .null, .null, .int 0, .int 0])), (q1, .inl (cy 0, 1452, .inl (fun _ => 0))), (q2, .inl (cy 0, 13068, .inl (fun _ => 0))), (q3, .inl (cy 1, 320, .inl (fun _ => 0))), (q9, .inl (cy 0, 80, .inl (fun _ => 0))), (q14, .inl (cy 2, 1200, .inl (fun _ => 0))), (q15, .inl (cy 2, 20, .inl (fun _ => 0)))] := hD
  refine va_putF (ci := 12) (v := .ref q15) (ty := (.array .boolean)) (C := RX12) (T := TX12) (N := 22) hx hb hts inX12 tyX12 tyX12_ok nmX12 hown hK.1 hP hD hS 0 rfl rfl 14 (by decide) (hts _ mi_5_159) (fun _ h9 => h9) rfl hin rfl (by decide +kernel) rfl rfl (Nat.le_of_ble_eq_true rfl) dX12_init_53 (fun H locs hP hD hS => ?_)
  have hP : va_P D vwCl [(a, .inr (12, [.ref q1, .ref q2, .ref q3, .int 0, .int 0, .int 0, .int 0, .int 0, .ref q9, .int 0, .int 0, .int 0, .int 0, .ref q14, .ref q15, .null, .null, .null, .null, .null, .int 0, .int 0])), (q1, .inl (cy 0, 1452, .inl (fun _ => 0))), (q2, .inl (cy 0, 13068, .inl (fun _ => 0))), (q3, .inl (cy 1, 320, .inl (fun _ => 0))), (q9, .inl (cy 0, 80, .inl (fun _ => 0))), (q14, .inl (cy 2, 1200, .inl (fun _ => 0))), (q15, .inl (cy 2, 20, .inl (fun _ => 0)))] H := hP
  have hD : va_D A [(a, .inr (12, [.ref q1, .ref q2, .ref q3, .int 0, .int 0, .int 0, .int 0, .int 0, .ref q9, .int 0, .int 0, .int 0, .int 0, .ref q14, .ref q15, .null, .null, .null, .null, .null, .int 0, .int 0])), (q1, .inl (cy 0, 1452, .inl (fun _ => 0))), (q2, .inl (cy 0, 13068, .inl (fun _ => 0))), (q3, .inl (cy 1, 320, .inl (fun _ => 0))), (q9, .inl (cy 0, 80, .inl (fun _ => 0))), (q14, .inl (cy 2, 1200, .inl (fun _ => 0))), (q15, .inl (cy 2, 20, .inl (fun _ => 0)))] := hD
  refine lv_aload_n hx hb dX12_init_56 rfl (lv_at hl 0 rfl) ?_
  refine lv_bipush (v := 20) hx hb dX12_init_57 (by decide) ?_
  refine r_newI (N' := 20) hx hb (hts _ mi_1_104) hK hP hD hS hA (by decide) (by decide) (by decide) (Nat.le_of_ble_eq_true rfl) (Nat.le_of_ble_eq_true rfl) dX12_init_59 (fun q16 H hP hD hS => ?_)
  have hP : va_P D vwCl [(a, .inr (12, [.ref q1, .ref q2, .ref q3, .int 0, .int 0, .int 0, .int 0, .int 0, .ref q9, .int 0, .int 0, .int 0, .int 0, .ref q14, .ref q15, .null, .null, .null, .null, .null, .int 0, .int 0])), (q1, .inl (cy 0, 1452, .inl (fun _ => 0))), (q2, .inl (cy 0, 13068, .inl (fun _ => 0))), (q3, .inl (cy 1, 320, .inl (fun _ => 0))), (q9, .inl (cy 0, 80, .inl (fun _ => 0))), (q14, .inl (cy 2, 1200, .inl (fun _ => 0))), (q15, .inl (cy 2, 20, .inl (fun _ => 0))), (q16, .inl (cy 0, 20, .inl (fun _ => 0)))] H := hP
  have hD : va_D A [(a, .inr (12, [.ref q1, .ref q2, .ref q3, .int 0, .int 0, .int 0, .int 0, .int 0, .ref q9, .int 0, .int 0, .int 0, .int 0, .ref q14, .ref q15, .null, .null, .null, .null, .null, .int 0, .int 0])), (q1, .inl (cy 0, 1452, .inl (fun _ => 0))), (q2, .inl (cy 0, 13068, .inl (fun _ => 0))), (q3, .inl (cy 1, 320, .inl (fun _ => 0))), (q9, .inl (cy 0, 80, .inl (fun _ => 0))), (q14, .inl (cy 2, 1200, .inl (fun _ => 0))), (q15, .inl (cy 2, 20, .inl (fun _ => 0))), (q16, .inl (cy 0, 20, .inl (fun _ => 0)))] := hD
  refine va_putF (ci := 12) (v := .ref q16) (ty := (.array .int)) (C := RX12) (T := TX12) (N := 22) hx hb hts inX12 tyX12 tyX12_ok nmX12 hown hK.1 hP hD hS 0 rfl rfl 15 (by decide) (hts _ mi_5_160) (fun _ h9 => h9) rfl hin rfl (by decide +kernel) rfl rfl (Nat.le_of_ble_eq_true rfl) dX12_init_61 (fun H locs hP hD hS => ?_)
  have hP : va_P D vwCl [(a, .inr (12, [.ref q1, .ref q2, .ref q3, .int 0, .int 0, .int 0, .int 0, .int 0, .ref q9, .int 0, .int 0, .int 0, .int 0, .ref q14, .ref q15, .ref q16, .null, .null, .null, .null, .int 0, .int 0])), (q1, .inl (cy 0, 1452, .inl (fun _ => 0))), (q2, .inl (cy 0, 13068, .inl (fun _ => 0))), (q3, .inl (cy 1, 320, .inl (fun _ => 0))), (q9, .inl (cy 0, 80, .inl (fun _ => 0))), (q14, .inl (cy 2, 1200, .inl (fun _ => 0))), (q15, .inl (cy 2, 20, .inl (fun _ => 0))), (q16, .inl (cy 0, 20, .inl (fun _ => 0)))] H := hP
  have hD : va_D A [(a, .inr (12, [.ref q1, .ref q2, .ref q3, .int 0, .int 0, .int 0, .int 0, .int 0, .ref q9, .int 0, .int 0, .int 0, .int 0, .ref q14, .ref q15, .ref q16, .null, .null, .null, .null, .int 0, .int 0])), (q1, .inl (cy 0, 1452, .inl (fun _ => 0))), (q2, .inl (cy 0, 13068, .inl (fun _ => 0))), (q3, .inl (cy 1, 320, .inl (fun _ => 0))), (q9, .inl (cy 0, 80, .inl (fun _ => 0))), (q14, .inl (cy 2, 1200, .inl (fun _ => 0))), (q15, .inl (cy 2, 20, .inl (fun _ => 0))), (q16, .inl (cy 0, 20, .inl (fun _ => 0)))] := hD
  refine lv_aload_n hx hb dX12_init_64 rfl (lv_at hl 0 rfl) ?_
  refine lv_bipush (v := 6) hx hb dX12_init_65 (by decide) ?_
  refine r_newI (N' := 6) hx hb (hts _ mi_1_104) hK hP hD hS hA (by decide) (by decide) (by decide) (Nat.le_of_ble_eq_true rfl) (Nat.le_of_ble_eq_true rfl) dX12_init_67 (fun q17 H hP hD hS => ?_)
  have hP : va_P D vwCl [(a, .inr (12, [.ref q1, .ref q2, .ref q3, .int 0, .int 0, .int 0, .int 0, .int 0, .ref q9, .int 0, .int 0, .int 0, .int 0, .ref q14, .ref q15, .ref q16, .null, .null, .null, .null, .int 0, .int 0])), (q1, .inl (cy 0, 1452, .inl (fun _ => 0))), (q2, .inl (cy 0, 13068, .inl (fun _ => 0))), (q3, .inl (cy 1, 320, .inl (fun _ => 0))), (q9, .inl (cy 0, 80, .inl (fun _ => 0))), (q14, .inl (cy 2, 1200, .inl (fun _ => 0))), (q15, .inl (cy 2, 20, .inl (fun _ => 0))), (q16, .inl (cy 0, 20, .inl (fun _ => 0))), (q17, .inl (cy 0, 6, .inl (fun _ => 0)))] H := hP
  have hD : va_D A [(a, .inr (12, [.ref q1, .ref q2, .ref q3, .int 0, .int 0, .int 0, .int 0, .int 0, .ref q9, .int 0, .int 0, .int 0, .int 0, .ref q14, .ref q15, .ref q16, .null, .null, .null, .null, .int 0, .int 0])), (q1, .inl (cy 0, 1452, .inl (fun _ => 0))), (q2, .inl (cy 0, 13068, .inl (fun _ => 0))), (q3, .inl (cy 1, 320, .inl (fun _ => 0))), (q9, .inl (cy 0, 80, .inl (fun _ => 0))), (q14, .inl (cy 2, 1200, .inl (fun _ => 0))), (q15, .inl (cy 2, 20, .inl (fun _ => 0))), (q16, .inl (cy 0, 20, .inl (fun _ => 0))), (q17, .inl (cy 0, 6, .inl (fun _ => 0)))] := hD
  refine va_putF (ci := 12) (v := .ref q17) (ty := (.array .int)) (C := RX12) (T := TX12) (N := 22) hx hb hts inX12 tyX12 tyX12_ok nmX12 hown hK.1 hP hD hS 0 rfl rfl 16 (by decide) (hts _ mi_5_161) (fun _ h9 => h9) rfl hin rfl (by decide +kernel) rfl rfl (Nat.le_of_ble_eq_true rfl) dX12_init_69 (fun H locs hP hD hS => ?_)
  have hP : va_P D vwCl [(a, .inr (12, [.ref q1, .ref q2, .ref q3, .int 0, .int 0, .int 0, .int 0, .int 0, .ref q9, .int 0, .int 0, .int 0, .int 0, .ref q14, .ref q15, .ref q16, .ref q17, .null, .null, .null, .int 0, .int 0])), (q1, .inl (cy 0, 1452, .inl (fun _ => 0))), (q2, .inl (cy 0, 13068, .inl (fun _ => 0))), (q3, .inl (cy 1, 320, .inl (fun _ => 0))), (q9, .inl (cy 0, 80, .inl (fun _ => 0))), (q14, .inl (cy 2, 1200, .inl (fun _ => 0))), (q15, .inl (cy 2, 20, .inl (fun _ => 0))), (q16, .inl (cy 0, 20, .inl (fun _ => 0))), (q17, .inl (cy 0, 6, .inl (fun _ => 0)))] H := hP
  have hD : va_D A [(a, .inr (12, [.ref q1, .ref q2, .ref q3, .int 0, .int 0, .int 0, .int 0, .int 0, .ref q9, .int 0, .int 0, .int 0, .int 0, .ref q14, .ref q15, .ref q16, .ref q17, .null, .null, .null, .int 0, .int 0])), (q1, .inl (cy 0, 1452, .inl (fun _ => 0))), (q2, .inl (cy 0, 13068, .inl (fun _ => 0))), (q3, .inl (cy 1, 320, .inl (fun _ => 0))), (q9, .inl (cy 0, 80, .inl (fun _ => 0))), (q14, .inl (cy 2, 1200, .inl (fun _ => 0))), (q15, .inl (cy 2, 20, .inl (fun _ => 0))), (q16, .inl (cy 0, 20, .inl (fun _ => 0))), (q17, .inl (cy 0, 6, .inl (fun _ => 0)))] := hD
  refine lv_aload_n hx hb dX12_init_72 rfl (lv_at hl 0 rfl) ?_
  refine lv_bipush (v := 6) hx hb dX12_init_73 (by decide) ?_
  refine r_newI (N' := 6) hx hb (hts _ mi_1_104) hK hP hD hS hA (by decide) (by decide) (by decide) (Nat.le_of_ble_eq_true rfl) (Nat.le_of_ble_eq_true rfl) dX12_init_75 (fun q18 H hP hD hS => ?_)
  have hP : va_P D vwCl [(a, .inr (12, [.ref q1, .ref q2, .ref q3, .int 0, .int 0, .int 0, .int 0, .int 0, .ref q9, .int 0, .int 0, .int 0, .int 0, .ref q14, .ref q15, .ref q16, .ref q17, .null, .null, .null, .int 0, .int 0])), (q1, .inl (cy 0, 1452, .inl (fun _ => 0))), (q2, .inl (cy 0, 13068, .inl (fun _ => 0))), (q3, .inl (cy 1, 320, .inl (fun _ => 0))), (q9, .inl (cy 0, 80, .inl (fun _ => 0))), (q14, .inl (cy 2, 1200, .inl (fun _ => 0))), (q15, .inl (cy 2, 20, .inl (fun _ => 0))), (q16, .inl (cy 0, 20, .inl (fun _ => 0))), (q17, .inl (cy 0, 6, .inl (fun _ => 0))), (q18, .inl (cy 0, 6, .inl (fun _ => 0)))] H := hP
  have hD : va_D A [(a, .inr (12, [.ref q1, .ref q2, .ref q3, .int 0, .int 0, .int 0, .int 0, .int 0, .ref q9, .int 0, .int 0, .int 0, .int 0, .ref q14, .ref q15, .ref q16, .ref q17, .null, .null, .null, .int 0, .int 0])), (q1, .inl (cy 0, 1452, .inl (fun _ => 0))), (q2, .inl (cy 0, 13068, .inl (fun _ => 0))), (q3, .inl (cy 1, 320, .inl (fun _ => 0))), (q9, .inl (cy 0, 80, .inl (fun _ => 0))), (q14, .inl (cy 2, 1200, .inl (fun _ => 0))), (q15, .inl (cy 2, 20, .inl (fun _ => 0))), (q16, .inl (cy 0, 20, .inl (fun _ => 0))), (q17, .inl (cy 0, 6, .inl (fun _ => 0))), (q18, .inl (cy 0, 6, .inl (fun _ => 0)))] := hD
  refine va_putF (ci := 12) (v := .ref q18) (ty := (.array .int)) (C := RX12) (T := TX12) (N := 22) hx hb hts inX12 tyX12 tyX12_ok nmX12 hown hK.1 hP hD hS 0 rfl rfl 17 (by decide) (hts _ mi_5_162) (fun _ h9 => h9) rfl hin rfl (by decide +kernel) rfl rfl (Nat.le_of_ble_eq_true rfl) dX12_init_77 (fun H locs hP hD hS => ?_)
  have hP : va_P D vwCl [(a, .inr (12, [.ref q1, .ref q2, .ref q3, .int 0, .int 0, .int 0, .int 0, .int 0, .ref q9, .int 0, .int 0, .int 0, .int 0, .ref q14, .ref q15, .ref q16, .ref q17, .ref q18, .null, .null, .int 0, .int 0])), (q1, .inl (cy 0, 1452, .inl (fun _ => 0))), (q2, .inl (cy 0, 13068, .inl (fun _ => 0))), (q3, .inl (cy 1, 320, .inl (fun _ => 0))), (q9, .inl (cy 0, 80, .inl (fun _ => 0))), (q14, .inl (cy 2, 1200, .inl (fun _ => 0))), (q15, .inl (cy 2, 20, .inl (fun _ => 0))), (q16, .inl (cy 0, 20, .inl (fun _ => 0))), (q17, .inl (cy 0, 6, .inl (fun _ => 0))), (q18, .inl (cy 0, 6, .inl (fun _ => 0)))] H := hP
  have hD : va_D A [(a, .inr (12, [.ref q1, .ref q2, .ref q3, .int 0, .int 0, .int 0, .int 0, .int 0, .ref q9, .int 0, .int 0, .int 0, .int 0, .ref q14, .ref q15, .ref q16, .ref q17, .ref q18, .null, .null, .int 0, .int 0])), (q1, .inl (cy 0, 1452, .inl (fun _ => 0))), (q2, .inl (cy 0, 13068, .inl (fun _ => 0))), (q3, .inl (cy 1, 320, .inl (fun _ => 0))), (q9, .inl (cy 0, 80, .inl (fun _ => 0))), (q14, .inl (cy 2, 1200, .inl (fun _ => 0))), (q15, .inl (cy 2, 20, .inl (fun _ => 0))), (q16, .inl (cy 0, 20, .inl (fun _ => 0))), (q17, .inl (cy 0, 6, .inl (fun _ => 0))), (q18, .inl (cy 0, 6, .inl (fun _ => 0)))] := hD
  refine lv_aload_n hx hb dX12_init_80 rfl (lv_at hl 0 rfl) ?_
  refine lv_bipush (v := 6) hx hb dX12_init_81 (by decide) ?_
  refine r_newI (N' := 6) hx hb (hts _ mi_1_104) hK hP hD hS hA (by decide) (by decide) (by decide) (Nat.le_of_ble_eq_true rfl) (Nat.le_of_ble_eq_true rfl) dX12_init_83 (fun q19 H hP hD hS => ?_)
  have hP : va_P D vwCl [(a, .inr (12, [.ref q1, .ref q2, .ref q3, .int 0, .int 0, .int 0, .int 0, .int 0, .ref q9, .int 0, .int 0, .int 0, .int 0, .ref q14, .ref q15, .ref q16, .ref q17, .ref q18, .null, .null, .int 0, .int 0])), (q1, .inl (cy 0, 1452, .inl (fun _ => 0))), (q2, .inl (cy 0, 13068, .inl (fun _ => 0))), (q3, .inl (cy 1, 320, .inl (fun _ => 0))), (q9, .inl (cy 0, 80, .inl (fun _ => 0))), (q14, .inl (cy 2, 1200, .inl (fun _ => 0))), (q15, .inl (cy 2, 20, .inl (fun _ => 0))), (q16, .inl (cy 0, 20, .inl (fun _ => 0))), (q17, .inl (cy 0, 6, .inl (fun _ => 0))), (q18, .inl (cy 0, 6, .inl (fun _ => 0))), (q19, .inl (cy 0, 6, .inl (fun _ => 0)))] H := hP
  have hD : va_D A [(a, .inr (12, [.ref q1, .ref q2, .ref q3, .int 0, .int 0, .int 0, .int 0, .int 0, .ref q9, .int 0, .int 0, .int 0, .int 0, .ref q14, .ref q15, .ref q16, .ref q17, .ref q18, .null, .null, .int 0, .int 0])), (q1, .inl (cy 0, 1452, .inl (fun _ => 0))), (q2, .inl (cy 0, 13068, .inl (fun _ => 0))), (q3, .inl (cy 1, 320, .inl (fun _ => 0))), (q9, .inl (cy 0, 80, .inl (fun _ => 0))), (q14, .inl (cy 2, 1200, .inl (fun _ => 0))), (q15, .inl (cy 2, 20, .inl (fun _ => 0))), (q16, .inl (cy 0, 20, .inl (fun _ => 0))), (q17, .inl (cy 0, 6, .inl (fun _ => 0))), (q18, .inl (cy 0, 6, .inl (fun _ => 0))), (q19, .inl (cy 0, 6, .inl (fun _ => 0)))] := hD
  refine va_putF (ci := 12) (v := .ref q19) (ty := (.array .int)) (C := RX12) (T := TX12) (N := 22) hx hb hts inX12 tyX12 tyX12_ok nmX12 hown hK.1 hP hD hS 0 rfl rfl 18 (by decide) (hts _ mi_5_163) (fun _ h9 => h9) rfl hin rfl (by decide +kernel) rfl rfl (Nat.le_of_ble_eq_true rfl) dX12_init_85 (fun H locs hP hD hS => ?_)
  have hP : va_P D vwCl [(a, .inr (12, [.ref q1, .ref q2, .ref q3, .int 0, .int 0, .int 0, .int 0, .int 0, .ref q9, .int 0, .int 0, .int 0, .int 0, .ref q14, .ref q15, .ref q16, .ref q17, .ref q18, .ref q19, .null, .int 0, .int 0])), (q1, .inl (cy 0, 1452, .inl (fun _ => 0))), (q2, .inl (cy 0, 13068, .inl (fun _ => 0))), (q3, .inl (cy 1, 320, .inl (fun _ => 0))), (q9, .inl (cy 0, 80, .inl (fun _ => 0))), (q14, .inl (cy 2, 1200, .inl (fun _ => 0))), (q15, .inl (cy 2, 20, .inl (fun _ => 0))), (q16, .inl (cy 0, 20, .inl (fun _ => 0))), (q17, .inl (cy 0, 6, .inl (fun _ => 0))), (q18, .inl (cy 0, 6, .inl (fun _ => 0))), (q19, .inl (cy 0, 6, .inl (fun _ => 0)))] H := hP
  have hD : va_D A [(a, .inr (12, [.ref q1, .ref q2, .ref q3, .int 0, .int 0, .int 0, .int 0, .int 0, .ref q9, .int 0, .int 0, .int 0, .int 0, .ref q14, .ref q15, .ref q16, .ref q17, .ref q18, .ref q19, .null, .int 0, .int 0])), (q1, .inl (cy 0, 1452, .inl (fun _ => 0))), (q2, .inl (cy 0, 13068, .inl (fun _ => 0))), (q3, .inl (cy 1, 320, .inl (fun _ => 0))), (q9, .inl (cy 0, 80, .inl (fun _ => 0))), (q14, .inl (cy 2, 1200, .inl (fun _ => 0))), (q15, .inl (cy 2, 20, .inl (fun _ => 0))), (q16, .inl (cy 0, 20, .inl (fun _ => 0))), (q17, .inl (cy 0, 6, .inl (fun _ => 0))), (q18, .inl (cy 0, 6, .inl (fun _ => 0))), (q19, .inl (cy 0, 6, .inl (fun _ => 0)))] := hD
  refine lv_aload_n hx hb dX12_init_88 rfl (lv_at hl 0 rfl) ?_
  refine lv_bipush (v := 6) hx hb dX12_init_89 (by decide) ?_
  refine r_newI (N' := 6) hx hb (hts _ mi_1_104) hK hP hD hS hA (by decide) (by decide) (by decide) (Nat.le_of_ble_eq_true rfl) (Nat.le_of_ble_eq_true rfl) dX12_init_91 (fun q20 H hP hD hS => ?_)
  have hP : va_P D vwCl [(a, .inr (12, [.ref q1, .ref q2, .ref q3, .int 0, .int 0, .int 0, .int 0, .int 0, .ref q9, .int 0, .int 0, .int 0, .int 0, .ref q14, .ref q15, .ref q16, .ref q17, .ref q18, .ref q19, .null, .int 0, .int 0])), (q1, .inl (cy 0, 1452, .inl (fun _ => 0))), (q2, .inl (cy 0, 13068, .inl (fun _ => 0))), (q3, .inl (cy 1, 320, .inl (fun _ => 0))), (q9, .inl (cy 0, 80, .inl (fun _ => 0))), (q14, .inl (cy 2, 1200, .inl (fun _ => 0))), (q15, .inl (cy 2, 20, .inl (fun _ => 0))), (q16, .inl (cy 0, 20, .inl (fun _ => 0))), (q17, .inl (cy 0, 6, .inl (fun _ => 0))), (q18, .inl (cy 0, 6, .inl (fun _ => 0))), (q19, .inl (cy 0, 6, .inl (fun _ => 0))), (q20, .inl (cy 0, 6, .inl (fun _ => 0)))] H := hP
  have hD : va_D A [(a, .inr (12, [.ref q1, .ref q2, .ref q3, .int 0, .int 0, .int 0, .int 0, .int 0, .ref q9, .int 0, .int 0, .int 0, .int 0, .ref q14, .ref q15, .ref q16, .ref q17, .ref q18, .ref q19, .null, .int 0, .int 0])), (q1, .inl (cy 0, 1452, .inl (fun _ => 0))), (q2, .inl (cy 0, 13068, .inl (fun _ => 0))), (q3, .inl (cy 1, 320, .inl (fun _ => 0))), (q9, .inl (cy 0, 80, .inl (fun _ => 0))), (q14, .inl (cy 2, 1200, .inl (fun _ => 0))), (q15, .inl (cy 2, 20, .inl (fun _ => 0))), (q16, .inl (cy 0, 20, .inl (fun _ => 0))), (q17, .inl (cy 0, 6, .inl (fun _ => 0))), (q18, .inl (cy 0, 6, .inl (fun _ => 0))), (q19, .inl (cy 0, 6, .inl (fun _ => 0))), (q20, .inl (cy 0, 6, .inl (fun _ => 0)))] := hD
  refine va_putF (ci := 12) (v := .ref q20) (ty := (.array .int)) (C := RX12) (T := TX12) (N := 22) hx hb hts inX12 tyX12 tyX12_ok nmX12 hown hK.1 hP hD hS 0 rfl rfl 19 (by decide) (hts _ mi_5_164) (fun _ h9 => h9) rfl hin rfl (by decide +kernel) rfl rfl (Nat.le_of_ble_eq_true rfl) dX12_init_93 (fun H locs hP hD hS => ?_)
  have hP : va_P D vwCl [(a, .inr (12, [.ref q1, .ref q2, .ref q3, .int 0, .int 0, .int 0, .int 0, .int 0, .ref q9, .int 0, .int 0, .int 0, .int 0, .ref q14, .ref q15, .ref q16, .ref q17, .ref q18, .ref q19, .ref q20, .int 0, .int 0])), (q1, .inl (cy 0, 1452, .inl (fun _ => 0))), (q2, .inl (cy 0, 13068, .inl (fun _ => 0))), (q3, .inl (cy 1, 320, .inl (fun _ => 0))), (q9, .inl (cy 0, 80, .inl (fun _ => 0))), (q14, .inl (cy 2, 1200, .inl (fun _ => 0))), (q15, .inl (cy 2, 20, .inl (fun _ => 0))), (q16, .inl (cy 0, 20, .inl (fun _ => 0))), (q17, .inl (cy 0, 6, .inl (fun _ => 0))), (q18, .inl (cy 0, 6, .inl (fun _ => 0))), (q19, .inl (cy 0, 6, .inl (fun _ => 0))), (q20, .inl (cy 0, 6, .inl (fun _ => 0)))] H := hP
  have hD : va_D A [(a, .inr (12, [.ref q1, .ref q2, .ref q3, .int 0, .int 0, .int 0, .int 0, .int 0, .ref q9, .int 0, .int 0, .int 0, .int 0, .ref q14, .ref q15, .ref q16, .ref q17, .ref q18, .ref q19, .ref q20, .int 0, .int 0])), (q1, .inl (cy 0, 1452, .inl (fun _ => 0))), (q2, .inl (cy 0, 13068, .inl (fun _ => 0))), (q3, .inl (cy 1, 320, .inl (fun _ => 0))), (q9, .inl (cy 0, 80, .inl (fun _ => 0))), (q14, .inl (cy 2, 1200, .inl (fun _ => 0))), (q15, .inl (cy 2, 20, .inl (fun _ => 0))), (q16, .inl (cy 0, 20, .inl (fun _ => 0))), (q17, .inl (cy 0, 6, .inl (fun _ => 0))), (q18, .inl (cy 0, 6, .inl (fun _ => 0))), (q19, .inl (cy 0, 6, .inl (fun _ => 0))), (q20, .inl (cy 0, 6, .inl (fun _ => 0)))] := hD
  obtain ⟨u, hu⟩ : ∃ u : Nat → Nat, u = (fun z => match z with | 0 => a | 1 => q1 | 2 => q2 | 3 => q3 | 9 => q9 | 14 => q14 | 15 => q15 | 16 => q16 | 17 => q17 | 18 => q18 | 19 => q19 | 20 => q20 | _ => 0) := ⟨_, rfl⟩
  have hP0 : va_P D vwCl (w_Mo cy u (moI 0)) H := by
    have h := hP.sub (ws' := w_Mo cy u zeM) [0, 1, 2, 3, 4, 5, 6, 7, 8, 9, 10, 11] (by subst hu; rfl)
    have e : w_Mo cy u (moI 0) = w_Mo cy u zeM := by
      show [_, (u 1, (.inl (cy 0, 1452, .inl (moI 0 0)) : va_E)), _, _, _, _, _, _, _, _, _, _] = _
      rw [moI_0]; rfl
    rw [e]; exact h
  have hD0 : va_D A (w_Mo cy u (moI 0)) := by
    have h := hD.sub (ws' := w_Mo cy u zeM) [0, 1, 2, 3, 4, 5, 6, 7, 8, 9, 10, 11] (by decide) (by subst hu; rfl)
    have e : w_Mo cy u (moI 0) = w_Mo cy u zeM := by
      show [_, (u 1, (.inl (cy 0, 1452, .inl (moI 0 0)) : va_E)), _, _, _, _, _, _, _, _, _, _] = _
      rw [moI_0]; rfl
    rw [e]; exact h
  have ha : a = u 0 := by subst hu; rfl
  clear hu
  subst ha
  refine lv_iconst (v := 0) hx hb dX12_init_96 (by decide) ?_
  refine lv_istore_n (lv' := [(1, .int 0), (0, .ref (u 0))]) hx hb dX12_init_97 rfl hl (by decide) rfl (fun ls hl => ?_)
  have loop : ∀ (r i : Nat) (H : Heap) (locs : List Loc) (ls : Array Slot), i + r = 12 → lv_has ls 2 [(1, .int (nI i)), (0, .ref (u 0))] → va_P D vwCl (w_Mo cy u (moI i)) H → va_D A (w_Mo cy u (moI i)) → va_S A s.heap H locs → W p l e (rmN 1 11 16184) s m #[.ref (u 0)] below meth c H locs 11 16184 (qRN D below #[.ref (u 0)] s 11 16184 A (u 0) (fun u => w_Mo cy u (moI 12))) (F0 m 98 ls []) := by
    intro r
    induction r with
    | zero =>
      intro i H locs ls hi hl hP hD hS
      refine lv_iload_n hx hb dX12_init_98 rfl (lv_at hl 0 rfl) ?_
      refine lv_bipush (v := 12) hx hb dX12_init_99 (by decide) ?_
      refine lv_icmp_ge (tgt := 122) hx hb dX12_init_101 (by decide) (fun c1 => ?_) (fun c1 => ?_)
      · have e : i = 12 := by omega
        subst e
        exact e_RN (wf := fun u => w_Mo cy u (moI 12)) u hx hb hr hk rfl hP hD hS ⟨Nat.le_refl _, Nat.le_refl _⟩ dX12_init_122
      · exact absurd (show (12 : Int32) ≤ nI i from nI_le (a := 12) (by omega) (by omega)) c1
    | succ r ih =>
      intro i H locs ls hi hl hP hD hS
      refine lv_iload_n hx hb dX12_init_98 rfl (lv_at hl 0 rfl) ?_
      refine lv_bipush (v := 12) hx hb dX12_init_99 (by decide) ?_
      refine lv_icmp_ge (tgt := 122) hx hb dX12_init_101 (by decide) (fun c1 => ?_) (fun c1 => ?_)
      · exact absurd c1 (show ¬ (12 : Int32) ≤ nI i from nI_ge (b := 12) (by omega) (by omega))
      · refine lv_aload_n hx hb dX12_init_104 rfl (lv_at hl 1 rfl) ?_
        refine gf_X12_7 hx hb hts hown hK hP 0 rfl rfl dX12_init_105 ?_
        refine lv_sipush (v := 160) hx hb dX12_init_108 (by decide) ?_
        refine lv_iload_n hx hb dX12_init_111 rfl (lv_at hl 0 rfl) ?_
        refine lv_iadd hx hb dX12_init_112 ?_
        rw [show (160 : Int32) + nI i = nI (160 + i) from nI_add 160 i]
        refine lv_bipush (v := 12) hx hb dX12_init_113 (by decide) ?_
        refine r_ist hx hb hK hP hD hS (wn := (w_Mo cy u (moI (i + 1)))) 1 rfl (vin (by omega) (by omega)) (by rw [nI_clamp (by omega), moI_u i]; rfl) dX12_init_115 (fun H locs hP hD hS => ?_)
        refine lv_iinc (v := nI (i + 1)) (lv' := [(1, .int (nI (i + 1))), (0, .ref (u 0))]) hx hb dX12_init_116 hl (k := 0) rfl (nI_1 i) (by decide) rfl (fun ls hl => ?_)
        refine lv_goto (tgt := 98) hx hb dX12_init_119 (by decide) ?_
        exact ih (i + 1) H locs ls (by omega) hl hP hD hS
  exact loop 12 0 H locs ls (by omega) hl hP0 hD0 hS
