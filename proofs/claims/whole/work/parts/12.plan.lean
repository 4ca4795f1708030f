section SG12plan
variable {p : Program} {l : Launch} {e : Env} {s : State} {m : MethodId} {args : Array Value} {below : List Frame} {meth : Method} {c : Code} {D : va_G} {A : Nat → Prop} {cy : Nat → ClassId}
abbrev w_SeFi (cy : Nat → ClassId) (qse : Nat → Nat) (qfo : Nat → Nat) (qro : Nat → Nat) (qra : Nat → Nat) (qvc : Nat → Nat) (qos : Nat → Nat) (qli : Nat → Nat) (se : Mem) (fo : Mem) (ro : Mem) (ra : Mem) (vc : Mem) (os : Mem) (li : Mem) : va_W := [(qse 0, .inr (5, [.ref (qse 1), .ref (qse 2), .int (se 2 0), .ref (qse 4), .ref (qse 5), .int (se 5 0), .int (se 6 0), .int (se 7 0)])), (qse 1, .inl (cy 0, 6, .inl (se 0))), (qse 2, .inl (cy 0, 6, .inl (se 1))), (qse 4, .inl (cy 0, 6, .inl (se 3))), (qse 5, .inl (cy 0, 6, .inl (se 4))), (qfo 0, .inr (2, [.ref (qro 0), .ref (qra 0), .ref (qvc 0), .ref (qos 0), .ref (qli 0), .ref (qfo 6), .ref (qfo 7), .ref (qfo 8), .int (fo 8 0), .int (fo 9 0), .int (fo 10 0)])), (qfo 6, .inl (cy 0, 20, .inl (fo 5))), (qfo 7, .inl (cy 0, 20, .inl (fo 6))), (qfo 8, .inl (cy 0, 20, .inl (fo 7))), (qro 0, .inr (9, [.ref (qro 1), .ref (qro 2), .ref (qro 3), .ref (qro 4), .int (ro 4 0)])), (qro 1, .inl (cy 0, 20, .inl (ro 0))), (qro 2, .inl (cy 0, 20, .inl (ro 1))), (qro 3, .inl (cy 0, 20, .inl (ro 2))), (qro 4, .inl (cy 0, 20, .inl (ro 3))), (qra 0, .inr (7, [.ref (qra 1)])), (qra 1, .inl (cy 0, 12, .inl (ra 0))), (qvc 0, .inr (10, [.ref (qvc 1), .ref (qvc 2), .int (vc 2 0)])), (qvc 1, .inl (cy 0, 20, .inl (vc 0))), (qvc 2, .inl (cy 0, 20, .inl (vc 1))), (qos 0, .inr (4, [.ref (qos 1), .ref (qos 2), .ref (qos 3), .ref (qos 4), .int (os 4 0)])), (qos 1, .inl (cy 0, 8, .inl (os 0))), (qos 2, .inl (cy 0, 8, .inl (os 1))), (qos 3, .inl (cy 0, 8, .inl (os 2))), (qos 4, .inl (cy 0, 8, .inl (os 3))), (qli 0, .inr (3, [.ref (qli 1), .ref (qli 2), .ref (qli 3), .int (li 3 0)])), (qli 1, .inl (cy 0, 12, .inl (li 0))), (qli 2, .inl (cy 0, 12, .inl (li 1))), (qli 3, .inl (cy 0, 12, .inl (li 2)))]
abbrev w_Se (cy : Nat → ClassId) (qse : Nat → Nat) (se : Mem) : va_W := [(qse 0, .inr (5, [.ref (qse 1), .ref (qse 2), .int (se 2 0), .ref (qse 4), .ref (qse 5), .int (se 5 0), .int (se 6 0), .int (se 7 0)])), (qse 1, .inl (cy 0, 6, .inl (se 0))), (qse 2, .inl (cy 0, 6, .inl (se 1))), (qse 4, .inl (cy 0, 6, .inl (se 3))), (qse 5, .inl (cy 0, 6, .inl (se 4)))]
abbrev w_Pl (cy : Nat → ClassId) (qpn : Nat → Nat) (pn : Mem) : va_W := [(qpn 0, .inr (6, [.ref (qpn 1), .int (pn 1 0), .ref (qpn 3), .int (pn 3 0)])), (qpn 1, .inl (cy 0, 20, .inl (pn 0))), (qpn 3, .inl (cy 0, 1200, .inl (pn 2)))]
abbrev w_PlRa (cy : Nat → ClassId) (qpn : Nat → Nat) (qra : Nat → Nat) (pn : Mem) (ra : Mem) : va_W := [(qpn 0, .inr (6, [.ref (qpn 1), .int (pn 1 0), .ref (qpn 3), .int (pn 3 0)])), (qpn 1, .inl (cy 0, 20, .inl (pn 0))), (qpn 3, .inl (cy 0, 1200, .inl (pn 2))), (qra 0, .inr (7, [.ref (qra 1)])), (qra 1, .inl (cy 0, 12, .inl (ra 0)))]
abbrev w_PlFi (cy : Nat → ClassId) (qpn : Nat → Nat) (qfo : Nat → Nat) (qro : Nat → Nat) (qra : Nat → Nat) (qvc : Nat → Nat) (qos : Nat → Nat) (qli : Nat → Nat) (pn : Mem) (fo : Mem) (ro : Mem) (ra : Mem) (vc : Mem) (os : Mem) (li : Mem) : va_W := [(qpn 0, .inr (6, [.ref (qpn 1), .int (pn 1 0), .ref (qpn 3), .int (pn 3 0)])), (qpn 1, .inl (cy 0, 20, .inl (pn 0))), (qpn 3, .inl (cy 0, 1200, .inl (pn 2))), (qfo 0, .inr (2, [.ref (qro 0), .ref (qra 0), .ref (qvc 0), .ref (qos 0), .ref (qli 0), .ref (qfo 6), .ref (qfo 7), .ref (qfo 8), .int (fo 8 0), .int (fo 9 0), .int (fo 10 0)])), (qfo 6, .inl (cy 0, 20, .inl (fo 5))), (qfo 7, .inl (cy 0, 20, .inl (fo 6))), (qfo 8, .inl (cy 0, 20, .inl (fo 7))), (qro 0, .inr (9, [.ref (qro 1), .ref (qro 2), .ref (qro 3), .ref (qro 4), .int (ro 4 0)])), (qro 1, .inl (cy 0, 20, .inl (ro 0))), (qro 2, .inl (cy 0, 20, .inl (ro 1))), (qro 3, .inl (cy 0, 20, .inl (ro 2))), (qro 4, .inl (cy 0, 20, .inl (ro 3))), (qra 0, .inr (7, [.ref (qra 1)])), (qra 1, .inl (cy 0, 12, .inl (ra 0))), (qvc 0, .inr (10, [.ref (qvc 1), .ref (qvc 2), .int (vc 2 0)])), (qvc 1, .inl (cy 0, 20, .inl (vc 0))), (qvc 2, .inl (cy 0, 20, .inl (vc 1))), (qos 0, .inr (4, [.ref (qos 1), .ref (qos 2), .ref (qos 3), .ref (qos 4), .int (os 4 0)])), (qos 1, .inl (cy 0, 8, .inl (os 0))), (qos 2, .inl (cy 0, 8, .inl (os 1))), (qos 3, .inl (cy 0, 8, .inl (os 2))), (qos 4, .inl (cy 0, 8, .inl (os 3))), (qli 0, .inr (3, [.ref (qli 1), .ref (qli 2), .ref (qli 3), .int (li 3 0)])), (qli 1, .inl (cy 0, 12, .inl (li 0))), (qli 2, .inl (cy 0, 12, .inl (li 1))), (qli 3, .inl (cy 0, 12, .inl (li 2)))]
/-! StormSlots$OrderSearch.gather(LStormSlots$Field;I)V -/
def Se_gather_b70 (fo : Mem) (ro : Mem) (p2 : Int32) (se : Mem) (x3 : Int32) (x4 : Int32) : Option (Mem) :=
  ckI x4 6 (stk (upm se 3 x4.toNatClampNeg x3) (fun se_13 => ckI (se_13 2 0) 6 (stk (upm se_13 0 (se_13 2 0).toNatClampNeg p2) (fun se_15 => bn1 (Fi_costOf fo ro p2) (fun r_17 => stk (upm se_15 6 0 ((se_15 6 0) + r_17)) (fun se_18 => stk (upm se_18 2 0 ((se_18 2 0) + 1)) (fun se_19 => some se_19)))))))
def Se_gather_b30B (fo : Mem) (ro : Mem) (p2 : Int32) (k30 : Mem → Int32 → Int32 → Option (Mem)) (se : Mem) (x3 : Int32) (x4 : Int32) : Option (Mem) :=
  if x4 ≤ 0 then Se_gather_b70 fo ro p2 se x3 x4 else ckI (x4 - 1) 6 (if (se 3 (x4 - 1).toNatClampNeg) ≤ x3 then Se_gather_b70 fo ro p2 se x3 x4 else ckI x4 6 (stk (upm se 3 x4.toNatClampNeg (se 3 (x4 - 1).toNatClampNeg)) (fun se_10 => stk (x4 + (-1)) (fun x4_11 => k30 se_10 x3 x4_11))))
def Se_gather_b30 (fo : Mem) (ro : Mem) (p2 : Int32) : Nat → Mem → Int32 → Int32 → Option (Mem)
  | 0 => fun _ _ _ => none
  | n + 1 => Se_gather_b30B fo ro p2 (Se_gather_b30 fo ro p2 n)
def Se_gather (se : Mem) (fo : Mem) (ro : Mem) (p2 : Int32) : Option (Mem) :=
  if (se 2 0) < 0 then some se else if (se 2 0) < 6 then ckI p2 20 (stk (fo 5 p2.toNatClampNeg) (fun x3_4 => stk (se 2 0) (fun x4_5 => Se_gather_b30 fo ro p2 fl se x3_4 x4_5))) else some se
set_option maxHeartbeats 4000000 in
set_option maxRecDepth 100000 in
theorem Se_gather_b70_w (C0 : cX RX5 cX5_gather none 5 p s m args meth c) (hK : kN D cy s) {qse qfo qro qra qvc qos qli : Nat → Nat} {fo ro ra vc os li : Mem} {p2 : Int32} {se' : Mem} (hA : ∀ q, s.heap.size ≤ q → A q) {se : Mem} {x3 : Int32} {x4 : Int32} {H : Heap} {locs : List Loc} (hP : va_P D vwCl (w_SeFi cy qse qfo qro qra qvc qos qli se fo ro ra vc os li) H) (hD : va_D A (w_SeFi cy qse qfo qro qra qvc qos qli se fo ro ra vc os li)) (hS : va_S A s.heap H locs) {ls : Array Slot} (hl : lv_has ls 5 [(0, .ref (qse 0)), (1, .ref (qfo 0)), (2, .int p2), (3, .int x3), (4, .int x4)]) (hp : Se_gather_b70 fo ro p2 se x3 x4 = some se') : W p l e (rmD 1) s m args below meth c H locs 0 0 (qRV D below args s A (w_SeFi cy qse qfo qro qra qvc qos qli se' fo ro ra vc os li)) (F0 m 70 ls []) := by
  obtain ⟨hx, hb, hr, hml, hown, hts, hk⟩ := id C0
  unfold Se_gather_b70 at hp
  refine lv_aload_n hx hb dX5_gather_70 rfl (lv_at hl 0 rfl) ?_
  refine gf_X5_18 hx hb hts hown hK hP 0 rfl rfl dX5_gather_71 ?_
  refine lv_iload hx hb dX5_gather_74 (lv_at hl 4 rfl) ?_
  refine lv_iload_n hx hb dX5_gather_76 rfl (lv_at hl 3 rfl) ?_
  obtain ⟨hi_12, hp⟩ := ckI_s hp
  obtain ⟨se_13, ese_13⟩ : ∃ y : Mem, y = upm se 3 x4.toNatClampNeg x3 := ⟨_, rfl⟩
  have hp := stk_e hp ese_13
  refine r_ist hx hb hK hP hD hS (wn := (w_SeFi cy qse qfo qro qra qvc qos qli se_13 fo ro ra vc os li)) 3 rfl hi_12 (by subst ese_13; rfl) dX5_gather_77 (fun H locs hP hD hS => ?_)
  refine lv_aload_n hx hb dX5_gather_78 rfl (lv_at hl 0 rfl) ?_
  refine gf_X5_11 hx hb hts hown hK hP 0 rfl rfl dX5_gather_79 ?_
  refine lv_aload_n hx hb dX5_gather_82 rfl (lv_at hl 0 rfl) ?_
  refine gf_X5_24 hx hb hts hown hK hP 0 rfl rfl dX5_gather_83 ?_
  refine lv_iload_n hx hb dX5_gather_86 rfl (lv_at hl 2 rfl) ?_
  obtain ⟨hi_14, hp⟩ := ckI_s hp
  obtain ⟨se_15, ese_15⟩ : ∃ y : Mem, y = upm se_13 0 (se_13 2 0).toNatClampNeg p2 := ⟨_, rfl⟩
  have hp := stk_e hp ese_15
  refine r_ist hx hb hK hP hD hS (wn := (w_SeFi cy qse qfo qro qra qvc qos qli se_15 fo ro ra vc os li)) 1 rfl hi_14 (by subst ese_15; rfl) dX5_gather_87 (fun H locs hP hD hS => ?_)
  refine lv_aload_n hx hb dX5_gather_88 rfl (lv_at hl 0 rfl) ?_
  refine lv_dup hx hb dX5_gather_89 rfl ?_
  refine gf_X5_31 hx hb hts hown hK hP 0 rfl rfl dX5_gather_90 ?_
  refine lv_aload_n hx hb dX5_gather_93 rfl (lv_at hl 1 rfl) ?_
  refine lv_iload_n hx hb dX5_gather_94 rfl (lv_at hl 2 rfl) ?_
  obtain ⟨r_17, hc_16, hp⟩ := bn1_s hp
  refine k_ROV (As := [.int p2]) (rest := [.int (se_15 6 0), .ref (qse 0)]) ⟨hx, hb, hml, hown, hts⟩ hK (hP.sub (ws' := (w_Fi cy qfo qro qra qvc qos qli fo ro ra vc os li)) [5, 6, 7, 8, 9, 10, 11, 12, 13, 14, 15, 16, 17, 18, 19, 20, 21, 22, 23, 24, 25, 26, 27] rfl) (cw_X5_61 hts ⟨Nat.le_of_ble_eq_true rfl, Nat.le_of_ble_eq_true rfl⟩) 0 (ci := 2) rfl rfl rfl (c_X2_costOf l D cy qfo qro qra qvc qos qli fo ro ra vc os li p2 r_17 hc_16) rfl hl.1 (Nat.le_of_ble_eq_true rfl) ⟨Nat.le_refl _, Nat.le_refl _⟩ dX5_gather_95 ?_
  refine lv_iadd hx hb dX5_gather_98 ?_
  obtain ⟨se_18, ese_18⟩ : ∃ y : Mem, y = upm se_15 6 0 ((se_15 6 0) + r_17) := ⟨_, rfl⟩
  have hp := stk_e hp ese_18
  refine pf_X5_31 hx hb hts hown hK hP hD hS (wn := (w_SeFi cy qse qfo qro qra qvc qos qli se_18 fo ro ra vc os li)) 0 rfl (Nat.le_of_ble_eq_true rfl) (by subst ese_18; rfl) dX5_gather_99 (fun H locs hP hD hS => ?_)
  refine lv_aload_n hx hb dX5_gather_102 rfl (lv_at hl 0 rfl) ?_
  refine lv_dup hx hb dX5_gather_103 rfl ?_
  refine gf_X5_24 hx hb hts hown hK hP 0 rfl rfl dX5_gather_104 ?_
  refine lv_iconst (v := 1) hx hb dX5_gather_107 (by decide) ?_
  refine lv_iadd hx hb dX5_gather_108 ?_
  obtain ⟨se_19, ese_19⟩ : ∃ y : Mem, y = upm se_18 2 0 ((se_18 2 0) + 1) := ⟨_, rfl⟩
  have hp := stk_e hp ese_19
  refine pf_X5_24 hx hb hts hown hK hP hD hS (wn := (w_SeFi cy qse qfo qro qra qvc qos qli se_19 fo ro ra vc os li)) 0 rfl (Nat.le_of_ble_eq_true rfl) (by subst ese_19; rfl) dX5_gather_109 (fun H locs hP hD hS => ?_)
  simp only [Option.some.injEq, Prod.mk.injEq] at hp
  subst hp
  exact e_RV hx hb hr hk hP hD hS dX5_gather_112
set_option maxHeartbeats 4000000 in
set_option maxRecDepth 100000 in
theorem Se_gather_b30B_w (C0 : cX RX5 cX5_gather none 5 p s m args meth c) (hK : kN D cy s) {qse qfo qro qra qvc qos qli : Nat → Nat} {fo ro ra vc os li : Mem} {p2 : Int32} {se' : Mem} (hA : ∀ q, s.heap.size ≤ q → A q) {k30 : Mem → Int32 → Int32 → Option (Mem)} (hk30 : ∀ (se : Mem) (x3 x4 : Int32) (H : Heap) (locs : List Loc) (ls : Array Slot), va_P D vwCl (w_SeFi cy qse qfo qro qra qvc qos qli se fo ro ra vc os li) H → va_D A (w_SeFi cy qse qfo qro qra qvc qos qli se fo ro ra vc os li) → va_S A s.heap H locs → lv_has ls 5 [(0, .ref (qse 0)), (1, .ref (qfo 0)), (2, .int p2), (3, .int x3), (4, .int x4)] → k30 se x3 x4 = some se' → W p l e (rmD 1) s m args below meth c H locs 0 0 (qRV D below args s A (w_SeFi cy qse qfo qro qra qvc qos qli se' fo ro ra vc os li)) (F0 m 30 ls [])) {se : Mem} {x3 : Int32} {x4 : Int32} {H : Heap} {locs : List Loc} (hP : va_P D vwCl (w_SeFi cy qse qfo qro qra qvc qos qli se fo ro ra vc os li) H) (hD : va_D A (w_SeFi cy qse qfo qro qra qvc qos qli se fo ro ra vc os li)) (hS : va_S A s.heap H locs) {ls : Array Slot} (hl : lv_has ls 5 [(0, .ref (qse 0)), (1, .ref (qfo 0)), (2, .int p2), (3, .int x3), (4, .int x4)]) (hp : Se_gather_b30B fo ro p2 k30 se x3 x4 = some se') : W p l e (rmD 1) s m args below meth c H locs 0 0 (qRV D below args s A (w_SeFi cy qse qfo qro qra qvc qos qli se' fo ro ra vc os li)) (F0 m 30 ls []) := by
  obtain ⟨hx, hb, hr, hml, hown, hts, hk⟩ := id C0
  unfold Se_gather_b30B at hp
  refine lv_iload hx hb dX5_gather_30 (lv_at hl 4 rfl) ?_
  refine lv_if_le (tgt := 70) hx hb dX5_gather_32 (by decide) (fun c_6 => ?_) (fun c_6 => ?_)
  · have hp := ite_p hp c_6
    exact Se_gather_b70_w C0 hK hA  hP hD hS hl hp
  · have hp := ite_n hp c_6
    refine lv_aload_n hx hb dX5_gather_35 rfl (lv_at hl 0 rfl) ?_
    refine gf_X5_18 hx hb hts hown hK hP 0 rfl rfl dX5_gather_36 ?_
    refine lv_iload hx hb dX5_gather_39 (lv_at hl 4 rfl) ?_
    refine lv_iconst (v := 1) hx hb dX5_gather_41 (by decide) ?_
    refine lv_isub hx hb dX5_gather_42 ?_
    obtain ⟨hi_7, hp⟩ := ckI_s hp
    refine r_ild hx hb hK hP 3 rfl hi_7 dX5_gather_43 ?_
    refine lv_iload_n hx hb dX5_gather_44 rfl (lv_at hl 3 rfl) ?_
    refine lv_icmp_le (tgt := 70) hx hb dX5_gather_45 (by decide) (fun c_8 => ?_) (fun c_8 => ?_)
    · have hp := ite_p hp c_8
      exact Se_gather_b70_w C0 hK hA  hP hD hS hl hp
    · have hp := ite_n hp c_8
      refine lv_aload_n hx hb dX5_gather_48 rfl (lv_at hl 0 rfl) ?_
      refine gf_X5_18 hx hb hts hown hK hP 0 rfl rfl dX5_gather_49 ?_
      refine lv_iload hx hb dX5_gather_52 (lv_at hl 4 rfl) ?_
      refine lv_aload_n hx hb dX5_gather_54 rfl (lv_at hl 0 rfl) ?_
      refine gf_X5_18 hx hb hts hown hK hP 0 rfl rfl dX5_gather_55 ?_
      refine lv_iload hx hb dX5_gather_58 (lv_at hl 4 rfl) ?_
      refine lv_iconst (v := 1) hx hb dX5_gather_60 (by decide) ?_
      refine lv_isub hx hb dX5_gather_61 ?_
      refine r_ild hx hb hK hP 3 rfl hi_7 dX5_gather_62 ?_
      obtain ⟨hi_9, hp⟩ := ckI_s hp
      obtain ⟨se_10, ese_10⟩ : ∃ y : Mem, y = upm se 3 x4.toNatClampNeg (se 3 (x4 - 1).toNatClampNeg) := ⟨_, rfl⟩
      have hp := stk_e hp ese_10
      refine r_ist hx hb hK hP hD hS (wn := (w_SeFi cy qse qfo qro qra qvc qos qli se_10 fo ro ra vc os li)) 3 rfl hi_9 (by subst ese_10; rfl) dX5_gather_63 (fun H locs hP hD hS => ?_)
      obtain ⟨x4_11, ex4_11⟩ : ∃ y : Int32, y = x4 + (-1) := ⟨_, rfl⟩
      have hp := stk_e hp ex4_11
      refine lv_iinc (v := x4_11) (lv' := [(4, .int x4_11), (0, .ref (qse 0)), (1, .ref (qfo 0)), (2, .int p2), (3, .int x3)]) hx hb dX5_gather_64 hl (k := 4) rfl (by rw [ex4_11]; rfl) (by decide) rfl (fun ls hl => ?_)
      refine lv_goto (tgt := 30) hx hb dX5_gather_67 (by decide) ?_
      exact hk30 se_10 x3 x4_11 _ _ _ hP hD hS (lv_sub hl [1, 2, 3, 4, 0] rfl) hp
theorem Se_gather_b30_w (C0 : cX RX5 cX5_gather none 5 p s m args meth c) (hK : kN D cy s) {qse qfo qro qra qvc qos qli : Nat → Nat} {fo ro ra vc os li : Mem} {p2 : Int32} {se' : Mem} (hA : ∀ q, s.heap.size ≤ q → A q) : ∀ (n : Nat) (se : Mem) (x3 x4 : Int32) (H : Heap) (locs : List Loc) (ls : Array Slot), va_P D vwCl (w_SeFi cy qse qfo qro qra qvc qos qli se fo ro ra vc os li) H → va_D A (w_SeFi cy qse qfo qro qra qvc qos qli se fo ro ra vc os li) → va_S A s.heap H locs → lv_has ls 5 [(0, .ref (qse 0)), (1, .ref (qfo 0)), (2, .int p2), (3, .int x3), (4, .int x4)] → Se_gather_b30 fo ro p2 n se x3 x4 = some se' → W p l e (rmD 1) s m args below meth c H locs 0 0 (qRV D below args s A (w_SeFi cy qse qfo qro qra qvc qos qli se' fo ro ra vc os li)) (F0 m 30 ls []) := by
  intro n
  induction n with
  | zero =>
    intro se x3 x4 H locs ls hP hD hS hl hp
    cases hp
  | succ n ih =>
    intro se x3 x4 H locs ls hP hD hS hl hp
    exact Se_gather_b30B_w C0 hK hA  (fun se x3 x4 H locs ls hP hD hS hl hp => ih se x3 x4 H locs ls hP hD hS hl hp) hP hD hS hl hp
set_option maxHeartbeats 4000000 in
set_option maxRecDepth 100000 in
theorem c_X5_gather (l : Launch) (D : va_G) (cy : Nat → ClassId) (qse qfo qro qra qvc qos qli : Nat → Nat) (se fo ro ra vc os li : Mem) (p2 : Int32) (se' : Mem) (hp : Se_gather se fo ro p2 = some se') : RV l yX5_gather cX5_gather 5 1 D cy [.ref (qse 0), .ref (qfo 0), .int p2] (w_SeFi cy qse qfo qro qra qvc qos qli se fo ro ra vc os li) (w_SeFi cy qse qfo qro qra qvc qos qli se' fo ro ra vc os li) := by
  refine RV_of RX5 rfl (by decide) (Nat.le_of_ble_eq_true rfl) ?_
  intro p e s m below meth c A C0 hK hP hD hS hA ls hl
  obtain ⟨hx, hb, hr, hml, hown, hts, hk⟩ := id C0
  unfold Se_gather at hp
  have hl : lv_has ls 5 [(0, .ref (qse 0)), (1, .ref (qfo 0)), (2, .int p2)] := hl
  refine lv_aload_n hx hb dX5_gather_0 rfl (lv_at hl 0 rfl) ?_
  refine gf_X5_24 hx hb hts hown hK hP 0 rfl rfl dX5_gather_1 ?_
  refine lv_if_lt (tgt := 16) hx hb dX5_gather_4 (by decide) (fun c_1 => ?_) (fun c_1 => ?_)
  · have hp := ite_p hp c_1
    simp only [Option.some.injEq, Prod.mk.injEq] at hp
    subst hp
    exact e_RV hx hb hr hk hP hD hS dX5_gather_16
  · have hp := ite_n hp c_1
    refine lv_aload_n hx hb dX5_gather_7 rfl (lv_at hl 0 rfl) ?_
    refine gf_X5_24 hx hb hts hown hK hP 0 rfl rfl dX5_gather_8 ?_
    refine lv_bipush (v := 6) hx hb dX5_gather_11 (by decide) ?_
    refine lv_icmp_lt (tgt := 17) hx hb dX5_gather_13 (by decide) (fun c_2 => ?_) (fun c_2 => ?_)
    · have hp := ite_p hp c_2
      refine lv_aload_n hx hb dX5_gather_17 rfl (lv_at hl 1 rfl) ?_
      refine gf_X5_58 hx hb hts hown hK hP 5 rfl rfl dX5_gather_18 ?_
      refine lv_iload_n hx hb dX5_gather_21 rfl (lv_at hl 2 rfl) ?_
      obtain ⟨hi_3, hp⟩ := ckI_s hp
      refine r_ild hx hb hK hP 6 rfl hi_3 dX5_gather_22 ?_
      refine lv_topi (fun x3_4 ex3_4 => ?_)
      have hp := stk_e hp ex3_4
      refine lv_istore_n (lv' := [(3, .int x3_4), (0, .ref (qse 0)), (1, .ref (qfo 0)), (2, .int p2)]) hx hb dX5_gather_23 rfl hl (by decide) rfl (fun ls hl => ?_)
      refine lv_aload_n hx hb dX5_gather_24 rfl (lv_at hl 1 rfl) ?_
      refine gf_X5_24 hx hb hts hown hK hP 0 rfl rfl dX5_gather_25 ?_
      refine lv_topi (fun x4_5 ex4_5 => ?_)
      have hp := stk_e hp ex4_5
      refine lv_istore (lv' := [(4, .int x4_5), (3, .int x3_4), (0, .ref (qse 0)), (1, .ref (qfo 0)), (2, .int p2)]) hx hb dX5_gather_28 hl (by decide) rfl (fun ls hl => ?_)
      exact Se_gather_b30_w C0 hK hA  fl se x3_4 x4_5 _ _ _ hP hD hS (lv_sub hl [2, 3, 4, 1, 0] rfl) hp
    · have hp := ite_n hp c_2
      simp only [Option.some.injEq, Prod.mk.injEq] at hp
      subst hp
      exact e_RV hx hb hr hk hP hD hS dX5_gather_16
/-! StormSlots$OrderSearch.lay(LStormSlots$OrderSearch;LStormSlots$Field;II)V -/
def Se_lay_b27 (rec : Mem → Int32 → Int32 → Option (Mem)) (fo : Mem) (ro : Mem) (p2 : Int32) (p3 : Int32) (se : Mem) : Option (Mem) :=
  stk (upm se 7 0 p3) (fun se_7 => stk (upA se_7 1 (va_cpy (se_7 4) (se_7 1) (0 : Int32).toNatClampNeg (0 : Int32).toNatClampNeg (6 : Int32).toNatClampNeg)) (fun se_8 => some se_8))
def Se_lay_b59B (rec : Mem → Int32 → Int32 → Option (Mem)) (fo : Mem) (ro : Mem) (p2 : Int32) (p3 : Int32) (k59 : Mem → Int32 → Int32 → Option (Mem)) (se : Mem) (x4 : Int32) (x5 : Int32) : Option (Mem) :=
  if (se 2 0) ≤ x5 then some se else if 6 ≤ x5 then some se else stk ((1 : Int32) <<< (x5 &&& 31)) (fun x6_11 => ckI x5 6 (stk (se 3 x5.toNatClampNeg) (fun x7_13 => if ((se 5 0) &&& x6_11) = 0 then bn1 (Fi_earliest fo ro x4) (fun r_17 => if r_17 ≤ x7_13 then ckI p2 6 (stk (upm se 4 p2.toNatClampNeg x7_13) (fun se_20 => stk (upm se_20 5 0 ((se_20 5 0) ||| x6_11)) (fun se_21 => bn1 (Fi_costOnGround ro x4 x7_13) (fun r_23 => bn1 (rec se_21 (p2 + 1) (p3 + r_23)) (fun se_25 => stk (upm se_25 5 0 ((se_25 5 0) &&& (x6_11 ^^^ (-1)))) (fun se_26 => stk (x5 + 1) (fun x5_27 => k59 se_26 x4 x5_27))))))) else stk (x5 + 1) (fun x5_28 => k59 se x4 x5_28)) else stk (x5 + 1) (fun x5_15 => k59 se x4 x5_15))))
def Se_lay_b59 (rec : Mem → Int32 → Int32 → Option (Mem)) (fo : Mem) (ro : Mem) (p2 : Int32) (p3 : Int32) : Nat → Mem → Int32 → Int32 → Option (Mem)
  | 0 => fun _ _ _ => none
  | n + 1 => Se_lay_b59B rec fo ro p2 p3 (Se_lay_b59 rec fo ro p2 p3 n)
def Se_layB (rec : Mem → Int32 → Int32 → Option (Mem)) (se : Mem) (fo : Mem) (ro : Mem) (p2 : Int32) (p3 : Int32) : Option (Mem) :=
  if (se 7 0) ≤ p3 then some se else if 0 ≤ p2 then if (se 2 0) ≤ p2 then Se_lay_b27 rec fo ro p2 p3 se else if p2 < 6 then ckI p2 6 (stk (se 0 p2.toNatClampNeg) (fun x4_6 => Se_lay_b59 rec fo ro p2 p3 fl se x4_6 0)) else Se_lay_b27 rec fo ro p2 p3 se else some se
set_option maxHeartbeats 4000000 in
set_option maxRecDepth 100000 in
theorem Se_lay_b27_w (C0 : cX RX5 cX5_lay none 8 p s m args meth c) (hK : kN D cy s) {rec : Mem → Int32 → Int32 → Option (Mem)} {d0 : Nat} {qse qfo qro qra qvc qos qli : Nat → Nat} {fo ro ra vc os li : Mem} {p2 p3 : Int32} {se' : Mem} (hA : ∀ q, s.heap.size ≤ q → A q) (hrec : ∀ (sez sew : Mem) (z2 z3 : Int32), rec sez z2 z3 = some sew → RV l yX5_lay cX5_lay 8 (d0 + 1) D cy [.ref (qse 0), .ref (qfo 0), .int z2, .int z3] (w_SeFi cy qse qfo qro qra qvc qos qli sez fo ro ra vc os li) (w_SeFi cy qse qfo qro qra qvc qos qli sew fo ro ra vc os li)) {se : Mem} {H : Heap} {locs : List Loc} (hP : va_P D vwCl (w_SeFi cy qse qfo qro qra qvc qos qli se fo ro ra vc os li) H) (hD : va_D A (w_SeFi cy qse qfo qro qra qvc qos qli se fo ro ra vc os li)) (hS : va_S A s.heap H locs) {ls : Array Slot} (hl : lv_has ls 8 [(0, .ref (qse 0)), (1, .ref (qfo 0)), (2, .int p2), (3, .int p3)]) (hp : Se_lay_b27 rec fo ro p2 p3 se = some se') : W p l e (rmD (d0 + 2)) s m args below meth c H locs 0 0 (qRV D below args s A (w_SeFi cy qse qfo qro qra qvc qos qli se' fo ro ra vc os li)) (F0 m 27 ls []) := by
  obtain ⟨hx, hb, hr, hml, hown, hts, hk⟩ := id C0
  unfold Se_lay_b27 at hp
  refine lv_aload_n hx hb dX5_lay_27 rfl (lv_at hl 0 rfl) ?_
  refine lv_iload_n hx hb dX5_lay_28 rfl (lv_at hl 3 rfl) ?_
  obtain ⟨se_7, ese_7⟩ : ∃ y : Mem, y = upm se 7 0 p3 := ⟨_, rfl⟩
  have hp := stk_e hp ese_7
  refine pf_X5_37 hx hb hts hown hK hP hD hS (wn := (w_SeFi cy qse qfo qro qra qvc qos qli se_7 fo ro ra vc os li)) 0 rfl (Nat.le_of_ble_eq_true rfl) (by subst ese_7; rfl) dX5_lay_29 (fun H locs hP hD hS => ?_)
  refine lv_aload_n hx hb dX5_lay_32 rfl (lv_at hl 0 rfl) ?_
  refine gf_X5_21 hx hb hts hown hK hP 0 rfl rfl dX5_lay_33 ?_
  refine lv_iconst (v := 0) hx hb dX5_lay_36 (by decide) ?_
  refine lv_aload_n hx hb dX5_lay_37 rfl (lv_at hl 0 rfl) ?_
  refine gf_X5_15 hx hb hts hown hK hP 0 rfl rfl dX5_lay_38 ?_
  refine lv_iconst (v := 0) hx hb dX5_lay_41 (by decide) ?_
  refine lv_bipush (v := 6) hx hb dX5_lay_42 (by decide) ?_
  obtain ⟨se_8, ese_8⟩ : ∃ y : Mem, y = upA se_7 1 (va_cpy (se_7 4) (se_7 1) (0 : Int32).toNatClampNeg (0 : Int32).toNatClampNeg (6 : Int32).toNatClampNeg) := ⟨_, rfl⟩
  have hp := stk_e hp ese_8
  refine ac_X5_65 hx hb (by rw [hml]; exact hl.1.symm) hts hown hK hP hD hS (wn := (w_SeFi cy qse qfo qro qra qvc qos qli se_8 fo ro ra vc os li)) 4 2 rfl rfl (by decide) (by decide) (by decide) (Nat.le_of_ble_eq_true rfl) (Nat.le_trans (m := 80) (by decide) (by simp only [rmD]; omega)) (by subst ese_8; rfl) dX5_lay_44 (fun H locs hP hD hS => ?_)
  simp only [Option.some.injEq, Prod.mk.injEq] at hp
  subst hp
  exact e_RV hx hb hr hk hP hD hS dX5_lay_47
set_option maxHeartbeats 4000000 in
set_option maxRecDepth 100000 in
theorem Se_lay_b59B_w (C0 : cX RX5 cX5_lay none 8 p s m args meth c) (hK : kN D cy s) {rec : Mem → Int32 → Int32 → Option (Mem)} {d0 : Nat} {qse qfo qro qra qvc qos qli : Nat → Nat} {fo ro ra vc os li : Mem} {p2 p3 : Int32} {se' : Mem} (hA : ∀ q, s.heap.size ≤ q → A q) (hrec : ∀ (sez sew : Mem) (z2 z3 : Int32), rec sez z2 z3 = some sew → RV l yX5_lay cX5_lay 8 (d0 + 1) D cy [.ref (qse 0), .ref (qfo 0), .int z2, .int z3] (w_SeFi cy qse qfo qro qra qvc qos qli sez fo ro ra vc os li) (w_SeFi cy qse qfo qro qra qvc qos qli sew fo ro ra vc os li)) {k59 : Mem → Int32 → Int32 → Option (Mem)} (hk59 : ∀ (se : Mem) (x4 x5 : Int32) (H : Heap) (locs : List Loc) (ls : Array Slot), va_P D vwCl (w_SeFi cy qse qfo qro qra qvc qos qli se fo ro ra vc os li) H → va_D A (w_SeFi cy qse qfo qro qra qvc qos qli se fo ro ra vc os li) → va_S A s.heap H locs → lv_has ls 8 [(0, .ref (qse 0)), (1, .ref (qfo 0)), (2, .int p2), (3, .int p3), (4, .int x4), (5, .int x5)] → k59 se x4 x5 = some se' → W p l e (rmD (d0 + 2)) s m args below meth c H locs 0 0 (qRV D below args s A (w_SeFi cy qse qfo qro qra qvc qos qli se' fo ro ra vc os li)) (F0 m 59 ls [])) {se : Mem} {x4 : Int32} {x5 : Int32} {H : Heap} {locs : List Loc} (hP : va_P D vwCl (w_SeFi cy qse qfo qro qra qvc qos qli se fo ro ra vc os li) H) (hD : va_D A (w_SeFi cy qse qfo qro qra qvc qos qli se fo ro ra vc os li)) (hS : va_S A s.heap H locs) {ls : Array Slot} (hl : lv_has ls 8 [(0, .ref (qse 0)), (1, .ref (qfo 0)), (2, .int p2), (3, .int p3), (4, .int x4), (5, .int x5)]) (hp : Se_lay_b59B rec fo ro p2 p3 k59 se x4 x5 = some se') : W p l e (rmD (d0 + 2)) s m args below meth c H locs 0 0 (qRV D below args s A (w_SeFi cy qse qfo qro qra qvc qos qli se' fo ro ra vc os li)) (F0 m 59 ls []) := by
  obtain ⟨hx, hb, hr, hml, hown, hts, hk⟩ := id C0
  unfold Se_lay_b59B at hp
  refine lv_iload hx hb dX5_lay_59 (lv_at hl 5 rfl) ?_
  refine lv_aload_n hx hb dX5_lay_61 rfl (lv_at hl 0 rfl) ?_
  refine gf_X5_24 hx hb hts hown hK hP 0 rfl rfl dX5_lay_62 ?_
  refine lv_icmp_ge (tgt := 170) hx hb dX5_lay_65 (by decide) (fun c_9 => ?_) (fun c_9 => ?_)
  · have hp := ite_p hp c_9
    simp only [Option.some.injEq, Prod.mk.injEq] at hp
    subst hp
    exact e_RV hx hb hr hk hP hD hS dX5_lay_170
  · have hp := ite_n hp c_9
    refine lv_iload hx hb dX5_lay_68 (lv_at hl 5 rfl) ?_
    refine lv_bipush (v := 6) hx hb dX5_lay_70 (by decide) ?_
    refine lv_icmp_ge (tgt := 170) hx hb dX5_lay_72 (by decide) (fun c_10 => ?_) (fun c_10 => ?_)
    · have hp := ite_p hp c_10
      simp only [Option.some.injEq, Prod.mk.injEq] at hp
      subst hp
      exact e_RV hx hb hr hk hP hD hS dX5_lay_170
    · have hp := ite_n hp c_10
      refine lv_iconst (v := 1) hx hb dX5_lay_75 (by decide) ?_
      refine lv_iload hx hb dX5_lay_76 (lv_at hl 5 rfl) ?_
      refine lv_ishl hx hb dX5_lay_78 ?_
      refine lv_topi (fun x6_11 ex6_11 => ?_)
      have hp := stk_e hp ex6_11
      refine lv_istore (lv' := [(6, .int x6_11), (0, .ref (qse 0)), (1, .ref (qfo 0)), (2, .int p2), (3, .int p3), (4, .int x4), (5, .int x5)]) hx hb dX5_lay_79 hl (by decide) rfl (fun ls hl => ?_)
      refine lv_aload_n hx hb dX5_lay_81 rfl (lv_at hl 1 rfl) ?_
      refine gf_X5_18 hx hb hts hown hK hP 0 rfl rfl dX5_lay_82 ?_
      refine lv_iload hx hb dX5_lay_85 (lv_at hl 6 rfl) ?_
      obtain ⟨hi_12, hp⟩ := ckI_s hp
      refine r_ild hx hb hK hP 3 rfl hi_12 dX5_lay_87 ?_
      refine lv_topi (fun x7_13 ex7_13 => ?_)
      have hp := stk_e hp ex7_13
      refine lv_istore (lv' := [(7, .int x7_13), (6, .int x6_11), (0, .ref (qse 0)), (1, .ref (qfo 0)), (2, .int p2), (3, .int p3), (4, .int x4), (5, .int x5)]) hx hb dX5_lay_88 hl (by decide) rfl (fun ls hl => ?_)
      refine lv_aload_n hx hb dX5_lay_90 rfl (lv_at hl 2 rfl) ?_
      refine gf_X5_28 hx hb hts hown hK hP 0 rfl rfl dX5_lay_91 ?_
      refine lv_iload hx hb dX5_lay_94 (lv_at hl 1 rfl) ?_
      refine lv_iand hx hb dX5_lay_96 ?_
      refine lv_if_ne (tgt := 164) hx hb dX5_lay_97 (by decide) (fun c_14 => ?_) (fun c_14 => ?_)
      · have hp := ite_n hp c_14
        obtain ⟨x5_15, ex5_15⟩ : ∃ y : Int32, y = x5 + 1 := ⟨_, rfl⟩
        have hp := stk_e hp ex5_15
        refine lv_iinc (v := x5_15) (lv' := [(5, .int x5_15), (7, .int x7_13), (6, .int x6_11), (0, .ref (qse 0)), (1, .ref (qfo 0)), (2, .int p2), (3, .int p3), (4, .int x4)]) hx hb dX5_lay_164 hl (k := 7) rfl (by rw [ex5_15]; rfl) (by decide) rfl (fun ls hl => ?_)
        refine lv_goto (tgt := 59) hx hb dX5_lay_167 (by decide) ?_
        exact hk59 se x4 x5_15 _ _ _ hP hD hS (lv_sub hl [3, 4, 5, 6, 7, 0] rfl) hp
      · have hp := ite_p hp c_14
        refine lv_iload hx hb dX5_lay_100 (lv_at hl 0 rfl) ?_
        refine lv_aload_n hx hb dX5_lay_102 rfl (lv_at hl 3 rfl) ?_
        refine lv_iload hx hb dX5_lay_103 (lv_at hl 6 rfl) ?_
        obtain ⟨r_17, hc_16, hp⟩ := bn1_s hp
        refine k_ROV (As := [.int x4]) (rest := [.int x7_13]) ⟨hx, hb, hml, hown, hts⟩ hK (hP.sub (ws' := (w_Fi cy qfo qro qra qvc qos qli fo ro ra vc os li)) [5, 6, 7, 8, 9, 10, 11, 12, 13, 14, 15, 16, 17, 18, 19, 20, 21, 22, 23, 24, 25, 26, 27] rfl) (cw_X5_71 hts ⟨by show _ ≤ _; simp only [rmD]; omega, by show _ ≤ _; simp only [rmD]; omega⟩) 0 (ci := 2) rfl rfl rfl (c_X2_earliest l D cy qfo qro qra qvc qos qli fo ro ra vc os li x4 r_17 hc_16) rfl hl.1 (Nat.le_of_ble_eq_true rfl) ⟨Nat.le_refl _, Nat.le_refl _⟩ dX5_lay_105 ?_
        refine lv_icmp_ge (tgt := 114) hx hb dX5_lay_108 (by decide) (fun c_18 => ?_) (fun c_18 => ?_)
        · have hp := ite_p hp c_18
          refine lv_aload_n hx hb dX5_lay_114 rfl (lv_at hl 2 rfl) ?_
          refine gf_X5_21 hx hb hts hown hK hP 0 rfl rfl dX5_lay_115 ?_
          refine lv_iload_n hx hb dX5_lay_118 rfl (lv_at hl 4 rfl) ?_
          refine lv_iload hx hb dX5_lay_119 (lv_at hl 0 rfl) ?_
          obtain ⟨hi_19, hp⟩ := ckI_s hp
          obtain ⟨se_20, ese_20⟩ : ∃ y : Mem, y = upm se 4 p2.toNatClampNeg x7_13 := ⟨_, rfl⟩
          have hp := stk_e hp ese_20
          refine r_ist hx hb hK hP hD hS (wn := (w_SeFi cy qse qfo qro qra qvc qos qli se_20 fo ro ra vc os li)) 4 rfl hi_19 (by subst ese_20; rfl) dX5_lay_121 (fun H locs hP hD hS => ?_)
          refine lv_aload_n hx hb dX5_lay_122 rfl (lv_at hl 2 rfl) ?_
          refine lv_dup hx hb dX5_lay_123 rfl ?_
          refine gf_X5_28 hx hb hts hown hK hP 0 rfl rfl dX5_lay_124 ?_
          refine lv_iload hx hb dX5_lay_127 (lv_at hl 1 rfl) ?_
          refine lv_ior hx hb dX5_lay_129 ?_
          obtain ⟨se_21, ese_21⟩ : ∃ y : Mem, y = upm se_20 5 0 ((se_20 5 0) ||| x6_11) := ⟨_, rfl⟩
          have hp := stk_e hp ese_21
          refine pf_X5_28 hx hb hts hown hK hP hD hS (wn := (w_SeFi cy qse qfo qro qra qvc qos qli se_21 fo ro ra vc os li)) 0 rfl (Nat.le_of_ble_eq_true rfl) (by subst ese_21; rfl) dX5_lay_130 (fun H locs hP hD hS => ?_)
          refine lv_aload_n hx hb dX5_lay_133 rfl (lv_at hl 2 rfl) ?_
          refine lv_aload_n hx hb dX5_lay_134 rfl (lv_at hl 3 rfl) ?_
          refine lv_iload_n hx hb dX5_lay_135 rfl (lv_at hl 4 rfl) ?_
          refine lv_iconst (v := 1) hx hb dX5_lay_136 (by decide) ?_
          refine lv_iadd hx hb dX5_lay_137 ?_
          refine lv_iload_n hx hb dX5_lay_138 rfl (lv_at hl 5 rfl) ?_
          refine lv_aload_n hx hb dX5_lay_139 rfl (lv_at hl 3 rfl) ?_
          refine lv_iload hx hb dX5_lay_140 (lv_at hl 6 rfl) ?_
          refine lv_iload hx hb dX5_lay_142 (lv_at hl 0 rfl) ?_
          obtain ⟨r_23, hc_22, hp⟩ := bn1_s hp
          refine k_ROV (As := [.int x4, .int x7_13]) (rest := [.int p3, .int (p2 + 1), .ref (qfo 0), .ref (qse 0)]) ⟨hx, hb, hml, hown, hts⟩ hK (hP.sub (ws' := (w_Fi cy qfo qro qra qvc qos qli fo ro ra vc os li)) [5, 6, 7, 8, 9, 10, 11, 12, 13, 14, 15, 16, 17, 18, 19, 20, 21, 22, 23, 24, 25, 26, 27] rfl) (cw_X5_74 hts ⟨by show _ ≤ _; simp only [rmD]; omega, by show _ ≤ _; simp only [rmD]; omega⟩) 0 (ci := 2) rfl rfl rfl (c_X2_costOnGround l D cy qfo qro qra qvc qos qli fo ro ra vc os li x4 x7_13 r_23 hc_22) rfl hl.1 (Nat.le_of_ble_eq_true rfl) ⟨Nat.le_refl _, Nat.le_refl _⟩ dX5_lay_144 ?_
          refine lv_iadd hx hb dX5_lay_147 ?_
          obtain ⟨se_25, hc_24, hp⟩ := bn1_s hp
          refine k_RVS (As := [.ref (qse 0), .ref (qfo 0), .int (p2 + 1), .int (p3 + r_23)]) (rest := []) ⟨hx, hb, hml, hown, hts⟩ hK hP hD hS hA FrS_rf (cw_X5_54 hts ⟨by show _ ≤ _; simp only [rmD]; omega, by show _ ≤ _; simp only [rmD]; omega⟩) (hrec se_21 se_25 (p2 + 1) (p3 + r_23) hc_24) rfl hl.1 (Nat.le_of_ble_eq_true rfl) ⟨Nat.le_refl _, Nat.le_refl _⟩ dX5_lay_148 (fun H locs hP hD hS => ?_)
          refine lv_aload_n hx hb dX5_lay_151 rfl (lv_at hl 2 rfl) ?_
          refine lv_dup hx hb dX5_lay_152 rfl ?_
          refine gf_X5_28 hx hb hts hown hK hP 0 rfl rfl dX5_lay_153 ?_
          refine lv_iload hx hb dX5_lay_156 (lv_at hl 1 rfl) ?_
          refine lv_iconst (v := (-1)) hx hb dX5_lay_158 (by decide) ?_
          refine lv_ixor hx hb dX5_lay_159 ?_
          refine lv_iand hx hb dX5_lay_160 ?_
          obtain ⟨se_26, ese_26⟩ : ∃ y : Mem, y = upm se_25 5 0 ((se_25 5 0) &&& (x6_11 ^^^ (-1))) := ⟨_, rfl⟩
          have hp := stk_e hp ese_26
          refine pf_X5_28 hx hb hts hown hK hP hD hS (wn := (w_SeFi cy qse qfo qro qra qvc qos qli se_26 fo ro ra vc os li)) 0 rfl (Nat.le_of_ble_eq_true rfl) (by subst ese_26; rfl) dX5_lay_161 (fun H locs hP hD hS => ?_)
          obtain ⟨x5_27, ex5_27⟩ : ∃ y : Int32, y = x5 + 1 := ⟨_, rfl⟩
          have hp := stk_e hp ex5_27
          refine lv_iinc (v := x5_27) (lv' := [(5, .int x5_27), (7, .int x7_13), (6, .int x6_11), (0, .ref (qse 0)), (1, .ref (qfo 0)), (2, .int p2), (3, .int p3), (4, .int x4)]) hx hb dX5_lay_164 hl (k := 7) rfl (by rw [ex5_27]; rfl) (by decide) rfl (fun ls hl => ?_)
          refine lv_goto (tgt := 59) hx hb dX5_lay_167 (by decide) ?_
          exact hk59 se_26 x4 x5_27 _ _ _ hP hD hS (lv_sub hl [3, 4, 5, 6, 7, 0] rfl) hp
        · have hp := ite_n hp c_18
          refine lv_goto (tgt := 164) hx hb dX5_lay_111 (by decide) ?_
          obtain ⟨x5_28, ex5_28⟩ : ∃ y : Int32, y = x5 + 1 := ⟨_, rfl⟩
          have hp := stk_e hp ex5_28
          refine lv_iinc (v := x5_28) (lv' := [(5, .int x5_28), (7, .int x7_13), (6, .int x6_11), (0, .ref (qse 0)), (1, .ref (qfo 0)), (2, .int p2), (3, .int p3), (4, .int x4)]) hx hb dX5_lay_164 hl (k := 7) rfl (by rw [ex5_28]; rfl) (by decide) rfl (fun ls hl => ?_)
          refine lv_goto (tgt := 59) hx hb dX5_lay_167 (by decide) ?_
          exact hk59 se x4 x5_28 _ _ _ hP hD hS (lv_sub hl [3, 4, 5, 6, 7, 0] rfl) hp
theorem Se_lay_b59_w (C0 : cX RX5 cX5_lay none 8 p s m args meth c) (hK : kN D cy s) {rec : Mem → Int32 → Int32 → Option (Mem)} {d0 : Nat} {qse qfo qro qra qvc qos qli : Nat → Nat} {fo ro ra vc os li : Mem} {p2 p3 : Int32} {se' : Mem} (hA : ∀ q, s.heap.size ≤ q → A q) (hrec : ∀ (sez sew : Mem) (z2 z3 : Int32), rec sez z2 z3 = some sew → RV l yX5_lay cX5_lay 8 (d0 + 1) D cy [.ref (qse 0), .ref (qfo 0), .int z2, .int z3] (w_SeFi cy qse qfo qro qra qvc qos qli sez fo ro ra vc os li) (w_SeFi cy qse qfo qro qra qvc qos qli sew fo ro ra vc os li)) : ∀ (n : Nat) (se : Mem) (x4 x5 : Int32) (H : Heap) (locs : List Loc) (ls : Array Slot), va_P D vwCl (w_SeFi cy qse qfo qro qra qvc qos qli se fo ro ra vc os li) H → va_D A (w_SeFi cy qse qfo qro qra qvc qos qli se fo ro ra vc os li) → va_S A s.heap H locs → lv_has ls 8 [(0, .ref (qse 0)), (1, .ref (qfo 0)), (2, .int p2), (3, .int p3), (4, .int x4), (5, .int x5)] → Se_lay_b59 rec fo ro p2 p3 n se x4 x5 = some se' → W p l e (rmD (d0 + 2)) s m args below meth c H locs 0 0 (qRV D below args s A (w_SeFi cy qse qfo qro qra qvc qos qli se' fo ro ra vc os li)) (F0 m 59 ls []) := by
  intro n
  induction n with
  | zero =>
    intro se x4 x5 H locs ls hP hD hS hl hp
    cases hp
  | succ n ih =>
    intro se x4 x5 H locs ls hP hD hS hl hp
    exact Se_lay_b59B_w C0 hK hA hrec  (fun se x4 x5 H locs ls hP hD hS hl hp => ih se x4 x5 H locs ls hP hD hS hl hp) hP hD hS hl hp
set_option maxHeartbeats 4000000 in
set_option maxRecDepth 100000 in
theorem c_X5_layB (l : Launch) (D : va_G) (cy : Nat → ClassId) (rec : Mem → Int32 → Int32 → Option (Mem)) (d0 : Nat) (qse qfo qro qra qvc qos qli : Nat → Nat) (se fo ro ra vc os li : Mem) (hrec : ∀ (sez sew : Mem) (z2 z3 : Int32), rec sez z2 z3 = some sew → RV l yX5_lay cX5_lay 8 (d0 + 1) D cy [.ref (qse 0), .ref (qfo 0), .int z2, .int z3] (w_SeFi cy qse qfo qro qra qvc qos qli sez fo ro ra vc os li) (w_SeFi cy qse qfo qro qra qvc qos qli sew fo ro ra vc os li)) (p2 p3 : Int32) (se' : Mem) (hp : Se_layB rec se fo ro p2 p3 = some se') : RV l yX5_lay cX5_lay 8 (d0 + 2) D cy [.ref (qse 0), .ref (qfo 0), .int p2, .int p3] (w_SeFi cy qse qfo qro qra qvc qos qli se fo ro ra vc os li) (w_SeFi cy qse qfo qro qra qvc qos qli se' fo ro ra vc os li) := by
  refine RV_of RX5 rfl (by decide) (Nat.le_of_ble_eq_true rfl) ?_
  intro p e s m below meth c A C0 hK hP hD hS hA ls hl
  obtain ⟨hx, hb, hr, hml, hown, hts, hk⟩ := id C0
  unfold Se_layB at hp
  have hl : lv_has ls 8 [(0, .ref (qse 0)), (1, .ref (qfo 0)), (2, .int p2), (3, .int p3)] := hl
  refine lv_iload_n hx hb dX5_lay_0 rfl (lv_at hl 3 rfl) ?_
  refine lv_aload_n hx hb dX5_lay_1 rfl (lv_at hl 0 rfl) ?_
  refine gf_X5_37 hx hb hts hown hK hP 0 rfl rfl dX5_lay_2 ?_
  refine lv_icmp_ge (tgt := 12) hx hb dX5_lay_5 (by decide) (fun c_1 => ?_) (fun c_1 => ?_)
  · have hp := ite_p hp c_1
    simp only [Option.some.injEq, Prod.mk.injEq] at hp
    subst hp
    exact e_RV hx hb hr hk hP hD hS dX5_lay_12
  · have hp := ite_n hp c_1
    refine lv_iload_n hx hb dX5_lay_8 rfl (lv_at hl 2 rfl) ?_
    refine lv_if_ge (tgt := 13) hx hb dX5_lay_9 (by decide) (fun c_2 => ?_) (fun c_2 => ?_)
    · have hp := ite_p hp c_2
      refine lv_iload_n hx hb dX5_lay_13 rfl (lv_at hl 2 rfl) ?_
      refine lv_aload_n hx hb dX5_lay_14 rfl (lv_at hl 0 rfl) ?_
      refine gf_X5_24 hx hb hts hown hK hP 0 rfl rfl dX5_lay_15 ?_
      refine lv_icmp_ge (tgt := 27) hx hb dX5_lay_18 (by decide) (fun c_3 => ?_) (fun c_3 => ?_)
      · have hp := ite_p hp c_3
        exact Se_lay_b27_w C0 hK hA hrec  hP hD hS hl hp
      · have hp := ite_n hp c_3
        refine lv_iload_n hx hb dX5_lay_21 rfl (lv_at hl 2 rfl) ?_
        refine lv_bipush (v := 6) hx hb dX5_lay_22 (by decide) ?_
        refine lv_icmp_lt (tgt := 48) hx hb dX5_lay_24 (by decide) (fun c_4 => ?_) (fun c_4 => ?_)
        · have hp := ite_p hp c_4
          refine lv_aload_n hx hb dX5_lay_48 rfl (lv_at hl 0 rfl) ?_
          refine gf_X5_11 hx hb hts hown hK hP 0 rfl rfl dX5_lay_49 ?_
          refine lv_iload_n hx hb dX5_lay_52 rfl (lv_at hl 2 rfl) ?_
          obtain ⟨hi_5, hp⟩ := ckI_s hp
          refine r_ild hx hb hK hP 1 rfl hi_5 dX5_lay_53 ?_
          refine lv_topi (fun x4_6 ex4_6 => ?_)
          have hp := stk_e hp ex4_6
          refine lv_istore (lv' := [(4, .int x4_6), (0, .ref (qse 0)), (1, .ref (qfo 0)), (2, .int p2), (3, .int p3)]) hx hb dX5_lay_54 hl (by decide) rfl (fun ls hl => ?_)
          refine lv_iconst (v := 0) hx hb dX5_lay_56 (by decide) ?_
          refine lv_istore (lv' := [(5, .int 0), (4, .int x4_6), (0, .ref (qse 0)), (1, .ref (qfo 0)), (2, .int p2), (3, .int p3)]) hx hb dX5_lay_57 hl (by decide) rfl (fun ls hl => ?_)
          exact Se_lay_b59_w C0 hK hA hrec  fl se x4_6 0 _ _ _ hP hD hS (lv_sub hl [2, 3, 4, 5, 1, 0] rfl) hp
        · have hp := ite_n hp c_4
          exact Se_lay_b27_w C0 hK hA hrec  hP hD hS hl hp
    · have hp := ite_n hp c_2
      simp only [Option.some.injEq, Prod.mk.injEq] at hp
      subst hp
      exact e_RV hx hb hr hk hP hD hS dX5_lay_12
def Se_layN (fo ro : Mem) : Nat → Mem → Int32 → Int32 → Option (Mem)
  | 0 => fun _ _ _ => none
  | n + 1 => fun se p2 p3 => Se_layB (Se_layN fo ro n) se fo ro p2 p3
def Se_lay (se : Mem) (fo : Mem) (ro : Mem) (p2 : Int32) (p3 : Int32) : Option (Mem) := Se_layN fo ro 8 se p2 p3
theorem c_X5_layN (l : Launch) (D : va_G) (cy : Nat → ClassId) (qse qfo qro qra qvc qos qli : Nat → Nat) (fo ro ra vc os li : Mem) : ∀ (n : Nat) (se se' : Mem) (p2 p3 : Int32), Se_layN fo ro n se p2 p3 = some se' → RV l yX5_lay cX5_lay 8 (n + 1) D cy [.ref (qse 0), .ref (qfo 0), .int p2, .int p3] (w_SeFi cy qse qfo qro qra qvc qos qli se fo ro ra vc os li) (w_SeFi cy qse qfo qro qra qvc qos qli se' fo ro ra vc os li) := by
  intro n
  induction n with
  | zero => intro se se' p2 p3 hp; cases hp
  | succ n ih =>
    intro se se' p2 p3 hp
    exact c_X5_layB l D cy _ n qse qfo qro qra qvc qos qli se fo ro ra vc os li (fun a b x y h => ih a b x y h) p2 p3 se' hp
theorem c_X5_lay (l : Launch) (D : va_G) (cy : Nat → ClassId) (qse qfo qro qra qvc qos qli : Nat → Nat) (se fo ro ra vc os li : Mem) (p2 p3 : Int32) (se' : Mem) (hp : Se_lay se fo ro p2 p3 = some se') : RV l yX5_lay cX5_lay 8 9 D cy [.ref (qse 0), .ref (qfo 0), .int p2, .int p3] (w_SeFi cy qse qfo qro qra qvc qos qli se fo ro ra vc os li) (w_SeFi cy qse qfo qro qra qvc qos qli se' fo ro ra vc os li) := c_X5_layN l D cy qse qfo qro qra qvc qos qli fo ro ra vc os li 8 se se' p2 p3 hp
/-! StormSlots$OrderSearch.solve(LStormSlots$Field;I)V -/
def Se_solve_b23B (fo : Mem) (ro : Mem) (p2 : Int32) (k23 : Mem → Int32 → Option (Mem)) (se : Mem) (x3 : Int32) : Option (Mem) :=
  if 20 ≤ x3 then bn1 (Se_lay se fo ro 0 0) (fun se_7 => some se_7) else bn1 (Fi_isOf ro x3 p2) (fun r_9 => if r_9 = 0 then stk (x3 + 1) (fun x3_11 => k23 se x3_11) else bn1 (Fi_isGrounded fo ro x3) (fun r_13 => if r_13 = 0 then stk (x3 + 1) (fun x3_15 => k23 se x3_15) else bn1 (Se_gather se fo ro x3) (fun se_17 => stk (x3 + 1) (fun x3_18 => k23 se_17 x3_18))))
def Se_solve_b23 (fo : Mem) (ro : Mem) (p2 : Int32) : Nat → Mem → Int32 → Option (Mem)
  | 0 => fun _ _ => none
  | n + 1 => Se_solve_b23B fo ro p2 (Se_solve_b23 fo ro p2 n)
def Se_solve (se : Mem) (fo : Mem) (ro : Mem) (p2 : Int32) : Option (Mem) :=
  stk (upm se 2 0 0) (fun se_1 => stk (upm se_1 5 0 0) (fun se_2 => stk (upm se_2 6 0 0) (fun se_3 => stk (upm se_3 7 0 2147483647) (fun se_4 => Se_solve_b23 fo ro p2 fl se_4 0))))
set_option maxHeartbeats 4000000 in
set_option maxRecDepth 100000 in
theorem Se_solve_b23B_w (C0 : cX RX5 cX5_solve none 4 p s m args meth c) (hK : kN D cy s) {qse qfo qro qra qvc qos qli : Nat → Nat} {fo ro ra vc os li : Mem} {p2 : Int32} {se' : Mem} (hA : ∀ q, s.heap.size ≤ q → A q) {k23 : Mem → Int32 → Option (Mem)} (hk23 : ∀ (se : Mem) (x3 : Int32) (H : Heap) (locs : List Loc) (ls : Array Slot), va_P D vwCl (w_SeFi cy qse qfo qro qra qvc qos qli se fo ro ra vc os li) H → va_D A (w_SeFi cy qse qfo qro qra qvc qos qli se fo ro ra vc os li) → va_S A s.heap H locs → lv_has ls 4 [(0, .ref (qse 0)), (1, .ref (qfo 0)), (2, .int p2), (3, .int x3)] → k23 se x3 = some se' → W p l e (rmD 13) s m args below meth c H locs 0 0 (qRV D below args s A (w_SeFi cy qse qfo qro qra qvc qos qli se' fo ro ra vc os li)) (F0 m 23 ls [])) {se : Mem} {x3 : Int32} {H : Heap} {locs : List Loc} (hP : va_P D vwCl (w_SeFi cy qse qfo qro qra qvc qos qli se fo ro ra vc os li) H) (hD : va_D A (w_SeFi cy qse qfo qro qra qvc qos qli se fo ro ra vc os li)) (hS : va_S A s.heap H locs) {ls : Array Slot} (hl : lv_has ls 4 [(0, .ref (qse 0)), (1, .ref (qfo 0)), (2, .int p2), (3, .int x3)]) (hp : Se_solve_b23B fo ro p2 k23 se x3 = some se') : W p l e (rmD 13) s m args below meth c H locs 0 0 (qRV D below args s A (w_SeFi cy qse qfo qro qra qvc qos qli se' fo ro ra vc os li)) (F0 m 23 ls []) := by
  obtain ⟨hx, hb, hr, hml, hown, hts, hk⟩ := id C0
  unfold Se_solve_b23B at hp
  refine lv_iload_n hx hb dX5_solve_23 rfl (lv_at hl 3 rfl) ?_
  refine lv_bipush (v := 20) hx hb dX5_solve_24 (by decide) ?_
  refine lv_icmp_ge (tgt := 58) hx hb dX5_solve_26 (by decide) (fun c_5 => ?_) (fun c_5 => ?_)
  · have hp := ite_p hp c_5
    refine lv_aload_n hx hb dX5_solve_58 rfl (lv_at hl 0 rfl) ?_
    refine lv_aload_n hx hb dX5_solve_59 rfl (lv_at hl 1 rfl) ?_
    refine lv_iconst (v := 0) hx hb dX5_solve_60 (by decide) ?_
    refine lv_iconst (v := 0) hx hb dX5_solve_61 (by decide) ?_
    obtain ⟨se_7, hc_6, hp⟩ := bn1_s hp
    refine k_RVS (As := [.ref (qse 0), .ref (qfo 0), .int 0, .int 0]) (rest := []) ⟨hx, hb, hml, hown, hts⟩ hK hP hD hS hA FrS_rf (cw_X5_54 hts ⟨Nat.le_of_ble_eq_true rfl, Nat.le_of_ble_eq_true rfl⟩) (c_X5_lay l D cy qse qfo qro qra qvc qos qli se fo ro ra vc os li 0 0 se_7 hc_6) rfl hl.1 (Nat.le_of_ble_eq_true rfl) ⟨Nat.le_refl _, Nat.le_refl _⟩ dX5_solve_62 (fun H locs hP hD hS => ?_)
    simp only [Option.some.injEq, Prod.mk.injEq] at hp
    subst hp
    exact e_RV hx hb hr hk hP hD hS dX5_solve_65
  · have hp := ite_n hp c_5
    refine lv_aload_n hx hb dX5_solve_29 rfl (lv_at hl 1 rfl) ?_
    refine lv_iload_n hx hb dX5_solve_30 rfl (lv_at hl 3 rfl) ?_
    refine lv_iload_n hx hb dX5_solve_31 rfl (lv_at hl 2 rfl) ?_
    obtain ⟨r_9, hc_8, hp⟩ := bn1_s hp
    refine k_ROV (As := [.int x3, .int p2]) (rest := []) ⟨hx, hb, hml, hown, hts⟩ hK (hP.sub (ws' := (w_Fi cy qfo qro qra qvc qos qli fo ro ra vc os li)) [5, 6, 7, 8, 9, 10, 11, 12, 13, 14, 15, 16, 17, 18, 19, 20, 21, 22, 23, 24, 25, 26, 27] rfl) (cw_X5_40 hts ⟨Nat.le_of_ble_eq_true rfl, Nat.le_of_ble_eq_true rfl⟩) 0 (ci := 2) rfl rfl rfl (c_X2_isOf l D cy qfo qro qra qvc qos qli fo ro ra vc os li x3 p2 r_9 hc_8) rfl hl.1 (Nat.le_of_ble_eq_true rfl) ⟨Nat.le_refl _, Nat.le_refl _⟩ dX5_solve_32 ?_
    refine lv_if_eq (tgt := 52) hx hb dX5_solve_35 (by decide) (fun c_10 => ?_) (fun c_10 => ?_)
    · have hp := ite_p hp c_10
      obtain ⟨x3_11, ex3_11⟩ : ∃ y : Int32, y = x3 + 1 := ⟨_, rfl⟩
      have hp := stk_e hp ex3_11
      refine lv_iinc (v := x3_11) (lv' := [(3, .int x3_11), (0, .ref (qse 0)), (1, .ref (qfo 0)), (2, .int p2)]) hx hb dX5_solve_52 hl (k := 3) rfl (by rw [ex3_11]; rfl) (by decide) rfl (fun ls hl => ?_)
      refine lv_goto (tgt := 23) hx hb dX5_solve_55 (by decide) ?_
      exact hk23 se x3_11 _ _ _ hP hD hS (lv_sub hl [1, 2, 3, 0] rfl) hp
    · have hp := ite_n hp c_10
      refine lv_aload_n hx hb dX5_solve_38 rfl (lv_at hl 1 rfl) ?_
      refine lv_iload_n hx hb dX5_solve_39 rfl (lv_at hl 3 rfl) ?_
      obtain ⟨r_13, hc_12, hp⟩ := bn1_s hp
      refine k_ROV (As := [.int x3]) (rest := []) ⟨hx, hb, hml, hown, hts⟩ hK (hP.sub (ws' := (w_Fi cy qfo qro qra qvc qos qli fo ro ra vc os li)) [5, 6, 7, 8, 9, 10, 11, 12, 13, 14, 15, 16, 17, 18, 19, 20, 21, 22, 23, 24, 25, 26, 27] rfl) (cw_X5_46 hts ⟨Nat.le_of_ble_eq_true rfl, Nat.le_of_ble_eq_true rfl⟩) 0 (ci := 2) rfl rfl rfl (c_X2_isGrounded l D cy qfo qro qra qvc qos qli fo ro ra vc os li x3 r_13 hc_12) rfl hl.1 (Nat.le_of_ble_eq_true rfl) ⟨Nat.le_refl _, Nat.le_refl _⟩ dX5_solve_40 ?_
      refine lv_if_eq (tgt := 52) hx hb dX5_solve_43 (by decide) (fun c_14 => ?_) (fun c_14 => ?_)
      · have hp := ite_p hp c_14
        obtain ⟨x3_15, ex3_15⟩ : ∃ y : Int32, y = x3 + 1 := ⟨_, rfl⟩
        have hp := stk_e hp ex3_15
        refine lv_iinc (v := x3_15) (lv' := [(3, .int x3_15), (0, .ref (qse 0)), (1, .ref (qfo 0)), (2, .int p2)]) hx hb dX5_solve_52 hl (k := 3) rfl (by rw [ex3_15]; rfl) (by decide) rfl (fun ls hl => ?_)
        refine lv_goto (tgt := 23) hx hb dX5_solve_55 (by decide) ?_
        exact hk23 se x3_15 _ _ _ hP hD hS (lv_sub hl [1, 2, 3, 0] rfl) hp
      · have hp := ite_n hp c_14
        refine lv_aload_n hx hb dX5_solve_46 rfl (lv_at hl 0 rfl) ?_
        refine lv_aload_n hx hb dX5_solve_47 rfl (lv_at hl 1 rfl) ?_
        refine lv_iload_n hx hb dX5_solve_48 rfl (lv_at hl 3 rfl) ?_
        obtain ⟨se_17, hc_16, hp⟩ := bn1_s hp
        refine k_RVV (As := [.ref (qfo 0), .int x3]) (rest := []) ⟨hx, hb, hml, hown, hts⟩ hK hP hD hS hA FrS_rf (cw_X5_50 hts ⟨Nat.le_of_ble_eq_true rfl, Nat.le_of_ble_eq_true rfl⟩) 0 (ci := 5) rfl rfl rfl (c_X5_gather l D cy qse qfo qro qra qvc qos qli se fo ro ra vc os li x3 se_17 hc_16) rfl hl.1 (Nat.le_of_ble_eq_true rfl) ⟨Nat.le_refl _, Nat.le_refl _⟩ dX5_solve_49 (fun H locs hP hD hS => ?_)
        obtain ⟨x3_18, ex3_18⟩ : ∃ y : Int32, y = x3 + 1 := ⟨_, rfl⟩
        have hp := stk_e hp ex3_18
        refine lv_iinc (v := x3_18) (lv' := [(3, .int x3_18), (0, .ref (qse 0)), (1, .ref (qfo 0)), (2, .int p2)]) hx hb dX5_solve_52 hl (k := 3) rfl (by rw [ex3_18]; rfl) (by decide) rfl (fun ls hl => ?_)
        refine lv_goto (tgt := 23) hx hb dX5_solve_55 (by decide) ?_
        exact hk23 se_17 x3_18 _ _ _ hP hD hS (lv_sub hl [1, 2, 3, 0] rfl) hp
theorem Se_solve_b23_w (C0 : cX RX5 cX5_solve none 4 p s m args meth c) (hK : kN D cy s) {qse qfo qro qra qvc qos qli : Nat → Nat} {fo ro ra vc os li : Mem} {p2 : Int32} {se' : Mem} (hA : ∀ q, s.heap.size ≤ q → A q) : ∀ (n : Nat) (se : Mem) (x3 : Int32) (H : Heap) (locs : List Loc) (ls : Array Slot), va_P D vwCl (w_SeFi cy qse qfo qro qra qvc qos qli se fo ro ra vc os li) H → va_D A (w_SeFi cy qse qfo qro qra qvc qos qli se fo ro ra vc os li) → va_S A s.heap H locs → lv_has ls 4 [(0, .ref (qse 0)), (1, .ref (qfo 0)), (2, .int p2), (3, .int x3)] → Se_solve_b23 fo ro p2 n se x3 = some se' → W p l e (rmD 13) s m args below meth c H locs 0 0 (qRV D below args s A (w_SeFi cy qse qfo qro qra qvc qos qli se' fo ro ra vc os li)) (F0 m 23 ls []) := by
  intro n
  induction n with
  | zero =>
    intro se x3 H locs ls hP hD hS hl hp
    cases hp
  | succ n ih =>
    intro se x3 H locs ls hP hD hS hl hp
    exact Se_solve_b23B_w C0 hK hA  (fun se x3 H locs ls hP hD hS hl hp => ih se x3 H locs ls hP hD hS hl hp) hP hD hS hl hp
set_option maxHeartbeats 4000000 in
set_option maxRecDepth 100000 in
theorem c_X5_solve (l : Launch) (D : va_G) (cy : Nat → ClassId) (qse qfo qro qra qvc qos qli : Nat → Nat) (se fo ro ra vc os li : Mem) (p2 : Int32) (se' : Mem) (hp : Se_solve se fo ro p2 = some se') : RV l yX5_solve cX5_solve 4 13 D cy [.ref (qse 0), .ref (qfo 0), .int p2] (w_SeFi cy qse qfo qro qra qvc qos qli se fo ro ra vc os li) (w_SeFi cy qse qfo qro qra qvc qos qli se' fo ro ra vc os li) := by
  refine RV_of RX5 rfl (by decide) (Nat.le_of_ble_eq_true rfl) ?_
  intro p e s m below meth c A C0 hK hP hD hS hA ls hl
  obtain ⟨hx, hb, hr, hml, hown, hts, hk⟩ := id C0
  unfold Se_solve at hp
  have hl : lv_has ls 4 [(0, .ref (qse 0)), (1, .ref (qfo 0)), (2, .int p2)] := hl
  refine lv_aload_n hx hb dX5_solve_0 rfl (lv_at hl 0 rfl) ?_
  refine lv_iconst (v := 0) hx hb dX5_solve_1 (by decide) ?_
  obtain ⟨se_1, ese_1⟩ : ∃ y : Mem, y = upm se 2 0 0 := ⟨_, rfl⟩
  have hp := stk_e hp ese_1
  refine pf_X5_24 hx hb hts hown hK hP hD hS (wn := (w_SeFi cy qse qfo qro qra qvc qos qli se_1 fo ro ra vc os li)) 0 rfl (Nat.le_of_ble_eq_true rfl) (by subst ese_1; rfl) dX5_solve_2 (fun H locs hP hD hS => ?_)
  refine lv_aload_n hx hb dX5_solve_5 rfl (lv_at hl 0 rfl) ?_
  refine lv_iconst (v := 0) hx hb dX5_solve_6 (by decide) ?_
  obtain ⟨se_2, ese_2⟩ : ∃ y : Mem, y = upm se_1 5 0 0 := ⟨_, rfl⟩
  have hp := stk_e hp ese_2
  refine pf_X5_28 hx hb hts hown hK hP hD hS (wn := (w_SeFi cy qse qfo qro qra qvc qos qli se_2 fo ro ra vc os li)) 0 rfl (Nat.le_of_ble_eq_true rfl) (by subst ese_2; rfl) dX5_solve_7 (fun H locs hP hD hS => ?_)
  refine lv_aload_n hx hb dX5_solve_10 rfl (lv_at hl 0 rfl) ?_
  refine lv_iconst (v := 0) hx hb dX5_solve_11 (by decide) ?_
  obtain ⟨se_3, ese_3⟩ : ∃ y : Mem, y = upm se_2 6 0 0 := ⟨_, rfl⟩
  have hp := stk_e hp ese_3
  refine pf_X5_31 hx hb hts hown hK hP hD hS (wn := (w_SeFi cy qse qfo qro qra qvc qos qli se_3 fo ro ra vc os li)) 0 rfl (Nat.le_of_ble_eq_true rfl) (by subst ese_3; rfl) dX5_solve_12 (fun H locs hP hD hS => ?_)
  refine lv_aload_n hx hb dX5_solve_15 rfl (lv_at hl 0 rfl) ?_
  refine lc_X5_36 hx hb hts hown dX5_solve_16 ?_
  obtain ⟨se_4, ese_4⟩ : ∃ y : Mem, y = upm se_3 7 0 2147483647 := ⟨_, rfl⟩
  have hp := stk_e hp ese_4
  refine pf_X5_37 hx hb hts hown hK hP hD hS (wn := (w_SeFi cy qse qfo qro qra qvc qos qli se_4 fo ro ra vc os li)) 0 rfl (Nat.le_of_ble_eq_true rfl) (by subst ese_4; rfl) dX5_solve_18 (fun H locs hP hD hS => ?_)
  refine lv_iconst (v := 0) hx hb dX5_solve_21 (by decide) ?_
  refine lv_istore_n (lv' := [(3, .int 0), (0, .ref (qse 0)), (1, .ref (qfo 0)), (2, .int p2)]) hx hb dX5_solve_22 rfl hl (by decide) rfl (fun ls hl => ?_)
  exact Se_solve_b23_w C0 hK hA  fl se_4 0 _ _ _ hP hD hS (lv_sub hl [1, 2, 3, 0] rfl) hp
/-! StormSlots$OrderSearch.gain()I -/
def Se_gain (se : Mem) : Option (Int32) :=
  some ((se 6 0) - (se 7 0))
set_option maxHeartbeats 4000000 in
set_option maxRecDepth 100000 in
theorem c_X5_gain (l : Launch) (D : va_G) (cy : Nat → ClassId) (qse : Nat → Nat) (se : Mem) (r : Int32) (hp : Se_gain se = some r) : RO l yX5_gain cX5_gain 1 (some .int) 0 D cy [.ref (qse 0)] (w_Se cy qse se) r := by
  refine RO_of RX5 rfl (by decide) (Nat.le_of_ble_eq_true rfl) ?_
  intro p e s m below meth c C0 hK hP ls hl
  obtain ⟨hx, hb, hr, hml, hown, hts, hk⟩ := id C0
  unfold Se_gain at hp
  have hl : lv_has ls 1 [(0, .ref (qse 0))] := hl
  refine lv_aload_n hx hb dX5_gain_0 rfl (lv_at hl 0 rfl) ?_
  refine gf_X5_31 hx hb hts hown hK hP 0 rfl rfl dX5_gain_1 ?_
  refine lv_aload_n hx hb dX5_gain_4 rfl (lv_at hl 0 rfl) ?_
  refine gf_X5_37 hx hb hts hown hK hP 0 rfl rfl dX5_gain_5 ?_
  refine lv_isub hx hb dX5_gain_8 ?_
  exact e_ROi hx hb hr hk dX5_gain_9 (Option.some.inj hp)
/-! StormSlots$OrderSearch.minuteFor(I)I -/
def Se_minuteFor_b2B (se : Mem) (p1 : Int32) (k2 : Int32 → Option (Int32)) (x2 : Int32) : Option (Int32) :=
  if (se 2 0) ≤ x2 then some (-1) else if 6 ≤ x2 then some (-1) else ckI x2 6 (if (se 0 x2.toNatClampNeg) = p1 then some (se 1 x2.toNatClampNeg) else stk (x2 + 1) (fun x2_5 => k2 x2_5))
def Se_minuteFor_b2 (se : Mem) (p1 : Int32) : Nat → Int32 → Option (Int32)
  | 0 => fun _ => none
  | n + 1 => Se_minuteFor_b2B se p1 (Se_minuteFor_b2 se p1 n)
def Se_minuteFor (se : Mem) (p1 : Int32) : Option (Int32) :=
  Se_minuteFor_b2 se p1 fl 0
set_option maxHeartbeats 4000000 in
set_option maxRecDepth 100000 in
theorem Se_minuteFor_b2B_w (C0 : cX RX5 cX5_minuteFor (some .int) 3 p s m args meth c) (hK : kN D cy s) {qse : Nat → Nat} {se : Mem} {p1 : Int32} {r : Int32} (hP : va_P D vwCl (w_Se cy qse se) s.heap) {k2 : Int32 → Option (Int32)} (hk2 : ∀ (x2 : Int32) (ls : Array Slot), lv_has ls 3 [(0, .ref (qse 0)), (1, .int p1), (2, .int x2)] → k2 x2 = some r → W p l e (rmD 0) s m args below meth c s.heap [] 0 0 (qRO below args s r) (F0 m 2 ls [])) {x2 : Int32} {ls : Array Slot} (hl : lv_has ls 3 [(0, .ref (qse 0)), (1, .int p1), (2, .int x2)]) (hp : Se_minuteFor_b2B se p1 k2 x2 = some r) : W p l e (rmD 0) s m args below meth c s.heap [] 0 0 (qRO below args s r) (F0 m 2 ls []) := by
  obtain ⟨hx, hb, hr, hml, hown, hts, hk⟩ := id C0
  unfold Se_minuteFor_b2B at hp
  refine lv_iload_n hx hb dX5_minuteFor_2 rfl (lv_at hl 2 rfl) ?_
  refine lv_aload_n hx hb dX5_minuteFor_3 rfl (lv_at hl 0 rfl) ?_
  refine gf_X5_24 hx hb hts hown hK hP 0 rfl rfl dX5_minuteFor_4 ?_
  refine lv_icmp_ge (tgt := 39) hx hb dX5_minuteFor_7 (by decide) (fun c_1 => ?_) (fun c_1 => ?_)
  · have hp := ite_p hp c_1
    refine lv_iconst (v := (-1)) hx hb dX5_minuteFor_39 (by decide) ?_
    exact e_ROi hx hb hr hk dX5_minuteFor_40 (Option.some.inj hp)
  · have hp := ite_n hp c_1
    refine lv_iload_n hx hb dX5_minuteFor_10 rfl (lv_at hl 2 rfl) ?_
    refine lv_bipush (v := 6) hx hb dX5_minuteFor_11 (by decide) ?_
    refine lv_icmp_ge (tgt := 39) hx hb dX5_minuteFor_13 (by decide) (fun c_2 => ?_) (fun c_2 => ?_)
    · have hp := ite_p hp c_2
      refine lv_iconst (v := (-1)) hx hb dX5_minuteFor_39 (by decide) ?_
      exact e_ROi hx hb hr hk dX5_minuteFor_40 (Option.some.inj hp)
    · have hp := ite_n hp c_2
      refine lv_aload_n hx hb dX5_minuteFor_16 rfl (lv_at hl 0 rfl) ?_
      refine gf_X5_11 hx hb hts hown hK hP 0 rfl rfl dX5_minuteFor_17 ?_
      refine lv_iload_n hx hb dX5_minuteFor_20 rfl (lv_at hl 2 rfl) ?_
      obtain ⟨hi_3, hp⟩ := ckI_s hp
      refine r_ild hx hb hK hP 1 rfl hi_3 dX5_minuteFor_21 ?_
      refine lv_iload_n hx hb dX5_minuteFor_22 rfl (lv_at hl 1 rfl) ?_
      refine lv_icmp_ne (tgt := 33) hx hb dX5_minuteFor_23 (by decide) (fun c_4 => ?_) (fun c_4 => ?_)
      · have hp := ite_n hp c_4
        obtain ⟨x2_5, ex2_5⟩ : ∃ y : Int32, y = x2 + 1 := ⟨_, rfl⟩
        have hp := stk_e hp ex2_5
        refine lv_iinc (v := x2_5) (lv' := [(2, .int x2_5), (0, .ref (qse 0)), (1, .int p1)]) hx hb dX5_minuteFor_33 hl (k := 2) rfl (by rw [ex2_5]; rfl) (by decide) rfl (fun ls hl => ?_)
        refine lv_goto (tgt := 2) hx hb dX5_minuteFor_36 (by decide) ?_
        exact hk2 x2_5 _ (lv_sub hl [1, 2, 0] rfl) hp
      · have hp := ite_p hp c_4
        refine lv_aload_n hx hb dX5_minuteFor_26 rfl (lv_at hl 0 rfl) ?_
        refine gf_X5_15 hx hb hts hown hK hP 0 rfl rfl dX5_minuteFor_27 ?_
        refine lv_iload_n hx hb dX5_minuteFor_30 rfl (lv_at hl 2 rfl) ?_
        refine r_ild hx hb hK hP 2 rfl hi_3 dX5_minuteFor_31 ?_
        exact e_ROi hx hb hr hk dX5_minuteFor_32 (Option.some.inj hp)
theorem Se_minuteFor_b2_w (C0 : cX RX5 cX5_minuteFor (some .int) 3 p s m args meth c) (hK : kN D cy s) {qse : Nat → Nat} {se : Mem} {p1 : Int32} {r : Int32} (hP : va_P D vwCl (w_Se cy qse se) s.heap) : ∀ (n : Nat) (x2 : Int32) (ls : Array Slot), lv_has ls 3 [(0, .ref (qse 0)), (1, .int p1), (2, .int x2)] → Se_minuteFor_b2 se p1 n x2 = some r → W p l e (rmD 0) s m args below meth c s.heap [] 0 0 (qRO below args s r) (F0 m 2 ls []) := by
  intro n
  induction n with
  | zero =>
    intro x2 ls hl hp
    cases hp
  | succ n ih =>
    intro x2 ls hl hp
    exact Se_minuteFor_b2B_w C0 hK hP  (fun x2 ls hl hp => ih x2 ls hl hp) hl hp
set_option maxHeartbeats 4000000 in
set_option maxRecDepth 100000 in
theorem c_X5_minuteFor (l : Launch) (D : va_G) (cy : Nat → ClassId) (qse : Nat → Nat) (se : Mem) (p1 : Int32) (r : Int32) (hp : Se_minuteFor se p1 = some r) : RO l yX5_minuteFor cX5_minuteFor 3 (some .int) 0 D cy [.ref (qse 0), .int p1] (w_Se cy qse se) r := by
  refine RO_of RX5 rfl (by decide) (Nat.le_of_ble_eq_true rfl) ?_
  intro p e s m below meth c C0 hK hP ls hl
  obtain ⟨hx, hb, hr, hml, hown, hts, hk⟩ := id C0
  unfold Se_minuteFor at hp
  have hl : lv_has ls 3 [(0, .ref (qse 0)), (1, .int p1)] := hl
  refine lv_iconst (v := 0) hx hb dX5_minuteFor_0 (by decide) ?_
  refine lv_istore_n (lv' := [(2, .int 0), (0, .ref (qse 0)), (1, .int p1)]) hx hb dX5_minuteFor_1 rfl hl (by decide) rfl (fun ls hl => ?_)
  exact Se_minuteFor_b2_w C0 hK hP  fl 0 _ (lv_sub hl [1, 2, 0] rfl) hp
/-! StormSlots$Planner.enqueue(II)V -/
def Pl_enqueue_b69 (p1 : Int32) (p2 : Int32) (pn : Mem) (x3 : Int32) (x4 : Int32) : Option (Mem) :=
  ckI x4 20 (stk (upm pn 0 x4.toNatClampNeg x3) (fun pn_12 => stk (upm pn_12 1 0 ((pn_12 1 0) + 1)) (fun pn_13 => some pn_13)))
def Pl_enqueue_b29B (p1 : Int32) (p2 : Int32) (k29 : Mem → Int32 → Int32 → Option (Mem)) (pn : Mem) (x3 : Int32) (x4 : Int32) : Option (Mem) :=
  if x4 ≤ 0 then Pl_enqueue_b69 p1 p2 pn x3 x4 else ckI (x4 - 1) 20 (if (pn 0 (x4 - 1).toNatClampNeg) ≤ x3 then Pl_enqueue_b69 p1 p2 pn x3 x4 else ckI x4 20 (stk (upm pn 0 x4.toNatClampNeg (pn 0 (x4 - 1).toNatClampNeg)) (fun pn_9 => stk (x4 + (-1)) (fun x4_10 => k29 pn_9 x3 x4_10))))
def Pl_enqueue_b29 (p1 : Int32) (p2 : Int32) : Nat → Mem → Int32 → Int32 → Option (Mem)
  | 0 => fun _ _ _ => none
  | n + 1 => Pl_enqueue_b29B p1 p2 (Pl_enqueue_b29 p1 p2 n)
def Pl_enqueue (pn : Mem) (p1 : Int32) (p2 : Int32) : Option (Mem) :=
  if (pn 1 0) < 0 then some pn else if (pn 1 0) < 20 then stk ((p1 <<< (5 &&& 31)) + p2) (fun x3_3 => stk (pn 1 0) (fun x4_4 => Pl_enqueue_b29 p1 p2 fl pn x3_3 x4_4)) else some pn
set_option maxHeartbeats 4000000 in
set_option maxRecDepth 100000 in
theorem Pl_enqueue_b69_w (C0 : cX RX6 cX6_enqueue none 5 p s m args meth c) (hK : kN D cy s) {qpn : Nat → Nat} {p1 p2 : Int32} {pn' : Mem} (hA : ∀ q, s.heap.size ≤ q → A q) {pn : Mem} {x3 : Int32} {x4 : Int32} {H : Heap} {locs : List Loc} (hP : va_P D vwCl (w_Pl cy qpn pn) H) (hD : va_D A (w_Pl cy qpn pn)) (hS : va_S A s.heap H locs) {ls : Array Slot} (hl : lv_has ls 5 [(0, .ref (qpn 0)), (1, .int p1), (2, .int p2), (3, .int x3), (4, .int x4)]) (hp : Pl_enqueue_b69 p1 p2 pn x3 x4 = some pn') : W p l e (rmD 0) s m args below meth c H locs 0 0 (qRV D below args s A (w_Pl cy qpn pn')) (F0 m 69 ls []) := by
  obtain ⟨hx, hb, hr, hml, hown, hts, hk⟩ := id C0
  unfold Pl_enqueue_b69 at hp
  refine lv_aload_n hx hb dX6_enqueue_69 rfl (lv_at hl 0 rfl) ?_
  refine gf_X6_9 hx hb hts hown hK hP 0 rfl rfl dX6_enqueue_70 ?_
  refine lv_iload hx hb dX6_enqueue_73 (lv_at hl 4 rfl) ?_
  refine lv_iload_n hx hb dX6_enqueue_75 rfl (lv_at hl 3 rfl) ?_
  obtain ⟨hi_11, hp⟩ := ckI_s hp
  obtain ⟨pn_12, epn_12⟩ : ∃ y : Mem, y = upm pn 0 x4.toNatClampNeg x3 := ⟨_, rfl⟩
  have hp := stk_e hp epn_12
  refine r_ist hx hb hK hP hD hS (wn := (w_Pl cy qpn pn_12)) 1 rfl hi_11 (by subst epn_12; rfl) dX6_enqueue_76 (fun H locs hP hD hS => ?_)
  refine lv_aload_n hx hb dX6_enqueue_77 rfl (lv_at hl 0 rfl) ?_
  refine lv_dup hx hb dX6_enqueue_78 rfl ?_
  refine gf_X6_27 hx hb hts hown hK hP 0 rfl rfl dX6_enqueue_79 ?_
  refine lv_iconst (v := 1) hx hb dX6_enqueue_82 (by decide) ?_
  refine lv_iadd hx hb dX6_enqueue_83 ?_
  obtain ⟨pn_13, epn_13⟩ : ∃ y : Mem, y = upm pn_12 1 0 ((pn_12 1 0) + 1) := ⟨_, rfl⟩
  have hp := stk_e hp epn_13
  refine pf_X6_27 hx hb hts hown hK hP hD hS (wn := (w_Pl cy qpn pn_13)) 0 rfl (Nat.le_of_ble_eq_true rfl) (by subst epn_13; rfl) dX6_enqueue_84 (fun H locs hP hD hS => ?_)
  simp only [Option.some.injEq, Prod.mk.injEq] at hp
  subst hp
  exact e_RV hx hb hr hk hP hD hS dX6_enqueue_87
set_option maxHeartbeats 4000000 in
set_option maxRecDepth 100000 in
theorem Pl_enqueue_b29B_w (C0 : cX RX6 cX6_enqueue none 5 p s m args meth c) (hK : kN D cy s) {qpn : Nat → Nat} {p1 p2 : Int32} {pn' : Mem} (hA : ∀ q, s.heap.size ≤ q → A q) {k29 : Mem → Int32 → Int32 → Option (Mem)} (hk29 : ∀ (pn : Mem) (x3 x4 : Int32) (H : Heap) (locs : List Loc) (ls : Array Slot), va_P D vwCl (w_Pl cy qpn pn) H → va_D A (w_Pl cy qpn pn) → va_S A s.heap H locs → lv_has ls 5 [(0, .ref (qpn 0)), (1, .int p1), (2, .int p2), (3, .int x3), (4, .int x4)] → k29 pn x3 x4 = some pn' → W p l e (rmD 0) s m args below meth c H locs 0 0 (qRV D below args s A (w_Pl cy qpn pn')) (F0 m 29 ls [])) {pn : Mem} {x3 : Int32} {x4 : Int32} {H : Heap} {locs : List Loc} (hP : va_P D vwCl (w_Pl cy qpn pn) H) (hD : va_D A (w_Pl cy qpn pn)) (hS : va_S A s.heap H locs) {ls : Array Slot} (hl : lv_has ls 5 [(0, .ref (qpn 0)), (1, .int p1), (2, .int p2), (3, .int x3), (4, .int x4)]) (hp : Pl_enqueue_b29B p1 p2 k29 pn x3 x4 = some pn') : W p l e (rmD 0) s m args below meth c H locs 0 0 (qRV D below args s A (w_Pl cy qpn pn')) (F0 m 29 ls []) := by
  obtain ⟨hx, hb, hr, hml, hown, hts, hk⟩ := id C0
  unfold Pl_enqueue_b29B at hp
  refine lv_iload hx hb dX6_enqueue_29 (lv_at hl 4 rfl) ?_
  refine lv_if_le (tgt := 69) hx hb dX6_enqueue_31 (by decide) (fun c_5 => ?_) (fun c_5 => ?_)
  · have hp := ite_p hp c_5
    exact Pl_enqueue_b69_w C0 hK hA  hP hD hS hl hp
  · have hp := ite_n hp c_5
    refine lv_aload_n hx hb dX6_enqueue_34 rfl (lv_at hl 0 rfl) ?_
    refine gf_X6_9 hx hb hts hown hK hP 0 rfl rfl dX6_enqueue_35 ?_
    refine lv_iload hx hb dX6_enqueue_38 (lv_at hl 4 rfl) ?_
    refine lv_iconst (v := 1) hx hb dX6_enqueue_40 (by decide) ?_
    refine lv_isub hx hb dX6_enqueue_41 ?_
    obtain ⟨hi_6, hp⟩ := ckI_s hp
    refine r_ild hx hb hK hP 1 rfl hi_6 dX6_enqueue_42 ?_
    refine lv_iload_n hx hb dX6_enqueue_43 rfl (lv_at hl 3 rfl) ?_
    refine lv_icmp_le (tgt := 69) hx hb dX6_enqueue_44 (by decide) (fun c_7 => ?_) (fun c_7 => ?_)
    · have hp := ite_p hp c_7
      exact Pl_enqueue_b69_w C0 hK hA  hP hD hS hl hp
    · have hp := ite_n hp c_7
      refine lv_aload_n hx hb dX6_enqueue_47 rfl (lv_at hl 0 rfl) ?_
      refine gf_X6_9 hx hb hts hown hK hP 0 rfl rfl dX6_enqueue_48 ?_
      refine lv_iload hx hb dX6_enqueue_51 (lv_at hl 4 rfl) ?_
      refine lv_aload_n hx hb dX6_enqueue_53 rfl (lv_at hl 0 rfl) ?_
      refine gf_X6_9 hx hb hts hown hK hP 0 rfl rfl dX6_enqueue_54 ?_
      refine lv_iload hx hb dX6_enqueue_57 (lv_at hl 4 rfl) ?_
      refine lv_iconst (v := 1) hx hb dX6_enqueue_59 (by decide) ?_
      refine lv_isub hx hb dX6_enqueue_60 ?_
      refine r_ild hx hb hK hP 1 rfl hi_6 dX6_enqueue_61 ?_
      obtain ⟨hi_8, hp⟩ := ckI_s hp
      obtain ⟨pn_9, epn_9⟩ : ∃ y : Mem, y = upm pn 0 x4.toNatClampNeg (pn 0 (x4 - 1).toNatClampNeg) := ⟨_, rfl⟩
      have hp := stk_e hp epn_9
      refine r_ist hx hb hK hP hD hS (wn := (w_Pl cy qpn pn_9)) 1 rfl hi_8 (by subst epn_9; rfl) dX6_enqueue_62 (fun H locs hP hD hS => ?_)
      obtain ⟨x4_10, ex4_10⟩ : ∃ y : Int32, y = x4 + (-1) := ⟨_, rfl⟩
      have hp := stk_e hp ex4_10
      refine lv_iinc (v := x4_10) (lv' := [(4, .int x4_10), (0, .ref (qpn 0)), (1, .int p1), (2, .int p2), (3, .int x3)]) hx hb dX6_enqueue_63 hl (k := 4) rfl (by rw [ex4_10]; rfl) (by decide) rfl (fun ls hl => ?_)
      refine lv_goto (tgt := 29) hx hb dX6_enqueue_66 (by decide) ?_
      exact hk29 pn_9 x3 x4_10 _ _ _ hP hD hS (lv_sub hl [1, 2, 3, 4, 0] rfl) hp
theorem Pl_enqueue_b29_w (C0 : cX RX6 cX6_enqueue none 5 p s m args meth c) (hK : kN D cy s) {qpn : Nat → Nat} {p1 p2 : Int32} {pn' : Mem} (hA : ∀ q, s.heap.size ≤ q → A q) : ∀ (n : Nat) (pn : Mem) (x3 x4 : Int32) (H : Heap) (locs : List Loc) (ls : Array Slot), va_P D vwCl (w_Pl cy qpn pn) H → va_D A (w_Pl cy qpn pn) → va_S A s.heap H locs → lv_has ls 5 [(0, .ref (qpn 0)), (1, .int p1), (2, .int p2), (3, .int x3), (4, .int x4)] → Pl_enqueue_b29 p1 p2 n pn x3 x4 = some pn' → W p l e (rmD 0) s m args below meth c H locs 0 0 (qRV D below args s A (w_Pl cy qpn pn')) (F0 m 29 ls []) := by
  intro n
  induction n with
  | zero =>
    intro pn x3 x4 H locs ls hP hD hS hl hp
    cases hp
  | succ n ih =>
    intro pn x3 x4 H locs ls hP hD hS hl hp
    exact Pl_enqueue_b29B_w C0 hK hA  (fun pn x3 x4 H locs ls hP hD hS hl hp => ih pn x3 x4 H locs ls hP hD hS hl hp) hP hD hS hl hp
set_option maxHeartbeats 4000000 in
set_option maxRecDepth 100000 in
theorem c_X6_enqueue (l : Launch) (D : va_G) (cy : Nat → ClassId) (qpn : Nat → Nat) (pn : Mem) (p1 p2 : Int32) (pn' : Mem) (hp : Pl_enqueue pn p1 p2 = some pn') : RV l yX6_enqueue cX6_enqueue 5 0 D cy [.ref (qpn 0), .int p1, .int p2] (w_Pl cy qpn pn) (w_Pl cy qpn pn') := by
  refine RV_of RX6 rfl (by decide) (Nat.le_of_ble_eq_true rfl) ?_
  intro p e s m below meth c A C0 hK hP hD hS hA ls hl
  obtain ⟨hx, hb, hr, hml, hown, hts, hk⟩ := id C0
  unfold Pl_enqueue at hp
  have hl : lv_has ls 5 [(0, .ref (qpn 0)), (1, .int p1), (2, .int p2)] := hl
  refine lv_aload_n hx hb dX6_enqueue_0 rfl (lv_at hl 0 rfl) ?_
  refine gf_X6_27 hx hb hts hown hK hP 0 rfl rfl dX6_enqueue_1 ?_
  refine lv_if_lt (tgt := 16) hx hb dX6_enqueue_4 (by decide) (fun c_1 => ?_) (fun c_1 => ?_)
  · have hp := ite_p hp c_1
    simp only [Option.some.injEq, Prod.mk.injEq] at hp
    subst hp
    exact e_RV hx hb hr hk hP hD hS dX6_enqueue_16
  · have hp := ite_n hp c_1
    refine lv_aload_n hx hb dX6_enqueue_7 rfl (lv_at hl 0 rfl) ?_
    refine gf_X6_27 hx hb hts hown hK hP 0 rfl rfl dX6_enqueue_8 ?_
    refine lv_bipush (v := 20) hx hb dX6_enqueue_11 (by decide) ?_
    refine lv_icmp_lt (tgt := 17) hx hb dX6_enqueue_13 (by decide) (fun c_2 => ?_) (fun c_2 => ?_)
    · have hp := ite_p hp c_2
      refine lv_iload_n hx hb dX6_enqueue_17 rfl (lv_at hl 1 rfl) ?_
      refine lv_iconst (v := 5) hx hb dX6_enqueue_18 (by decide) ?_
      refine lv_ishl hx hb dX6_enqueue_19 ?_
      refine lv_iload_n hx hb dX6_enqueue_20 rfl (lv_at hl 2 rfl) ?_
      refine lv_iadd hx hb dX6_enqueue_21 ?_
      refine lv_topi (fun x3_3 ex3_3 => ?_)
      have hp := stk_e hp ex3_3
      refine lv_istore_n (lv' := [(3, .int x3_3), (0, .ref (qpn 0)), (1, .int p1), (2, .int p2)]) hx hb dX6_enqueue_22 rfl hl (by decide) rfl (fun ls hl => ?_)
      refine lv_aload_n hx hb dX6_enqueue_23 rfl (lv_at hl 1 rfl) ?_
      refine gf_X6_27 hx hb hts hown hK hP 0 rfl rfl dX6_enqueue_24 ?_
      refine lv_topi (fun x4_4 ex4_4 => ?_)
      have hp := stk_e hp ex4_4
      refine lv_istore (lv' := [(4, .int x4_4), (3, .int x3_3), (0, .ref (qpn 0)), (1, .int p1), (2, .int p2)]) hx hb dX6_enqueue_27 hl (by decide) rfl (fun ls hl => ?_)
      exact Pl_enqueue_b29_w C0 hK hA  fl pn x3_3 x4_4 _ _ _ hP hD hS (lv_sub hl [2, 3, 4, 1, 0] rfl) hp
    · have hp := ite_n hp c_2
      simp only [Option.some.injEq, Prod.mk.injEq] at hp
      subst hp
      exact e_RV hx hb hr hk hP hD hS dX6_enqueue_16
/-! StormSlots$Planner.isFree(I)Z -/
def Pl_isFree (pn : Mem) (p1 : Int32) : Option (Int32) :=
  bn1 (St_isMinute p1) (fun r_2 => if r_2 = 0 then some 0 else ckI p1 1200 (if (pn 2 p1.toNatClampNeg) = (pn 3 0) then some 0 else some 1))
set_option maxHeartbeats 4000000 in
set_option maxRecDepth 100000 in
theorem c_X6_isFree (l : Launch) (D : va_G) (cy : Nat → ClassId) (qpn : Nat → Nat) (pn : Mem) (p1 : Int32) (r : Int32) (hp : Pl_isFree pn p1 = some r) : RO l yX6_isFree cX6_isFree 2 (some .boolean) 1 D cy [.ref (qpn 0), .int p1] (w_Pl cy qpn pn) r := by
  refine RO_of RX6 rfl (by decide) (Nat.le_of_ble_eq_true rfl) ?_
  intro p e s m below meth c C0 hK hP ls hl
  obtain ⟨hx, hb, hr, hml, hown, hts, hk⟩ := id C0
  unfold Pl_isFree at hp
  have hl : lv_has ls 2 [(0, .ref (qpn 0)), (1, .int p1)] := hl
  refine lv_iload_n hx hb dX6_isFree_0 rfl (lv_at hl 1 rfl) ?_
  obtain ⟨r_2, hc_1, hp⟩ := bn1_s hp
  refine k_ROSN (As := [.int p1]) (rest := []) ⟨hx, hb, hml, hown, hts⟩ hK (show va_P D vwCl [] _ from fun k q h => by simp at h) (cw_X6_140 hts hK.2 ⟨Nat.le_of_ble_eq_true rfl, Nat.le_of_ble_eq_true rfl⟩) (c_X11_isMinute l D cy p1 r_2 hc_1) rfl hl.1 (Nat.le_of_ble_eq_true rfl) ⟨Nat.le_refl _, Nat.le_refl _⟩ dX6_isFree_1 ?_
  refine lv_if_eq (tgt := 24) hx hb dX6_isFree_4 (by decide) (fun c_3 => ?_) (fun c_3 => ?_)
  · have hp := ite_p hp c_3
    refine lv_iconst (v := 0) hx hb dX6_isFree_24 (by decide) ?_
    exact e_ROz hx hb hr hk (Or.inl rfl) dX6_isFree_25 (Option.some.inj hp)
  · have hp := ite_n hp c_3
    refine lv_aload_n hx hb dX6_isFree_7 rfl (lv_at hl 0 rfl) ?_
    refine gf_X6_15 hx hb hts hown hK hP 0 rfl rfl dX6_isFree_8 ?_
    refine lv_iload_n hx hb dX6_isFree_11 rfl (lv_at hl 1 rfl) ?_
    obtain ⟨hi_4, hp⟩ := ckI_s hp
    refine r_ild hx hb hK hP 2 rfl hi_4 dX6_isFree_12 ?_
    refine lv_aload_n hx hb dX6_isFree_13 rfl (lv_at hl 0 rfl) ?_
    refine gf_X6_18 hx hb hts hown hK hP 0 rfl rfl dX6_isFree_14 ?_
    refine lv_icmp_eq (tgt := 24) hx hb dX6_isFree_17 (by decide) (fun c_5 => ?_) (fun c_5 => ?_)
    · have hp := ite_p hp c_5
      refine lv_iconst (v := 0) hx hb dX6_isFree_24 (by decide) ?_
      exact e_ROz hx hb hr hk (Or.inl rfl) dX6_isFree_25 (Option.some.inj hp)
    · have hp := ite_n hp c_5
      refine lv_iconst (v := 1) hx hb dX6_isFree_20 (by decide) ?_
      refine lv_goto (tgt := 25) hx hb dX6_isFree_21 (by decide) ?_
      exact e_ROz hx hb hr hk (Or.inr rfl) dX6_isFree_25 (Option.some.inj hp)
/-! StormSlots$Planner.firstFree(LStormSlots$Rates;I)I -/
def Pl_firstFree_b76B (pn : Mem) (ra : Mem) (p2 : Int32) (k76 : Int32 → Option (Int32)) (x3 : Int32) : Option (Int32) :=
  if 1200 ≤ x3 then some (-1) else if x3 < p2 then stk (x3 + 5) (fun x3_7 => k76 x3_7) else bn1 (Pl_isFree pn x3) (fun r_9 => if r_9 = 0 then stk (x3 + 5) (fun x3_11 => k76 x3_11) else some x3)
def Pl_firstFree_b76 (pn : Mem) (ra : Mem) (p2 : Int32) : Nat → Int32 → Option (Int32)
  | 0 => fun _ => none
  | n + 1 => Pl_firstFree_b76B pn ra p2 (Pl_firstFree_b76 pn ra p2 n)
def Pl_firstFree_b25B (pn : Mem) (ra : Mem) (p2 : Int32) (k9 : Int32 → Option (Int32)) (k25 : Int32 → Int32 → Int32 → Option (Int32)) (x3 : Int32) (x4 : Int32) (x5 : Int32) : Option (Int32) :=
  if x4 ≤ x5 then stk (x3 + 1) (fun x3_13 => k9 x3_13) else bn1 (Ra_minuteOf x3 x5 x4) (fun r_15 => if r_15 < p2 then stk (x5 + 1) (fun x5_17 => k25 x3 x4 x5_17) else bn1 (Pl_isFree pn r_15) (fun r_19 => if r_19 = 0 then stk (x5 + 1) (fun x5_21 => k25 x3 x4 x5_21) else some r_15))
def Pl_firstFree_b25 (pn : Mem) (ra : Mem) (p2 : Int32) (k9 : Int32 → Option (Int32)) : Nat → Int32 → Int32 → Int32 → Option (Int32)
  | 0 => fun _ _ _ => none
  | n + 1 => Pl_firstFree_b25B pn ra p2 k9 (Pl_firstFree_b25 pn ra p2 k9 n)
def Pl_firstFree_b9B (pn : Mem) (ra : Mem) (p2 : Int32) (k9 : Int32 → Option (Int32)) (x3 : Int32) : Option (Int32) :=
  if 12 ≤ x3 then Pl_firstFree_b76 pn ra p2 fl 720 else bn1 (Ra_of ra x3) (fun r_4 => Pl_firstFree_b25 pn ra p2 k9 fl x3 r_4 0)
def Pl_firstFree_b9 (pn : Mem) (ra : Mem) (p2 : Int32) : Nat → Int32 → Option (Int32)
  | 0 => fun _ => none
  | n + 1 => Pl_firstFree_b9B pn ra p2 (Pl_firstFree_b9 pn ra p2 n)
def Pl_firstFree (pn : Mem) (ra : Mem) (p2 : Int32) : Option (Int32) :=
  stk (if 0 < (p2 / 60) then (p2 / 60) else 0) (fun x3_1 => Pl_firstFree_b9 pn ra p2 fl x3_1)
set_option maxHeartbeats 4000000 in
set_option maxRecDepth 100000 in
theorem Pl_firstFree_b76B_w (C0 : cX RX6 cX6_firstFree (some .int) 7 p s m args meth c) (hK : kN D cy s) {qpn qra : Nat → Nat} {pn ra : Mem} {p2 : Int32} {r : Int32} (hP : va_P D vwCl (w_PlRa cy qpn qra pn ra) s.heap) {k76 : Int32 → Option (Int32)} (hk76 : ∀ (x3 : Int32) (ls : Array Slot), lv_has ls 7 [(0, .ref (qpn 0)), (1, .ref (qra 0)), (2, .int p2), (3, .int x3)] → k76 x3 = some r → W p l e (rmD 2) s m args below meth c s.heap [] 0 0 (qRO below args s r) (F0 m 76 ls [])) {x3 : Int32} {ls : Array Slot} (hl : lv_has ls 7 [(0, .ref (qpn 0)), (1, .ref (qra 0)), (2, .int p2), (3, .int x3)]) (hp : Pl_firstFree_b76B pn ra p2 k76 x3 = some r) : W p l e (rmD 2) s m args below meth c s.heap [] 0 0 (qRO below args s r) (F0 m 76 ls []) := by
  obtain ⟨hx, hb, hr, hml, hown, hts, hk⟩ := id C0
  unfold Pl_firstFree_b76B at hp
  refine lv_iload_n hx hb dX6_firstFree_76 rfl (lv_at hl 3 rfl) ?_
  refine lv_sipush (v := 1200) hx hb dX6_firstFree_77 (by decide) ?_
  refine lv_icmp_ge (tgt := 104) hx hb dX6_firstFree_80 (by decide) (fun c_5 => ?_) (fun c_5 => ?_)
  · have hp := ite_p hp c_5
    refine lv_iconst (v := (-1)) hx hb dX6_firstFree_104 (by decide) ?_
    exact e_ROi hx hb hr hk dX6_firstFree_105 (Option.some.inj hp)
  · have hp := ite_n hp c_5
    refine lv_iload_n hx hb dX6_firstFree_83 rfl (lv_at hl 3 rfl) ?_
    refine lv_iload_n hx hb dX6_firstFree_84 rfl (lv_at hl 2 rfl) ?_
    refine lv_icmp_lt (tgt := 98) hx hb dX6_firstFree_85 (by decide) (fun c_6 => ?_) (fun c_6 => ?_)
    · have hp := ite_p hp c_6
      obtain ⟨x3_7, ex3_7⟩ : ∃ y : Int32, y = x3 + 5 := ⟨_, rfl⟩
      have hp := stk_e hp ex3_7
      refine lv_iinc (v := x3_7) (lv' := [(3, .int x3_7), (0, .ref (qpn 0)), (1, .ref (qra 0)), (2, .int p2)]) hx hb dX6_firstFree_98 hl (k := 3) rfl (by rw [ex3_7]; rfl) (by decide) rfl (fun ls hl => ?_)
      refine lv_goto (tgt := 76) hx hb dX6_firstFree_101 (by decide) ?_
      exact hk76 x3_7 _ (lv_sub hl [1, 2, 3, 0] rfl) hp
    · have hp := ite_n hp c_6
      refine lv_aload_n hx hb dX6_firstFree_88 rfl (lv_at hl 0 rfl) ?_
      refine lv_iload_n hx hb dX6_firstFree_89 rfl (lv_at hl 3 rfl) ?_
      obtain ⟨r_9, hc_8, hp⟩ := bn1_s hp
      refine k_ROV (As := [.int x3]) (rest := []) ⟨hx, hb, hml, hown, hts⟩ hK (hP.sub (ws' := (w_Pl cy qpn pn)) [0, 1, 2] rfl) (cw_X6_137 hts ⟨Nat.le_of_ble_eq_true rfl, Nat.le_of_ble_eq_true rfl⟩) 0 (ci := 6) rfl rfl rfl (c_X6_isFree l D cy qpn pn x3 r_9 hc_8) rfl hl.1 (Nat.le_of_ble_eq_true rfl) ⟨Nat.le_refl _, Nat.le_refl _⟩ dX6_firstFree_90 ?_
      refine lv_if_eq (tgt := 98) hx hb dX6_firstFree_93 (by decide) (fun c_10 => ?_) (fun c_10 => ?_)
      · have hp := ite_p hp c_10
        obtain ⟨x3_11, ex3_11⟩ : ∃ y : Int32, y = x3 + 5 := ⟨_, rfl⟩
        have hp := stk_e hp ex3_11
        refine lv_iinc (v := x3_11) (lv' := [(3, .int x3_11), (0, .ref (qpn 0)), (1, .ref (qra 0)), (2, .int p2)]) hx hb dX6_firstFree_98 hl (k := 3) rfl (by rw [ex3_11]; rfl) (by decide) rfl (fun ls hl => ?_)
        refine lv_goto (tgt := 76) hx hb dX6_firstFree_101 (by decide) ?_
        exact hk76 x3_11 _ (lv_sub hl [1, 2, 3, 0] rfl) hp
      · have hp := ite_n hp c_10
        refine lv_iload_n hx hb dX6_firstFree_96 rfl (lv_at hl 3 rfl) ?_
        exact e_ROi hx hb hr hk dX6_firstFree_97 (Option.some.inj hp)
theorem Pl_firstFree_b76_w (C0 : cX RX6 cX6_firstFree (some .int) 7 p s m args meth c) (hK : kN D cy s) {qpn qra : Nat → Nat} {pn ra : Mem} {p2 : Int32} {r : Int32} (hP : va_P D vwCl (w_PlRa cy qpn qra pn ra) s.heap) : ∀ (n : Nat) (x3 : Int32) (ls : Array Slot), lv_has ls 7 [(0, .ref (qpn 0)), (1, .ref (qra 0)), (2, .int p2), (3, .int x3)] → Pl_firstFree_b76 pn ra p2 n x3 = some r → W p l e (rmD 2) s m args below meth c s.heap [] 0 0 (qRO below args s r) (F0 m 76 ls []) := by
  intro n
  induction n with
  | zero =>
    intro x3 ls hl hp
    cases hp
  | succ n ih =>
    intro x3 ls hl hp
    exact Pl_firstFree_b76B_w C0 hK hP  (fun x3 ls hl hp => ih x3 ls hl hp) hl hp
set_option maxHeartbeats 4000000 in
set_option maxRecDepth 100000 in
theorem Pl_firstFree_b25B_w (C0 : cX RX6 cX6_firstFree (some .int) 7 p s m args meth c) (hK : kN D cy s) {qpn qra : Nat → Nat} {pn ra : Mem} {p2 : Int32} {r : Int32} (hP : va_P D vwCl (w_PlRa cy qpn qra pn ra) s.heap) {k9 : Int32 → Option (Int32)} (hk9 : ∀ (x3 : Int32) (ls : Array Slot), lv_has ls 7 [(0, .ref (qpn 0)), (1, .ref (qra 0)), (2, .int p2), (3, .int x3)] → k9 x3 = some r → W p l e (rmD 2) s m args below meth c s.heap [] 0 0 (qRO below args s r) (F0 m 9 ls [])) {k25 : Int32 → Int32 → Int32 → Option (Int32)} (hk25 : ∀ (x3 x4 x5 : Int32) (ls : Array Slot), lv_has ls 7 [(0, .ref (qpn 0)), (1, .ref (qra 0)), (2, .int p2), (3, .int x3), (4, .int x4), (5, .int x5)] → k25 x3 x4 x5 = some r → W p l e (rmD 2) s m args below meth c s.heap [] 0 0 (qRO below args s r) (F0 m 25 ls [])) {x3 : Int32} {x4 : Int32} {x5 : Int32} {ls : Array Slot} (hl : lv_has ls 7 [(0, .ref (qpn 0)), (1, .ref (qra 0)), (2, .int p2), (3, .int x3), (4, .int x4), (5, .int x5)]) (hp : Pl_firstFree_b25B pn ra p2 k9 k25 x3 x4 x5 = some r) : W p l e (rmD 2) s m args below meth c s.heap [] 0 0 (qRO below args s r) (F0 m 25 ls []) := by
  obtain ⟨hx, hb, hr, hml, hown, hts, hk⟩ := id C0
  unfold Pl_firstFree_b25B at hp
  refine lv_iload hx hb dX6_firstFree_25 (lv_at hl 5 rfl) ?_
  refine lv_iload hx hb dX6_firstFree_27 (lv_at hl 4 rfl) ?_
  refine lv_icmp_ge (tgt := 66) hx hb dX6_firstFree_29 (by decide) (fun c_12 => ?_) (fun c_12 => ?_)
  · have hp := ite_p hp c_12
    obtain ⟨x3_13, ex3_13⟩ : ∃ y : Int32, y = x3 + 1 := ⟨_, rfl⟩
    have hp := stk_e hp ex3_13
    refine lv_iinc (v := x3_13) (lv' := [(3, .int x3_13), (0, .ref (qpn 0)), (1, .ref (qra 0)), (2, .int p2), (4, .int x4), (5, .int x5)]) hx hb dX6_firstFree_66 hl (k := 3) rfl (by rw [ex3_13]; rfl) (by decide) rfl (fun ls hl => ?_)
    refine lv_goto (tgt := 9) hx hb dX6_firstFree_69 (by decide) ?_
    exact hk9 x3_13 _ (lv_sub hl [1, 2, 3, 0] rfl) hp
  · have hp := ite_n hp c_12
    refine lv_iload_n hx hb dX6_firstFree_32 rfl (lv_at hl 3 rfl) ?_
    refine lv_iload hx hb dX6_firstFree_33 (lv_at hl 5 rfl) ?_
    refine lv_iload hx hb dX6_firstFree_35 (lv_at hl 4 rfl) ?_
    obtain ⟨r_15, hc_14, hp⟩ := bn1_s hp
    refine k_ROS (As := [.int x3, .int x5, .int x4]) (rest := []) ⟨hx, hb, hml, hown, hts⟩ hK (show va_P D vwCl [] _ from fun k q h => by simp at h) (cw_X6_133 hts ⟨Nat.le_of_ble_eq_true rfl, Nat.le_of_ble_eq_true rfl⟩) (c_X7_minuteOf l D cy x3 x5 x4 r_15 hc_14) rfl hl.1 (Nat.le_of_ble_eq_true rfl) ⟨Nat.le_refl _, Nat.le_refl _⟩ dX6_firstFree_37 ?_
    refine lv_istore (lv' := [(6, .int r_15), (0, .ref (qpn 0)), (1, .ref (qra 0)), (2, .int p2), (3, .int x3), (4, .int x4), (5, .int x5)]) hx hb dX6_firstFree_40 hl (by decide) rfl (fun ls hl => ?_)
    refine lv_iload hx hb dX6_firstFree_42 (lv_at hl 0 rfl) ?_
    refine lv_iload_n hx hb dX6_firstFree_44 rfl (lv_at hl 3 rfl) ?_
    refine lv_icmp_lt (tgt := 60) hx hb dX6_firstFree_45 (by decide) (fun c_16 => ?_) (fun c_16 => ?_)
    · have hp := ite_p hp c_16
      obtain ⟨x5_17, ex5_17⟩ : ∃ y : Int32, y = x5 + 1 := ⟨_, rfl⟩
      have hp := stk_e hp ex5_17
      refine lv_iinc (v := x5_17) (lv' := [(5, .int x5_17), (6, .int r_15), (0, .ref (qpn 0)), (1, .ref (qra 0)), (2, .int p2), (3, .int x3), (4, .int x4)]) hx hb dX6_firstFree_60 hl (k := 6) rfl (by rw [ex5_17]; rfl) (by decide) rfl (fun ls hl => ?_)
      refine lv_goto (tgt := 25) hx hb dX6_firstFree_63 (by decide) ?_
      exact hk25 x3 x4 x5_17 _ (lv_sub hl [2, 3, 4, 5, 6, 0] rfl) hp
    · have hp := ite_n hp c_16
      refine lv_aload_n hx hb dX6_firstFree_48 rfl (lv_at hl 1 rfl) ?_
      refine lv_iload hx hb dX6_firstFree_49 (lv_at hl 0 rfl) ?_
      obtain ⟨r_19, hc_18, hp⟩ := bn1_s hp
      refine k_ROV (As := [.int r_15]) (rest := []) ⟨hx, hb, hml, hown, hts⟩ hK (hP.sub (ws' := (w_Pl cy qpn pn)) [0, 1, 2] rfl) (cw_X6_137 hts ⟨Nat.le_of_ble_eq_true rfl, Nat.le_of_ble_eq_true rfl⟩) 0 (ci := 6) rfl rfl rfl (c_X6_isFree l D cy qpn pn r_15 r_19 hc_18) rfl hl.1 (Nat.le_of_ble_eq_true rfl) ⟨Nat.le_refl _, Nat.le_refl _⟩ dX6_firstFree_51 ?_
      refine lv_if_eq (tgt := 60) hx hb dX6_firstFree_54 (by decide) (fun c_20 => ?_) (fun c_20 => ?_)
      · have hp := ite_p hp c_20
        obtain ⟨x5_21, ex5_21⟩ : ∃ y : Int32, y = x5 + 1 := ⟨_, rfl⟩
        have hp := stk_e hp ex5_21
        refine lv_iinc (v := x5_21) (lv' := [(5, .int x5_21), (6, .int r_15), (0, .ref (qpn 0)), (1, .ref (qra 0)), (2, .int p2), (3, .int x3), (4, .int x4)]) hx hb dX6_firstFree_60 hl (k := 6) rfl (by rw [ex5_21]; rfl) (by decide) rfl (fun ls hl => ?_)
        refine lv_goto (tgt := 25) hx hb dX6_firstFree_63 (by decide) ?_
        exact hk25 x3 x4 x5_21 _ (lv_sub hl [2, 3, 4, 5, 6, 0] rfl) hp
      · have hp := ite_n hp c_20
        refine lv_iload hx hb dX6_firstFree_57 (lv_at hl 0 rfl) ?_
        exact e_ROi hx hb hr hk dX6_firstFree_59 (Option.some.inj hp)
theorem Pl_firstFree_b25_w (C0 : cX RX6 cX6_firstFree (some .int) 7 p s m args meth c) (hK : kN D cy s) {qpn qra : Nat → Nat} {pn ra : Mem} {p2 : Int32} {r : Int32} (hP : va_P D vwCl (w_PlRa cy qpn qra pn ra) s.heap) {k9 : Int32 → Option (Int32)} (hk9 : ∀ (x3 : Int32) (ls : Array Slot), lv_has ls 7 [(0, .ref (qpn 0)), (1, .ref (qra 0)), (2, .int p2), (3, .int x3)] → k9 x3 = some r → W p l e (rmD 2) s m args below meth c s.heap [] 0 0 (qRO below args s r) (F0 m 9 ls [])) : ∀ (n : Nat) (x3 x4 x5 : Int32) (ls : Array Slot), lv_has ls 7 [(0, .ref (qpn 0)), (1, .ref (qra 0)), (2, .int p2), (3, .int x3), (4, .int x4), (5, .int x5)] → Pl_firstFree_b25 pn ra p2 k9 n x3 x4 x5 = some r → W p l e (rmD 2) s m args below meth c s.heap [] 0 0 (qRO below args s r) (F0 m 25 ls []) := by
  intro n
  induction n with
  | zero =>
    intro x3 x4 x5 ls hl hp
    cases hp
  | succ n ih =>
    intro x3 x4 x5 ls hl hp
    exact Pl_firstFree_b25B_w C0 hK hP hk9 (fun x3 x4 x5 ls hl hp => ih x3 x4 x5 ls hl hp) hl hp
set_option maxHeartbeats 4000000 in
set_option maxRecDepth 100000 in
theorem Pl_firstFree_b9B_w (C0 : cX RX6 cX6_firstFree (some .int) 7 p s m args meth c) (hK : kN D cy s) {qpn qra : Nat → Nat} {pn ra : Mem} {p2 : Int32} {r : Int32} (hP : va_P D vwCl (w_PlRa cy qpn qra pn ra) s.heap) {k9 : Int32 → Option (Int32)} (hk9 : ∀ (x3 : Int32) (ls : Array Slot), lv_has ls 7 [(0, .ref (qpn 0)), (1, .ref (qra 0)), (2, .int p2), (3, .int x3)] → k9 x3 = some r → W p l e (rmD 2) s m args below meth c s.heap [] 0 0 (qRO below args s r) (F0 m 9 ls [])) {x3 : Int32} {ls : Array Slot} (hl : lv_has ls 7 [(0, .ref (qpn 0)), (1, .ref (qra 0)), (2, .int p2), (3, .int x3)]) (hp : Pl_firstFree_b9B pn ra p2 k9 x3 = some r) : W p l e (rmD 2) s m args below meth c s.heap [] 0 0 (qRO below args s r) (F0 m 9 ls []) := by
  obtain ⟨hx, hb, hr, hml, hown, hts, hk⟩ := id C0
  unfold Pl_firstFree_b9B at hp
  refine lv_iload_n hx hb dX6_firstFree_9 rfl (lv_at hl 3 rfl) ?_
  refine lv_bipush (v := 12) hx hb dX6_firstFree_10 (by decide) ?_
  refine lv_icmp_ge (tgt := 72) hx hb dX6_firstFree_12 (by decide) (fun c_2 => ?_) (fun c_2 => ?_)
  · have hp := ite_p hp c_2
    refine lv_sipush (v := 720) hx hb dX6_firstFree_72 (by decide) ?_
    refine lv_istore_n (lv' := [(3, .int 720), (0, .ref (qpn 0)), (1, .ref (qra 0)), (2, .int p2)]) hx hb dX6_firstFree_75 rfl hl (by decide) rfl (fun ls hl => ?_)
    exact Pl_firstFree_b76_w C0 hK hP  fl 720 _ (lv_sub hl [1, 2, 3, 0] rfl) hp
  · have hp := ite_n hp c_2
    refine lv_aload_n hx hb dX6_firstFree_15 rfl (lv_at hl 1 rfl) ?_
    refine lv_iload_n hx hb dX6_firstFree_16 rfl (lv_at hl 3 rfl) ?_
    obtain ⟨r_4, hc_3, hp⟩ := bn1_s hp
    refine k_ROV (As := [.int x3]) (rest := []) ⟨hx, hb, hml, hown, hts⟩ hK (hP.sub (ws' := (w_Ra cy qra ra)) [3, 4] rfl) (cw_X6_128 hts ⟨Nat.le_of_ble_eq_true rfl, Nat.le_of_ble_eq_true rfl⟩) 0 (ci := 7) rfl rfl rfl (c_X7_of l D cy qra ra x3 r_4 hc_3) rfl hl.1 (Nat.le_of_ble_eq_true rfl) ⟨Nat.le_refl _, Nat.le_refl _⟩ dX6_firstFree_17 ?_
    refine lv_istore (lv' := [(4, .int r_4), (0, .ref (qpn 0)), (1, .ref (qra 0)), (2, .int p2), (3, .int x3)]) hx hb dX6_firstFree_20 hl (by decide) rfl (fun ls hl => ?_)
    refine lv_iconst (v := 0) hx hb dX6_firstFree_22 (by decide) ?_
    refine lv_istore (lv' := [(5, .int 0), (4, .int r_4), (0, .ref (qpn 0)), (1, .ref (qra 0)), (2, .int p2), (3, .int x3)]) hx hb dX6_firstFree_23 hl (by decide) rfl (fun ls hl => ?_)
    exact Pl_firstFree_b25_w C0 hK hP hk9 fl x3 r_4 0 _ (lv_sub hl [2, 3, 4, 5, 1, 0] rfl) hp
theorem Pl_firstFree_b9_w (C0 : cX RX6 cX6_firstFree (some .int) 7 p s m args meth c) (hK : kN D cy s) {qpn qra : Nat → Nat} {pn ra : Mem} {p2 : Int32} {r : Int32} (hP : va_P D vwCl (w_PlRa cy qpn qra pn ra) s.heap) : ∀ (n : Nat) (x3 : Int32) (ls : Array Slot), lv_has ls 7 [(0, .ref (qpn 0)), (1, .ref (qra 0)), (2, .int p2), (3, .int x3)] → Pl_firstFree_b9 pn ra p2 n x3 = some r → W p l e (rmD 2) s m args below meth c s.heap [] 0 0 (qRO below args s r) (F0 m 9 ls []) := by
  intro n
  induction n with
  | zero =>
    intro x3 ls hl hp
    cases hp
  | succ n ih =>
    intro x3 ls hl hp
    exact Pl_firstFree_b9B_w C0 hK hP  (fun x3 ls hl hp => ih x3 ls hl hp) hl hp
set_option maxHeartbeats 4000000 in
set_option maxRecDepth 100000 in
theorem c_X6_firstFree (l : Launch) (D : va_G) (cy : Nat → ClassId) (qpn qra : Nat → Nat) (pn ra : Mem) (p2 : Int32) (r : Int32) (hp : Pl_firstFree pn ra p2 = some r) : RO l yX6_firstFree cX6_firstFree 7 (some .int) 2 D cy [.ref (qpn 0), .ref (qra 0), .int p2] (w_PlRa cy qpn qra pn ra) r := by
  refine RO_of RX6 rfl (by decide) (Nat.le_of_ble_eq_true rfl) ?_
  intro p e s m below meth c C0 hK hP ls hl
  obtain ⟨hx, hb, hr, hml, hown, hts, hk⟩ := id C0
  unfold Pl_firstFree at hp
  have hl : lv_has ls 7 [(0, .ref (qpn 0)), (1, .ref (qra 0)), (2, .int p2)] := hl
  refine lv_iconst (v := 0) hx hb dX6_firstFree_0 (by decide) ?_
  refine lv_iload_n hx hb dX6_firstFree_1 rfl (lv_at hl 2 rfl) ?_
  refine lv_bipush (v := 60) hx hb dX6_firstFree_2 (by decide) ?_
  refine lv_idiv hx hb dX6_firstFree_4 (by decide) ?_
  refine mm_X6_93 hx hb (by rw [hml]; exact hl.1.symm) hts hown (Nat.le_of_ble_eq_true rfl) (Nat.le_of_ble_eq_true rfl) (Nat.le_refl _) (Nat.le_refl _) dX6_firstFree_5 ?_
  refine lv_topi (fun x3_1 ex3_1 => ?_)
  have hp := stk_e hp ex3_1
  refine lv_istore_n (lv' := [(3, .int x3_1), (0, .ref (qpn 0)), (1, .ref (qra 0)), (2, .int p2)]) hx hb dX6_firstFree_8 rfl hl (by decide) rfl (fun ls hl => ?_)
  exact Pl_firstFree_b9_w C0 hK hP  fl x3_1 _ (lv_sub hl [1, 2, 3, 0] rfl) hp
/-! StormSlots$Planner.take(I)V -/
def Pl_take (pn : Mem) (p1 : Int32) : Option (Mem) :=
  bn1 (St_isMinute p1) (fun r_2 => if r_2 = 0 then some pn else ckI p1 1200 (stk (upm pn 2 p1.toNatClampNeg (pn 3 0)) (fun pn_5 => some pn_5)))
set_option maxHeartbeats 4000000 in
set_option maxRecDepth 100000 in
theorem c_X6_take (l : Launch) (D : va_G) (cy : Nat → ClassId) (qpn : Nat → Nat) (pn : Mem) (p1 : Int32) (pn' : Mem) (hp : Pl_take pn p1 = some pn') : RV l yX6_take cX6_take 2 1 D cy [.ref (qpn 0), .int p1] (w_Pl cy qpn pn) (w_Pl cy qpn pn') := by
  refine RV_of RX6 rfl (by decide) (Nat.le_of_ble_eq_true rfl) ?_
  intro p e s m below meth c A C0 hK hP hD hS hA ls hl
  obtain ⟨hx, hb, hr, hml, hown, hts, hk⟩ := id C0
  unfold Pl_take at hp
  have hl : lv_has ls 2 [(0, .ref (qpn 0)), (1, .int p1)] := hl
  refine lv_iload_n hx hb dX6_take_0 rfl (lv_at hl 1 rfl) ?_
  obtain ⟨r_2, hc_1, hp⟩ := bn1_s hp
  refine k_ROSN (As := [.int p1]) (rest := []) ⟨hx, hb, hml, hown, hts⟩ hK (show va_P D vwCl [] _ from fun k q h => by simp at h) (cw_X6_140 hts hK.2 ⟨Nat.le_of_ble_eq_true rfl, Nat.le_of_ble_eq_true rfl⟩) (c_X11_isMinute l D cy p1 r_2 hc_1) rfl hl.1 (Nat.le_of_ble_eq_true rfl) ⟨Nat.le_refl _, Nat.le_refl _⟩ dX6_take_1 ?_
  refine lv_if_eq (tgt := 17) hx hb dX6_take_4 (by decide) (fun c_3 => ?_) (fun c_3 => ?_)
  · have hp := ite_p hp c_3
    simp only [Option.some.injEq, Prod.mk.injEq] at hp
    subst hp
    exact e_RV hx hb hr hk hP hD hS dX6_take_17
  · have hp := ite_n hp c_3
    refine lv_aload_n hx hb dX6_take_7 rfl (lv_at hl 0 rfl) ?_
    refine gf_X6_15 hx hb hts hown hK hP 0 rfl rfl dX6_take_8 ?_
    refine lv_iload_n hx hb dX6_take_11 rfl (lv_at hl 1 rfl) ?_
    refine lv_aload_n hx hb dX6_take_12 rfl (lv_at hl 0 rfl) ?_
    refine gf_X6_18 hx hb hts hown hK hP 0 rfl rfl dX6_take_13 ?_
    obtain ⟨hi_4, hp⟩ := ckI_s hp
    obtain ⟨pn_5, epn_5⟩ : ∃ y : Mem, y = upm pn 2 p1.toNatClampNeg (pn 3 0) := ⟨_, rfl⟩
    have hp := stk_e hp epn_5
    refine r_ist hx hb hK hP hD hS (wn := (w_Pl cy qpn pn_5)) 2 rfl hi_4 (by subst epn_5; rfl) dX6_take_16 (fun H locs hP hD hS => ?_)
    simp only [Option.some.injEq, Prod.mk.injEq] at hp
    subst hp
    exact e_RV hx hb hr hk hP hD hS dX6_take_17
/-! StormSlots$Planner.takeFirst(LStormSlots$Rates;I)I -/
def Pl_takeFirst (pn : Mem) (ra : Mem) (p2 : Int32) : Option (Int32 × Mem) :=
  bn1 (Pl_firstFree pn ra p2) (fun r_2 => bn1 (Pl_take pn r_2) (fun pn_4 => some (r_2, pn_4)))
set_option maxHeartbeats 4000000 in
set_option maxRecDepth 100000 in
theorem c_X6_takeFirst (l : Launch) (D : va_G) (cy : Nat → ClassId) (qpn qra : Nat → Nat) (pn ra : Mem) (p2 : Int32) (r : Int32) (pn' : Mem) (hp : Pl_takeFirst pn ra p2 = some (r, pn')) : RI l yX6_takeFirst cX6_takeFirst 4 (some .int) 3 D cy [.ref (qpn 0), .ref (qra 0), .int p2] (w_PlRa cy qpn qra pn ra) (w_PlRa cy qpn qra pn' ra) r := by
  refine RI_of RX6 rfl (by decide) (Nat.le_of_ble_eq_true rfl) ?_
  intro p e s m below meth c A C0 hK hP hD hS hA ls hl
  obtain ⟨hx, hb, hr, hml, hown, hts, hk⟩ := id C0
  unfold Pl_takeFirst at hp
  have hl : lv_has ls 4 [(0, .ref (qpn 0)), (1, .ref (qra 0)), (2, .int p2)] := hl
  refine lv_aload_n hx hb dX6_takeFirst_0 rfl (lv_at hl 0 rfl) ?_
  refine lv_aload_n hx hb dX6_takeFirst_1 rfl (lv_at hl 1 rfl) ?_
  refine lv_iload_n hx hb dX6_takeFirst_2 rfl (lv_at hl 2 rfl) ?_
  obtain ⟨r_2, hc_1, hp⟩ := bn1_s hp
  refine k_ROV (As := [.ref (qra 0), .int p2]) (rest := []) ⟨hx, hb, hml, hown, hts⟩ hK hP (cw_X6_125 hts ⟨Nat.le_of_ble_eq_true rfl, Nat.le_of_ble_eq_true rfl⟩) 0 (ci := 6) rfl rfl rfl (c_X6_firstFree l D cy qpn qra pn ra p2 r_2 hc_1) rfl hl.1 (Nat.le_of_ble_eq_true rfl) ⟨Nat.le_refl _, Nat.le_refl _⟩ dX6_takeFirst_3 ?_
  refine lv_istore_n (lv' := [(3, .int r_2), (0, .ref (qpn 0)), (1, .ref (qra 0)), (2, .int p2)]) hx hb dX6_takeFirst_6 rfl hl (by decide) rfl (fun ls hl => ?_)
  refine lv_aload_n hx hb dX6_takeFirst_7 rfl (lv_at hl 1 rfl) ?_
  refine lv_iload_n hx hb dX6_takeFirst_8 rfl (lv_at hl 0 rfl) ?_
  obtain ⟨pn_4, hc_3, hp⟩ := bn1_s hp
  refine k_RVV (As := [.int r_2]) (rest := []) ⟨hx, hb, hml, hown, hts⟩ hK hP hD hS hA (FrS_set (ws := (w_PlRa cy qpn qra pn ra)) (wc := (w_Pl cy qpn pn)) (w1 := (w_Pl cy qpn pn_4)) (wn := (w_PlRa cy qpn qra pn_4 ra)) [0, 1, 2] [some 0, some 1, some 2, none, none] (by decide +kernel) rfl rfl rfl) (cw_X6_76 hts ⟨Nat.le_of_ble_eq_true rfl, Nat.le_of_ble_eq_true rfl⟩) 0 (ci := 6) rfl rfl rfl (c_X6_take l D cy qpn pn r_2 pn_4 hc_3) rfl hl.1 (Nat.le_of_ble_eq_true rfl) ⟨Nat.le_refl _, Nat.le_refl _⟩ dX6_takeFirst_9 (fun H locs hP hD hS => ?_)
  refine lv_iload_n hx hb dX6_takeFirst_12 rfl (lv_at hl 0 rfl) ?_
  simp only [Option.some.injEq, Prod.mk.injEq] at hp
  obtain ⟨h0, rfl⟩ := hp
  exact e_RIi hx hb hr hk hP hD hS dX6_takeFirst_13 h0
/-! StormSlots$Planner.seatAirborne(LStormSlots$Field;I)I -/
def Pl_seatAirborne_b5B (ro : Mem) (ra : Mem) (p2 : Int32) (k5 : Mem → Mem → Int32 → Int32 → Option (Int32 × Mem × Mem)) (pn : Mem) (fo : Mem) (x3 : Int32) (x4 : Int32) : Option (Int32 × Mem × Mem) :=
  if (pn 1 0) ≤ x4 then some (x3, pn, fo) else if 20 ≤ x4 then some (x3, pn, fo) else ckI x4 20 (stk ((pn 0 x4.toNatClampNeg) &&& 31) (fun x5_4 => bn1 (Fi_isFlight ro x5_4) (fun r_6 => if r_6 = 0 then stk (x4 + 1) (fun x4_21 => k5 pn fo x3 x4_21) else ckI x5_4 20 (stk (fo 5 x5_4.toNatClampNeg) (fun x6_9 => stk ((ro 1 x5_4.toNatClampNeg) + (fo 6 x5_4.toNatClampNeg)) (fun x7_10 => bn2 (Pl_takeFirst pn ra (if x7_10 < p2 then p2 else x7_10)) (fun r_12 pn_13 => bn1 (Fi_seatInAir fo ro x5_4 r_12) (fun fo_15 => if (fo_15 5 x5_4.toNatClampNeg) = x6_9 then stk (x3 + 0) (fun x3_17 => stk (x4 + 1) (fun x4_18 => k5 pn_13 fo_15 x3_17 x4_18)) else stk (x3 + 1) (fun x3_19 => stk (x4 + 1) (fun x4_20 => k5 pn_13 fo_15 x3_19 x4_20))))))))))
def Pl_seatAirborne_b5 (ro : Mem) (ra : Mem) (p2 : Int32) : Nat → Mem → Mem → Int32 → Int32 → Option (Int32 × Mem × Mem)
  | 0 => fun _ _ _ _ => none
  | n + 1 => Pl_seatAirborne_b5B ro ra p2 (Pl_seatAirborne_b5 ro ra p2 n)
def Pl_seatAirborne (pn : Mem) (fo : Mem) (ro : Mem) (ra : Mem) (p2 : Int32) : Option (Int32 × Mem × Mem) :=
  Pl_seatAirborne_b5 ro ra p2 fl pn fo 0 0
set_option maxHeartbeats 4000000 in
set_option maxRecDepth 100000 in
theorem Pl_seatAirborne_b5B_w (C0 : cX RX6 cX6_seatAirborne (some .int) 8 p s m args meth c) (hK : kN D cy s) {qpn qfo qro qra qvc qos qli : Nat → Nat} {ro ra vc os li : Mem} {p2 : Int32} {r : Int32} {pn' fo' : Mem} (hA : ∀ q, s.heap.size ≤ q → A q) {k5 : Mem → Mem → Int32 → Int32 → Option (Int32 × Mem × Mem)} (hk5 : ∀ (pn fo : Mem) (x3 x4 : Int32) (H : Heap) (locs : List Loc) (ls : Array Slot), va_P D vwCl (w_PlFi cy qpn qfo qro qra qvc qos qli pn fo ro ra vc os li) H → va_D A (w_PlFi cy qpn qfo qro qra qvc qos qli pn fo ro ra vc os li) → va_S A s.heap H locs → lv_has ls 8 [(0, .ref (qpn 0)), (1, .ref (qfo 0)), (2, .int p2), (3, .int x3), (4, .int x4)] → k5 pn fo x3 x4 = some (r, pn', fo') → W p l e (rmD 4) s m args below meth c H locs 0 0 (qRI D below args s A (w_PlFi cy qpn qfo qro qra qvc qos qli pn' fo' ro ra vc os li) r) (F0 m 5 ls [])) {pn : Mem} {fo : Mem} {x3 : Int32} {x4 : Int32} {H : Heap} {locs : List Loc} (hP : va_P D vwCl (w_PlFi cy qpn qfo qro qra qvc qos qli pn fo ro ra vc os li) H) (hD : va_D A (w_PlFi cy qpn qfo qro qra qvc qos qli pn fo ro ra vc os li)) (hS : va_S A s.heap H locs) {ls : Array Slot} (hl : lv_has ls 8 [(0, .ref (qpn 0)), (1, .ref (qfo 0)), (2, .int p2), (3, .int x3), (4, .int x4)]) (hp : Pl_seatAirborne_b5B ro ra p2 k5 pn fo x3 x4 = some (r, pn', fo')) : W p l e (rmD 4) s m args below meth c H locs 0 0 (qRI D below args s A (w_PlFi cy qpn qfo qro qra qvc qos qli pn' fo' ro ra vc os li) r) (F0 m 5 ls []) := by
  obtain ⟨hx, hb, hr, hml, hown, hts, hk⟩ := id C0
  unfold Pl_seatAirborne_b5B at hp
  refine lv_iload hx hb dX6_seatAirborne_5 (lv_at hl 4 rfl) ?_
  refine lv_aload_n hx hb dX6_seatAirborne_7 rfl (lv_at hl 0 rfl) ?_
  refine gf_X6_27 hx hb hts hown hK hP 0 rfl rfl dX6_seatAirborne_8 ?_
  refine lv_icmp_ge (tgt := 120) hx hb dX6_seatAirborne_11 (by decide) (fun c_1 => ?_) (fun c_1 => ?_)
  · have hp := ite_p hp c_1
    refine lv_iload_n hx hb dX6_seatAirborne_120 rfl (lv_at hl 3 rfl) ?_
    simp only [Option.some.injEq, Prod.mk.injEq] at hp
    obtain ⟨h0, rfl, rfl⟩ := hp
    exact e_RIi hx hb hr hk hP hD hS dX6_seatAirborne_121 h0
  · have hp := ite_n hp c_1
    refine lv_iload hx hb dX6_seatAirborne_14 (lv_at hl 4 rfl) ?_
    refine lv_bipush (v := 20) hx hb dX6_seatAirborne_16 (by decide) ?_
    refine lv_icmp_ge (tgt := 120) hx hb dX6_seatAirborne_18 (by decide) (fun c_2 => ?_) (fun c_2 => ?_)
    · have hp := ite_p hp c_2
      refine lv_iload_n hx hb dX6_seatAirborne_120 rfl (lv_at hl 3 rfl) ?_
      simp only [Option.some.injEq, Prod.mk.injEq] at hp
      obtain ⟨h0, rfl, rfl⟩ := hp
      exact e_RIi hx hb hr hk hP hD hS dX6_seatAirborne_121 h0
    · have hp := ite_n hp c_2
      refine lv_aload_n hx hb dX6_seatAirborne_21 rfl (lv_at hl 0 rfl) ?_
      refine gf_X6_9 hx hb hts hown hK hP 0 rfl rfl dX6_seatAirborne_22 ?_
      refine lv_iload hx hb dX6_seatAirborne_25 (lv_at hl 4 rfl) ?_
      obtain ⟨hi_3, hp⟩ := ckI_s hp
      refine r_ild hx hb hK hP 1 rfl hi_3 dX6_seatAirborne_27 ?_
      refine lv_bipush (v := 31) hx hb dX6_seatAirborne_28 (by decide) ?_
      refine lv_iand hx hb dX6_seatAirborne_30 ?_
      refine lv_topi (fun x5_4 ex5_4 => ?_)
      have hp := stk_e hp ex5_4
      refine lv_istore (lv' := [(5, .int x5_4), (0, .ref (qpn 0)), (1, .ref (qfo 0)), (2, .int p2), (3, .int x3), (4, .int x4)]) hx hb dX6_seatAirborne_31 hl (by decide) rfl (fun ls hl => ?_)
      refine lv_aload_n hx hb dX6_seatAirborne_33 rfl (lv_at hl 2 rfl) ?_
      refine lv_iload hx hb dX6_seatAirborne_34 (lv_at hl 0 rfl) ?_
      obtain ⟨r_6, hc_5, hp⟩ := bn1_s hp
      refine k_ROV (As := [.int x5_4]) (rest := []) ⟨hx, hb, hml, hown, hts⟩ hK (hP.sub (ws' := (w_Fi cy qfo qro qra qvc qos qli fo ro ra vc os li)) [3, 4, 5, 6, 7, 8, 9, 10, 11, 12, 13, 14, 15, 16, 17, 18, 19, 20, 21, 22, 23, 24, 25] rfl) (cw_X6_30 hts ⟨Nat.le_of_ble_eq_true rfl, Nat.le_of_ble_eq_true rfl⟩) 0 (ci := 2) rfl rfl rfl (c_X2_isFlight l D cy qfo qro qra qvc qos qli fo ro ra vc os li x5_4 r_6 hc_5) rfl hl.1 (Nat.le_of_ble_eq_true rfl) ⟨Nat.le_refl _, Nat.le_refl _⟩ dX6_seatAirborne_36 ?_
      refine lv_if_ne (tgt := 45) hx hb dX6_seatAirborne_39 (by decide) (fun c_7 => ?_) (fun c_7 => ?_)
      · have hp := ite_n hp c_7
        refine lv_aload_n hx hb dX6_seatAirborne_45 rfl (lv_at hl 2 rfl) ?_
        refine gf_X6_73 hx hb hts hown hK hP 3 rfl rfl dX6_seatAirborne_46 ?_
        refine lv_iload hx hb dX6_seatAirborne_49 (lv_at hl 0 rfl) ?_
        obtain ⟨hi_8, hp⟩ := ckI_s hp
        refine r_ild hx hb hK hP 4 rfl hi_8 dX6_seatAirborne_51 ?_
        refine lv_topi (fun x6_9 ex6_9 => ?_)
        have hp := stk_e hp ex6_9
        refine lv_istore (lv' := [(6, .int x6_9), (5, .int x5_4), (0, .ref (qpn 0)), (1, .ref (qfo 0)), (2, .int p2), (3, .int x3), (4, .int x4)]) hx hb dX6_seatAirborne_52 hl (by decide) rfl (fun ls hl => ?_)
        refine lv_aload_n hx hb dX6_seatAirborne_54 rfl (lv_at hl 3 rfl) ?_
        refine gf_X6_41 hx hb hts hown hK hP 3 rfl rfl dX6_seatAirborne_55 ?_
        refine gf_X6_45 hx hb hts hown hK hP 7 rfl rfl dX6_seatAirborne_58 ?_
        refine lv_iload hx hb dX6_seatAirborne_61 (lv_at hl 1 rfl) ?_
        refine r_ild hx hb hK hP 9 rfl hi_8 dX6_seatAirborne_63 ?_
        refine lv_aload_n hx hb dX6_seatAirborne_64 rfl (lv_at hl 3 rfl) ?_
        refine gf_X6_80 hx hb hts hown hK hP 3 rfl rfl dX6_seatAirborne_65 ?_
        refine lv_iload hx hb dX6_seatAirborne_68 (lv_at hl 1 rfl) ?_
        refine r_ild hx hb hK hP 5 rfl hi_8 dX6_seatAirborne_70 ?_
        refine lv_iadd hx hb dX6_seatAirborne_71 ?_
        refine lv_topi (fun x7_10 ex7_10 => ?_)
        have hp := stk_e hp ex7_10
        refine lv_istore (lv' := [(7, .int x7_10), (6, .int x6_9), (5, .int x5_4), (0, .ref (qpn 0)), (1, .ref (qfo 0)), (2, .int p2), (3, .int x3), (4, .int x4)]) hx hb dX6_seatAirborne_72 hl (by decide) rfl (fun ls hl => ?_)
        refine lv_aload_n hx hb dX6_seatAirborne_74 rfl (lv_at hl 4 rfl) ?_
        refine lv_iload hx hb dX6_seatAirborne_75 (lv_at hl 2 rfl) ?_
        refine lv_aload_n hx hb dX6_seatAirborne_77 rfl (lv_at hl 3 rfl) ?_
        refine lv_aload_n hx hb dX6_seatAirborne_78 rfl (lv_at hl 4 rfl) ?_
        refine gf_X6_89 hx hb hts hown hK hP 3 rfl rfl dX6_seatAirborne_79 ?_
        refine lv_iload hx hb dX6_seatAirborne_82 (lv_at hl 0 rfl) ?_
        refine lv_iload_n hx hb dX6_seatAirborne_84 rfl (lv_at hl 5 rfl) ?_
        refine mm_X6_93 hx hb (by rw [hml]; exact hl.1.symm) hts hown (Nat.le_of_ble_eq_true rfl) (Nat.le_of_ble_eq_true rfl) (Nat.le_refl _) (Nat.le_refl _) dX6_seatAirborne_85 ?_
        obtain ⟨r_12, pn_13, hc_11, hp⟩ := bn2_s hp
        refine k_RIV (As := [.ref (qra 0), .int (if x7_10 < p2 then p2 else x7_10)]) (rest := [.int x5_4, .ref (qfo 0)]) ⟨hx, hb, hml, hown, hts⟩ hK hP hD hS hA (FrS_set (ws := (w_PlFi cy qpn qfo qro qra qvc qos qli pn fo ro ra vc os li)) (wc := (w_PlRa cy qpn qra pn ra)) (w1 := (w_PlRa cy qpn qra pn_13 ra)) (wn := (w_PlFi cy qpn qfo qro qra qvc qos qli pn_13 fo ro ra vc os li)) [0, 1, 2, 12, 13] [some 0, some 1, some 2, none, none, none, none, none, none, none, none, none, some 3, some 4, none, none, none, none, none, none, none, none, none, none, none, none] (by decide +kernel) rfl rfl rfl) (cw_X6_99 hts ⟨Nat.le_of_ble_eq_true rfl, Nat.le_of_ble_eq_true rfl⟩) 0 (ci := 6) rfl rfl rfl (c_X6_takeFirst l D cy qpn qra pn ra (if x7_10 < p2 then p2 else x7_10) r_12 pn_13 hc_11) rfl hl.1 (Nat.le_of_ble_eq_true rfl) ⟨Nat.le_refl _, Nat.le_refl _⟩ dX6_seatAirborne_88 (fun H locs hP hD hS => ?_)
        obtain ⟨fo_15, hc_14, hp⟩ := bn1_s hp
        refine k_RVV (As := [.int x5_4, .int r_12]) (rest := []) ⟨hx, hb, hml, hown, hts⟩ hK hP hD hS hA (FrS_set (ws := (w_PlFi cy qpn qfo qro qra qvc qos qli pn_13 fo ro ra vc os li)) (wc := (w_Fi cy qfo qro qra qvc qos qli fo ro ra vc os li)) (w1 := (w_Fi cy qfo qro qra qvc qos qli fo_15 ro ra vc os li)) (wn := (w_PlFi cy qpn qfo qro qra qvc qos qli pn_13 fo_15 ro ra vc os li)) [3, 4, 5, 6, 7, 8, 9, 10, 11, 12, 13, 14, 15, 16, 17, 18, 19, 20, 21, 22, 23, 24, 25] [none, none, none, some 0, some 1, some 2, some 3, some 4, some 5, some 6, some 7, some 8, some 9, some 10, some 11, some 12, some 13, some 14, some 15, some 16, some 17, some 18, some 19, some 20, some 21, some 22] (by decide +kernel) rfl rfl rfl) (cw_X6_103 hts ⟨Nat.le_of_ble_eq_true rfl, Nat.le_of_ble_eq_true rfl⟩) 0 (ci := 2) rfl rfl rfl (c_X2_seatInAir l D cy qfo qro qra qvc qos qli fo ro ra vc os li x5_4 r_12 fo_15 hc_14) rfl hl.1 (Nat.le_of_ble_eq_true rfl) ⟨Nat.le_refl _, Nat.le_refl _⟩ dX6_seatAirborne_91 (fun H locs hP hD hS => ?_)
        refine lv_iload_n hx hb dX6_seatAirborne_94 rfl (lv_at hl 6 rfl) ?_
        refine lv_aload_n hx hb dX6_seatAirborne_95 rfl (lv_at hl 4 rfl) ?_
        refine gf_X6_73 hx hb hts hown hK hP 3 rfl rfl dX6_seatAirborne_96 ?_
        refine lv_iload hx hb dX6_seatAirborne_99 (lv_at hl 2 rfl) ?_
        refine r_ild hx hb hK hP 4 rfl hi_8 dX6_seatAirborne_101 ?_
        refine lv_iload hx hb dX6_seatAirborne_102 (lv_at hl 1 rfl) ?_
        refine lv_icmp_eq (tgt := 111) hx hb dX6_seatAirborne_104 (by decide) (fun c_16 => ?_) (fun c_16 => ?_)
        · have hp := ite_p hp c_16
          refine lv_iconst (v := 0) hx hb dX6_seatAirborne_111 (by decide) ?_
          refine lv_iadd hx hb dX6_seatAirborne_112 ?_
          refine lv_topi (fun x3_17 ex3_17 => ?_)
          have hp := stk_e hp ex3_17
          refine lv_istore_n (lv' := [(3, .int x3_17), (7, .int x7_10), (6, .int x6_9), (5, .int x5_4), (0, .ref (qpn 0)), (1, .ref (qfo 0)), (2, .int p2), (4, .int x4)]) hx hb dX6_seatAirborne_113 rfl hl (by decide) rfl (fun ls hl => ?_)
          obtain ⟨x4_18, ex4_18⟩ : ∃ y : Int32, y = x4 + 1 := ⟨_, rfl⟩
          have hp := stk_e hp ex4_18
          refine lv_iinc (v := x4_18) (lv' := [(4, .int x4_18), (3, .int x3_17), (7, .int x7_10), (6, .int x6_9), (5, .int x5_4), (0, .ref (qpn 0)), (1, .ref (qfo 0)), (2, .int p2)]) hx hb dX6_seatAirborne_114 hl (k := 7) rfl (by rw [ex4_18]; rfl) (by decide) rfl (fun ls hl => ?_)
          refine lv_goto (tgt := 5) hx hb dX6_seatAirborne_117 (by decide) ?_
          exact hk5 pn_13 fo_15 x3_17 x4_18 _ _ _ hP hD hS (lv_sub hl [5, 6, 7, 1, 0] rfl) hp
        · have hp := ite_n hp c_16
          refine lv_iconst (v := 1) hx hb dX6_seatAirborne_107 (by decide) ?_
          refine lv_goto (tgt := 112) hx hb dX6_seatAirborne_108 (by decide) ?_
          refine lv_iadd hx hb dX6_seatAirborne_112 ?_
          refine lv_topi (fun x3_19 ex3_19 => ?_)
          have hp := stk_e hp ex3_19
          refine lv_istore_n (lv' := [(3, .int x3_19), (7, .int x7_10), (6, .int x6_9), (5, .int x5_4), (0, .ref (qpn 0)), (1, .ref (qfo 0)), (2, .int p2), (4, .int x4)]) hx hb dX6_seatAirborne_113 rfl hl (by decide) rfl (fun ls hl => ?_)
          obtain ⟨x4_20, ex4_20⟩ : ∃ y : Int32, y = x4 + 1 := ⟨_, rfl⟩
          have hp := stk_e hp ex4_20
          refine lv_iinc (v := x4_20) (lv' := [(4, .int x4_20), (3, .int x3_19), (7, .int x7_10), (6, .int x6_9), (5, .int x5_4), (0, .ref (qpn 0)), (1, .ref (qfo 0)), (2, .int p2)]) hx hb dX6_seatAirborne_114 hl (k := 7) rfl (by rw [ex4_20]; rfl) (by decide) rfl (fun ls hl => ?_)
          refine lv_goto (tgt := 5) hx hb dX6_seatAirborne_117 (by decide) ?_
          exact hk5 pn_13 fo_15 x3_19 x4_20 _ _ _ hP hD hS (lv_sub hl [5, 6, 7, 1, 0] rfl) hp
      · have hp := ite_p hp c_7
        refine lv_goto (tgt := 114) hx hb dX6_seatAirborne_42 (by decide) ?_
        obtain ⟨x4_21, ex4_21⟩ : ∃ y : Int32, y = x4 + 1 := ⟨_, rfl⟩
        have hp := stk_e hp ex4_21
        refine lv_iinc (v := x4_21) (lv' := [(4, .int x4_21), (5, .int x5_4), (0, .ref (qpn 0)), (1, .ref (qfo 0)), (2, .int p2), (3, .int x3)]) hx hb dX6_seatAirborne_114 hl (k := 5) rfl (by rw [ex4_21]; rfl) (by decide) rfl (fun ls hl => ?_)
        refine lv_goto (tgt := 5) hx hb dX6_seatAirborne_117 (by decide) ?_
        exact hk5 pn fo x3 x4_21 _ _ _ hP hD hS (lv_sub hl [2, 3, 4, 5, 0] rfl) hp
theorem Pl_seatAirborne_b5_w (C0 : cX RX6 cX6_seatAirborne (some .int) 8 p s m args meth c) (hK : kN D cy s) {qpn qfo qro qra qvc qos qli : Nat → Nat} {ro ra vc os li : Mem} {p2 : Int32} {r : Int32} {pn' fo' : Mem} (hA : ∀ q, s.heap.size ≤ q → A q) : ∀ (n : Nat) (pn fo : Mem) (x3 x4 : Int32) (H : Heap) (locs : List Loc) (ls : Array Slot), va_P D vwCl (w_PlFi cy qpn qfo qro qra qvc qos qli pn fo ro ra vc os li) H → va_D A (w_PlFi cy qpn qfo qro qra qvc qos qli pn fo ro ra vc os li) → va_S A s.heap H locs → lv_has ls 8 [(0, .ref (qpn 0)), (1, .ref (qfo 0)), (2, .int p2), (3, .int x3), (4, .int x4)] → Pl_seatAirborne_b5 ro ra p2 n pn fo x3 x4 = some (r, pn', fo') → W p l e (rmD 4) s m args below meth c H locs 0 0 (qRI D below args s A (w_PlFi cy qpn qfo qro qra qvc qos qli pn' fo' ro ra vc os li) r) (F0 m 5 ls []) := by
  intro n
  induction n with
  | zero =>
    intro pn fo x3 x4 H locs ls hP hD hS hl hp
    cases hp
  | succ n ih =>
    intro pn fo x3 x4 H locs ls hP hD hS hl hp
    exact Pl_seatAirborne_b5B_w C0 hK hA  (fun pn fo x3 x4 H locs ls hP hD hS hl hp => ih pn fo x3 x4 H locs ls hP hD hS hl hp) hP hD hS hl hp
set_option maxHeartbeats 4000000 in
set_option maxRecDepth 100000 in
theorem c_X6_seatAirborne (l : Launch) (D : va_G) (cy : Nat → ClassId) (qpn qfo qro qra qvc qos qli : Nat → Nat) (pn fo ro ra vc os li : Mem) (p2 : Int32) (r : Int32) (pn' fo' : Mem) (hp : Pl_seatAirborne pn fo ro ra p2 = some (r, pn', fo')) : RI l yX6_seatAirborne cX6_seatAirborne 8 (some .int) 4 D cy [.ref (qpn 0), .ref (qfo 0), .int p2] (w_PlFi cy qpn qfo qro qra qvc qos qli pn fo ro ra vc os li) (w_PlFi cy qpn qfo qro qra qvc qos qli pn' fo' ro ra vc os li) r := by
  refine RI_of RX6 rfl (by decide) (Nat.le_of_ble_eq_true rfl) ?_
  intro p e s m below meth c A C0 hK hP hD hS hA ls hl
  obtain ⟨hx, hb, hr, hml, hown, hts, hk⟩ := id C0
  unfold Pl_seatAirborne at hp
  have hl : lv_has ls 8 [(0, .ref (qpn 0)), (1, .ref (qfo 0)), (2, .int p2)] := hl
  refine lv_iconst (v := 0) hx hb dX6_seatAirborne_0 (by decide) ?_
  refine lv_istore_n (lv' := [(3, .int 0), (0, .ref (qpn 0)), (1, .ref (qfo 0)), (2, .int p2)]) hx hb dX6_seatAirborne_1 rfl hl (by decide) rfl (fun ls hl => ?_)
  refine lv_iconst (v := 0) hx hb dX6_seatAirborne_2 (by decide) ?_
  refine lv_istore (lv' := [(4, .int 0), (3, .int 0), (0, .ref (qpn 0)), (1, .ref (qfo 0)), (2, .int p2)]) hx hb dX6_seatAirborne_3 hl (by decide) rfl (fun ls hl => ?_)
  exact Pl_seatAirborne_b5_w C0 hK hA  fl pn fo 0 0 _ _ _ hP hD hS (lv_sub hl [2, 3, 4, 1, 0] rfl) hp
/-! StormSlots$Planner.turnOf(LStormSlots$Field;I)I -/
def Pl_turnOf_b16B (fo : Mem) (ro : Mem) (p2 : Int32) (k16 : Int32 → Int32 → Int32 → Option (Int32)) (x3 : Int32) (x4 : Int32) (x5 : Int32) : Option (Int32) :=
  if 20 ≤ x5 then some x4 else bn1 (Ro_sameLine ro p2 x5) (fun r_5 => if r_5 = 0 then stk (x5 + 1) (fun x5_7 => k16 x3 x4 x5_7) else bn1 (Fi_off ro x5) (fun r_9 => if (fo 9 0) < r_9 then ckI x5 20 (stk (ro 1 x5.toNatClampNeg) (fun x6_12 => if x6_12 < x3 then stk (x4 + 1) (fun x4_14 => stk (x5 + 1) (fun x5_15 => k16 x3 x4_14 x5_15)) else if x6_12 = x3 then if p2 ≤ x5 then stk (x5 + 1) (fun x5_19 => k16 x3 x4 x5_19) else stk (x4 + 1) (fun x4_20 => stk (x5 + 1) (fun x5_21 => k16 x3 x4_20 x5_21)) else stk (x5 + 1) (fun x5_17 => k16 x3 x4 x5_17))) else stk (x5 + 1) (fun x5_22 => k16 x3 x4 x5_22)))
def Pl_turnOf_b16 (fo : Mem) (ro : Mem) (p2 : Int32) : Nat → Int32 → Int32 → Int32 → Option (Int32)
  | 0 => fun _ _ _ => none
  | n + 1 => Pl_turnOf_b16B fo ro p2 (Pl_turnOf_b16 fo ro p2 n)
def Pl_turnOf (fo : Mem) (ro : Mem) (p2 : Int32) : Option (Int32) :=
  ckI p2 20 (stk (ro 1 p2.toNatClampNeg) (fun x3_2 => Pl_turnOf_b16 fo ro p2 fl x3_2 0 0))
set_option maxHeartbeats 4000000 in
set_option maxRecDepth 100000 in
theorem Pl_turnOf_b16B_w (C0 : cX RX6 cX6_turnOf (some .int) 7 p s m args meth c) (hK : kN D cy s) {qpn qfo qro qra qvc qos qli : Nat → Nat} {pn fo ro ra vc os li : Mem} {p2 : Int32} {r : Int32} (hP : va_P D vwCl (w_PlFi cy qpn qfo qro qra qvc qos qli pn fo ro ra vc os li) s.heap) {k16 : Int32 → Int32 → Int32 → Option (Int32)} (hk16 : ∀ (x3 x4 x5 : Int32) (ls : Array Slot), lv_has ls 7 [(0, .ref (qpn 0)), (1, .ref (qfo 0)), (2, .int p2), (3, .int x3), (4, .int x4), (5, .int x5)] → k16 x3 x4 x5 = some r → W p l e (rmD 2) s m args below meth c s.heap [] 0 0 (qRO below args s r) (F0 m 16 ls [])) {x3 : Int32} {x4 : Int32} {x5 : Int32} {ls : Array Slot} (hl : lv_has ls 7 [(0, .ref (qpn 0)), (1, .ref (qfo 0)), (2, .int p2), (3, .int x3), (4, .int x4), (5, .int x5)]) (hp : Pl_turnOf_b16B fo ro p2 k16 x3 x4 x5 = some r) : W p l e (rmD 2) s m args below meth c s.heap [] 0 0 (qRO below args s r) (F0 m 16 ls []) := by
  obtain ⟨hx, hb, hr, hml, hown, hts, hk⟩ := id C0
  unfold Pl_turnOf_b16B at hp
  refine lv_iload hx hb dX6_turnOf_16 (lv_at hl 5 rfl) ?_
  refine lv_bipush (v := 20) hx hb dX6_turnOf_18 (by decide) ?_
  refine lv_icmp_ge (tgt := 91) hx hb dX6_turnOf_20 (by decide) (fun c_3 => ?_) (fun c_3 => ?_)
  · have hp := ite_p hp c_3
    refine lv_iload hx hb dX6_turnOf_91 (lv_at hl 4 rfl) ?_
    exact e_ROi hx hb hr hk dX6_turnOf_93 (Option.some.inj hp)
  · have hp := ite_n hp c_3
    refine lv_aload_n hx hb dX6_turnOf_23 rfl (lv_at hl 1 rfl) ?_
    refine gf_X6_41 hx hb hts hown hK hP 3 rfl rfl dX6_turnOf_24 ?_
    refine lv_iload_n hx hb dX6_turnOf_27 rfl (lv_at hl 2 rfl) ?_
    refine lv_iload hx hb dX6_turnOf_28 (lv_at hl 5 rfl) ?_
    obtain ⟨r_5, hc_4, hp⟩ := bn1_s hp
    refine k_ROV (As := [.int p2, .int x5]) (rest := []) ⟨hx, hb, hml, hown, hts⟩ hK (hP.sub (ws' := (w_Ro cy qro ro)) [7, 8, 9, 10, 11] rfl) (cw_X6_121 hts ⟨Nat.le_of_ble_eq_true rfl, Nat.le_of_ble_eq_true rfl⟩) 0 (ci := 9) rfl rfl rfl (c_X9_sameLine l D cy qro ro p2 x5 r_5 hc_4) rfl hl.1 (Nat.le_of_ble_eq_true rfl) ⟨Nat.le_refl _, Nat.le_refl _⟩ dX6_turnOf_30 ?_
    refine lv_if_eq (tgt := 85) hx hb dX6_turnOf_33 (by decide) (fun c_6 => ?_) (fun c_6 => ?_)
    · have hp := ite_p hp c_6
      obtain ⟨x5_7, ex5_7⟩ : ∃ y : Int32, y = x5 + 1 := ⟨_, rfl⟩
      have hp := stk_e hp ex5_7
      refine lv_iinc (v := x5_7) (lv' := [(5, .int x5_7), (0, .ref (qpn 0)), (1, .ref (qfo 0)), (2, .int p2), (3, .int x3), (4, .int x4)]) hx hb dX6_turnOf_85 hl (k := 5) rfl (by rw [ex5_7]; rfl) (by decide) rfl (fun ls hl => ?_)
      refine lv_goto (tgt := 16) hx hb dX6_turnOf_88 (by decide) ?_
      exact hk16 x3 x4 x5_7 _ (lv_sub hl [1, 2, 3, 4, 5, 0] rfl) hp
    · have hp := ite_n hp c_6
      refine lv_aload_n hx hb dX6_turnOf_36 rfl (lv_at hl 1 rfl) ?_
      refine lv_iload hx hb dX6_turnOf_37 (lv_at hl 5 rfl) ?_
      obtain ⟨r_9, hc_8, hp⟩ := bn1_s hp
      refine k_ROV (As := [.int x5]) (rest := []) ⟨hx, hb, hml, hown, hts⟩ hK (hP.sub (ws' := (w_Fi cy qfo qro qra qvc qos qli fo ro ra vc os li)) [3, 4, 5, 6, 7, 8, 9, 10, 11, 12, 13, 14, 15, 16, 17, 18, 19, 20, 21, 22, 23, 24, 25] rfl) (cw_X6_34 hts ⟨Nat.le_of_ble_eq_true rfl, Nat.le_of_ble_eq_true rfl⟩) 0 (ci := 2) rfl rfl rfl (c_X2_off l D cy qfo qro qra qvc qos qli fo ro ra vc os li x5 r_9 hc_8) rfl hl.1 (Nat.le_of_ble_eq_true rfl) ⟨Nat.le_refl _, Nat.le_refl _⟩ dX6_turnOf_39 ?_
      refine lv_aload_n hx hb dX6_turnOf_42 rfl (lv_at hl 1 rfl) ?_
      refine gf_X6_38 hx hb hts hown hK hP 3 rfl rfl dX6_turnOf_43 ?_
      refine lv_icmp_gt (tgt := 52) hx hb dX6_turnOf_46 (by decide) (fun c_10 => ?_) (fun c_10 => ?_)
      · have hp := ite_p hp c_10
        refine lv_aload_n hx hb dX6_turnOf_52 rfl (lv_at hl 1 rfl) ?_
        refine gf_X6_41 hx hb hts hown hK hP 3 rfl rfl dX6_turnOf_53 ?_
        refine gf_X6_45 hx hb hts hown hK hP 7 rfl rfl dX6_turnOf_56 ?_
        refine lv_iload hx hb dX6_turnOf_59 (lv_at hl 5 rfl) ?_
        obtain ⟨hi_11, hp⟩ := ckI_s hp
        refine r_ild hx hb hK hP 9 rfl hi_11 dX6_turnOf_61 ?_
        refine lv_topi (fun x6_12 ex6_12 => ?_)
        have hp := stk_e hp ex6_12
        refine lv_istore (lv' := [(6, .int x6_12), (0, .ref (qpn 0)), (1, .ref (qfo 0)), (2, .int p2), (3, .int x3), (4, .int x4), (5, .int x5)]) hx hb dX6_turnOf_62 hl (by decide) rfl (fun ls hl => ?_)
        refine lv_iload hx hb dX6_turnOf_64 (lv_at hl 0 rfl) ?_
        refine lv_iload_n hx hb dX6_turnOf_66 rfl (lv_at hl 4 rfl) ?_
        refine lv_icmp_lt (tgt := 82) hx hb dX6_turnOf_67 (by decide) (fun c_13 => ?_) (fun c_13 => ?_)
        · have hp := ite_p hp c_13
          obtain ⟨x4_14, ex4_14⟩ : ∃ y : Int32, y = x4 + 1 := ⟨_, rfl⟩
          have hp := stk_e hp ex4_14
          refine lv_iinc (v := x4_14) (lv' := [(4, .int x4_14), (6, .int x6_12), (0, .ref (qpn 0)), (1, .ref (qfo 0)), (2, .int p2), (3, .int x3), (5, .int x5)]) hx hb dX6_turnOf_82 hl (k := 5) rfl (by rw [ex4_14]; rfl) (by decide) rfl (fun ls hl => ?_)
          obtain ⟨x5_15, ex5_15⟩ : ∃ y : Int32, y = x5 + 1 := ⟨_, rfl⟩
          have hp := stk_e hp ex5_15
          refine lv_iinc (v := x5_15) (lv' := [(5, .int x5_15), (4, .int x4_14), (6, .int x6_12), (0, .ref (qpn 0)), (1, .ref (qfo 0)), (2, .int p2), (3, .int x3)]) hx hb dX6_turnOf_85 hl (k := 6) rfl (by rw [ex5_15]; rfl) (by decide) rfl (fun ls hl => ?_)
          refine lv_goto (tgt := 16) hx hb dX6_turnOf_88 (by decide) ?_
          exact hk16 x3 x4_14 x5_15 _ (lv_sub hl [3, 4, 5, 6, 1, 0] rfl) hp
        · have hp := ite_n hp c_13
          refine lv_iload hx hb dX6_turnOf_70 (lv_at hl 0 rfl) ?_
          refine lv_iload_n hx hb dX6_turnOf_72 rfl (lv_at hl 4 rfl) ?_
          refine lv_icmp_ne (tgt := 85) hx hb dX6_turnOf_73 (by decide) (fun c_16 => ?_) (fun c_16 => ?_)
          · have hp := ite_n hp c_16
            obtain ⟨x5_17, ex5_17⟩ : ∃ y : Int32, y = x5 + 1 := ⟨_, rfl⟩
            have hp := stk_e hp ex5_17
            refine lv_iinc (v := x5_17) (lv' := [(5, .int x5_17), (6, .int x6_12), (0, .ref (qpn 0)), (1, .ref (qfo 0)), (2, .int p2), (3, .int x3), (4, .int x4)]) hx hb dX6_turnOf_85 hl (k := 6) rfl (by rw [ex5_17]; rfl) (by decide) rfl (fun ls hl => ?_)
            refine lv_goto (tgt := 16) hx hb dX6_turnOf_88 (by decide) ?_
            exact hk16 x3 x4 x5_17 _ (lv_sub hl [2, 3, 4, 5, 6, 0] rfl) hp
          · have hp := ite_p hp c_16
            refine lv_iload hx hb dX6_turnOf_76 (lv_at hl 6 rfl) ?_
            refine lv_iload_n hx hb dX6_turnOf_78 rfl (lv_at hl 3 rfl) ?_
            refine lv_icmp_ge (tgt := 85) hx hb dX6_turnOf_79 (by decide) (fun c_18 => ?_) (fun c_18 => ?_)
            · have hp := ite_p hp c_18
              obtain ⟨x5_19, ex5_19⟩ : ∃ y : Int32, y = x5 + 1 := ⟨_, rfl⟩
              have hp := stk_e hp ex5_19
              refine lv_iinc (v := x5_19) (lv' := [(5, .int x5_19), (6, .int x6_12), (0, .ref (qpn 0)), (1, .ref (qfo 0)), (2, .int p2), (3, .int x3), (4, .int x4)]) hx hb dX6_turnOf_85 hl (k := 6) rfl (by rw [ex5_19]; rfl) (by decide) rfl (fun ls hl => ?_)
              refine lv_goto (tgt := 16) hx hb dX6_turnOf_88 (by decide) ?_
              exact hk16 x3 x4 x5_19 _ (lv_sub hl [2, 3, 4, 5, 6, 0] rfl) hp
            · have hp := ite_n hp c_18
              obtain ⟨x4_20, ex4_20⟩ : ∃ y : Int32, y = x4 + 1 := ⟨_, rfl⟩
              have hp := stk_e hp ex4_20
              refine lv_iinc (v := x4_20) (lv' := [(4, .int x4_20), (6, .int x6_12), (0, .ref (qpn 0)), (1, .ref (qfo 0)), (2, .int p2), (3, .int x3), (5, .int x5)]) hx hb dX6_turnOf_82 hl (k := 5) rfl (by rw [ex4_20]; rfl) (by decide) rfl (fun ls hl => ?_)
              obtain ⟨x5_21, ex5_21⟩ : ∃ y : Int32, y = x5 + 1 := ⟨_, rfl⟩
              have hp := stk_e hp ex5_21
              refine lv_iinc (v := x5_21) (lv' := [(5, .int x5_21), (4, .int x4_20), (6, .int x6_12), (0, .ref (qpn 0)), (1, .ref (qfo 0)), (2, .int p2), (3, .int x3)]) hx hb dX6_turnOf_85 hl (k := 6) rfl (by rw [ex5_21]; rfl) (by decide) rfl (fun ls hl => ?_)
              refine lv_goto (tgt := 16) hx hb dX6_turnOf_88 (by decide) ?_
              exact hk16 x3 x4_20 x5_21 _ (lv_sub hl [3, 4, 5, 6, 1, 0] rfl) hp
      · have hp := ite_n hp c_10
        refine lv_goto (tgt := 85) hx hb dX6_turnOf_49 (by decide) ?_
        obtain ⟨x5_22, ex5_22⟩ : ∃ y : Int32, y = x5 + 1 := ⟨_, rfl⟩
        have hp := stk_e hp ex5_22
        refine lv_iinc (v := x5_22) (lv' := [(5, .int x5_22), (0, .ref (qpn 0)), (1, .ref (qfo 0)), (2, .int p2), (3, .int x3), (4, .int x4)]) hx hb dX6_turnOf_85 hl (k := 5) rfl (by rw [ex5_22]; rfl) (by decide) rfl (fun ls hl => ?_)
        refine lv_goto (tgt := 16) hx hb dX6_turnOf_88 (by decide) ?_
        exact hk16 x3 x4 x5_22 _ (lv_sub hl [1, 2, 3, 4, 5, 0] rfl) hp
theorem Pl_turnOf_b16_w (C0 : cX RX6 cX6_turnOf (some .int) 7 p s m args meth c) (hK : kN D cy s) {qpn qfo qro qra qvc qos qli : Nat → Nat} {pn fo ro ra vc os li : Mem} {p2 : Int32} {r : Int32} (hP : va_P D vwCl (w_PlFi cy qpn qfo qro qra qvc qos qli pn fo ro ra vc os li) s.heap) : ∀ (n : Nat) (x3 x4 x5 : Int32) (ls : Array Slot), lv_has ls 7 [(0, .ref (qpn 0)), (1, .ref (qfo 0)), (2, .int p2), (3, .int x3), (4, .int x4), (5, .int x5)] → Pl_turnOf_b16 fo ro p2 n x3 x4 x5 = some r → W p l e (rmD 2) s m args below meth c s.heap [] 0 0 (qRO below args s r) (F0 m 16 ls []) := by
  intro n
  induction n with
  | zero =>
    intro x3 x4 x5 ls hl hp
    cases hp
  | succ n ih =>
    intro x3 x4 x5 ls hl hp
    exact Pl_turnOf_b16B_w C0 hK hP  (fun x3 x4 x5 ls hl hp => ih x3 x4 x5 ls hl hp) hl hp
set_option maxHeartbeats 4000000 in
set_option maxRecDepth 100000 in
theorem c_X6_turnOf (l : Launch) (D : va_G) (cy : Nat → ClassId) (qpn qfo qro qra qvc qos qli : Nat → Nat) (pn fo ro ra vc os li : Mem) (p2 : Int32) (r : Int32) (hp : Pl_turnOf fo ro p2 = some r) : RO l yX6_turnOf cX6_turnOf 7 (some .int) 2 D cy [.ref (qpn 0), .ref (qfo 0), .int p2] (w_PlFi cy qpn qfo qro qra qvc qos qli pn fo ro ra vc os li) r := by
  refine RO_of RX6 rfl (by decide) (Nat.le_of_ble_eq_true rfl) ?_
  intro p e s m below meth c C0 hK hP ls hl
  obtain ⟨hx, hb, hr, hml, hown, hts, hk⟩ := id C0
  unfold Pl_turnOf at hp
  have hl : lv_has ls 7 [(0, .ref (qpn 0)), (1, .ref (qfo 0)), (2, .int p2)] := hl
  refine lv_aload_n hx hb dX6_turnOf_0 rfl (lv_at hl 1 rfl) ?_
  refine gf_X6_41 hx hb hts hown hK hP 3 rfl rfl dX6_turnOf_1 ?_
  refine gf_X6_45 hx hb hts hown hK hP 7 rfl rfl dX6_turnOf_4 ?_
  refine lv_iload_n hx hb dX6_turnOf_7 rfl (lv_at hl 2 rfl) ?_
  obtain ⟨hi_1, hp⟩ := ckI_s hp
  refine r_ild hx hb hK hP 9 rfl hi_1 dX6_turnOf_8 ?_
  refine lv_topi (fun x3_2 ex3_2 => ?_)
  have hp := stk_e hp ex3_2
  refine lv_istore_n (lv' := [(3, .int x3_2), (0, .ref (qpn 0)), (1, .ref (qfo 0)), (2, .int p2)]) hx hb dX6_turnOf_9 rfl hl (by decide) rfl (fun ls hl => ?_)
  refine lv_iconst (v := 0) hx hb dX6_turnOf_10 (by decide) ?_
  refine lv_istore (lv' := [(4, .int 0), (3, .int x3_2), (0, .ref (qpn 0)), (1, .ref (qfo 0)), (2, .int p2)]) hx hb dX6_turnOf_11 hl (by decide) rfl (fun ls hl => ?_)
  refine lv_iconst (v := 0) hx hb dX6_turnOf_13 (by decide) ?_
  refine lv_istore (lv' := [(5, .int 0), (4, .int 0), (3, .int x3_2), (0, .ref (qpn 0)), (1, .ref (qfo 0)), (2, .int p2)]) hx hb dX6_turnOf_14 hl (by decide) rfl (fun ls hl => ?_)
  exact Pl_turnOf_b16_w C0 hK hP  fl x3_2 0 0 _ (lv_sub hl [3, 4, 5, 2, 1, 0] rfl) hp
/-! StormSlots$Planner.keyOf(LStormSlots$Field;II)I -/
def Pl_keyOf (fo : Mem) (ro : Mem) (p2 : Int32) (p3 : Int32) : Option (Int32) :=
  ckI p2 20 (stk (ro 1 p2.toNatClampNeg) (fun x4_2 => if p3 = 1 then some (((9 - (ro 3 p2.toNatClampNeg)) * 720) + x4_2) else if p3 = 2 then bn1 (Pl_turnOf fo ro p2) (fun r_6 => some ((r_6 * 5) + (ro 0 p2.toNatClampNeg))) else some x4_2))
set_option maxHeartbeats 4000000 in
set_option maxRecDepth 100000 in
theorem c_X6_keyOf (l : Launch) (D : va_G) (cy : Nat → ClassId) (qpn qfo qro qra qvc qos qli : Nat → Nat) (pn fo ro ra vc os li : Mem) (p2 p3 : Int32) (r : Int32) (hp : Pl_keyOf fo ro p2 p3 = some r) : RO l yX6_keyOf cX6_keyOf 5 (some .int) 3 D cy [.ref (qpn 0), .ref (qfo 0), .int p2, .int p3] (w_PlFi cy qpn qfo qro qra qvc qos qli pn fo ro ra vc os li) r := by
  refine RO_of RX6 rfl (by decide) (Nat.le_of_ble_eq_true rfl) ?_
  intro p e s m below meth c C0 hK hP ls hl
  obtain ⟨hx, hb, hr, hml, hown, hts, hk⟩ := id C0
  unfold Pl_keyOf at hp
  have hl : lv_has ls 5 [(0, .ref (qpn 0)), (1, .ref (qfo 0)), (2, .int p2), (3, .int p3)] := hl
  refine lv_aload_n hx hb dX6_keyOf_0 rfl (lv_at hl 1 rfl) ?_
  refine gf_X6_41 hx hb hts hown hK hP 3 rfl rfl dX6_keyOf_1 ?_
  refine gf_X6_45 hx hb hts hown hK hP 7 rfl rfl dX6_keyOf_4 ?_
  refine lv_iload_n hx hb dX6_keyOf_7 rfl (lv_at hl 2 rfl) ?_
  obtain ⟨hi_1, hp⟩ := ckI_s hp
  refine r_ild hx hb hK hP 9 rfl hi_1 dX6_keyOf_8 ?_
  refine lv_topi (fun x4_2 ex4_2 => ?_)
  have hp := stk_e hp ex4_2
  refine lv_istore (lv' := [(4, .int x4_2), (0, .ref (qpn 0)), (1, .ref (qfo 0)), (2, .int p2), (3, .int p3)]) hx hb dX6_keyOf_9 hl (by decide) rfl (fun ls hl => ?_)
  refine lv_iload_n hx hb dX6_keyOf_11 rfl (lv_at hl 4 rfl) ?_
  refine lv_iconst (v := 1) hx hb dX6_keyOf_12 (by decide) ?_
  refine lv_icmp_ne (tgt := 36) hx hb dX6_keyOf_13 (by decide) (fun c_3 => ?_) (fun c_3 => ?_)
  · have hp := ite_n hp c_3
    refine lv_iload_n hx hb dX6_keyOf_36 rfl (lv_at hl 4 rfl) ?_
    refine lv_iconst (v := 2) hx hb dX6_keyOf_37 (by decide) ?_
    refine lv_icmp_ne (tgt := 60) hx hb dX6_keyOf_38 (by decide) (fun c_4 => ?_) (fun c_4 => ?_)
    · have hp := ite_n hp c_4
      refine lv_iload hx hb dX6_keyOf_60 (lv_at hl 0 rfl) ?_
      exact e_ROi hx hb hr hk dX6_keyOf_62 (Option.some.inj hp)
    · have hp := ite_p hp c_4
      refine lv_aload_n hx hb dX6_keyOf_41 rfl (lv_at hl 1 rfl) ?_
      refine lv_aload_n hx hb dX6_keyOf_42 rfl (lv_at hl 2 rfl) ?_
      refine lv_iload_n hx hb dX6_keyOf_43 rfl (lv_at hl 3 rfl) ?_
      obtain ⟨r_6, hc_5, hp⟩ := bn1_s hp
      refine k_ROV (As := [.ref (qfo 0), .int p2]) (rest := []) ⟨hx, hb, hml, hown, hts⟩ hK hP (cw_X6_115 hts ⟨Nat.le_of_ble_eq_true rfl, Nat.le_of_ble_eq_true rfl⟩) 0 (ci := 6) rfl rfl rfl (c_X6_turnOf l D cy qpn qfo qro qra qvc qos qli pn fo ro ra vc os li p2 r_6 hc_5) rfl hl.1 (Nat.le_of_ble_eq_true rfl) ⟨Nat.le_refl _, Nat.le_refl _⟩ dX6_keyOf_44 ?_
      refine lv_iconst (v := 5) hx hb dX6_keyOf_47 (by decide) ?_
      refine lv_imul hx hb dX6_keyOf_48 ?_
      refine lv_aload_n hx hb dX6_keyOf_49 rfl (lv_at hl 2 rfl) ?_
      refine gf_X6_41 hx hb hts hown hK hP 3 rfl rfl dX6_keyOf_50 ?_
      refine gf_X6_118 hx hb hts hown hK hP 7 rfl rfl dX6_keyOf_53 ?_
      refine lv_iload_n hx hb dX6_keyOf_56 rfl (lv_at hl 3 rfl) ?_
      refine r_ild hx hb hK hP 8 rfl hi_1 dX6_keyOf_57 ?_
      refine lv_iadd hx hb dX6_keyOf_58 ?_
      exact e_ROi hx hb hr hk dX6_keyOf_59 (Option.some.inj hp)
  · have hp := ite_p hp c_3
    refine lv_bipush (v := 9) hx hb dX6_keyOf_16 (by decide) ?_
    refine lv_aload_n hx hb dX6_keyOf_18 rfl (lv_at hl 2 rfl) ?_
    refine gf_X6_41 hx hb hts hown hK hP 3 rfl rfl dX6_keyOf_19 ?_
    refine gf_X6_112 hx hb hts hown hK hP 7 rfl rfl dX6_keyOf_22 ?_
    refine lv_iload_n hx hb dX6_keyOf_25 rfl (lv_at hl 3 rfl) ?_
    refine r_ild hx hb hK hP 11 rfl hi_1 dX6_keyOf_26 ?_
    refine lv_isub hx hb dX6_keyOf_27 ?_
    refine lv_sipush (v := 720) hx hb dX6_keyOf_28 (by decide) ?_
    refine lv_imul hx hb dX6_keyOf_31 ?_
    refine lv_iload hx hb dX6_keyOf_32 (lv_at hl 0 rfl) ?_
    refine lv_iadd hx hb dX6_keyOf_34 ?_
    exact e_ROi hx hb hr hk dX6_keyOf_35 (Option.some.inj hp)
/-! StormSlots$Planner.seatGrounded(LStormSlots$Field;)I -/
def Pl_seatGrounded_b4B (ro : Mem) (ra : Mem) (k4 : Mem → Mem → Int32 → Int32 → Option (Int32 × Mem × Mem)) (pn : Mem) (fo : Mem) (x2 : Int32) (x3 : Int32) : Option (Int32 × Mem × Mem) :=
  if (pn 1 0) ≤ x3 then some (x2, pn, fo) else if 20 ≤ x3 then some (x2, pn, fo) else ckI x3 20 (stk ((pn 0 x3.toNatClampNeg) &&& 31) (fun x4_4 => bn1 (Fi_isFlight ro x4_4) (fun r_6 => if r_6 = 0 then stk (x3 + 1) (fun x3_22 => k4 pn fo x2 x3_22) else ckI x4_4 20 (stk (fo 5 x4_4.toNatClampNeg) (fun x5_9 => bn1 (Fi_earliest fo ro x4_4) (fun r_11 => bn2 (Pl_takeFirst pn ra r_11) (fun r_13 pn_14 => bn1 (Fi_seatOnGround fo ro x4_4 r_13) (fun fo_16 => if (fo_16 5 x4_4.toNatClampNeg) = x5_9 then stk (x2 + 0) (fun x2_18 => stk (x3 + 1) (fun x3_19 => k4 pn_14 fo_16 x2_18 x3_19)) else stk (x2 + 1) (fun x2_20 => stk (x3 + 1) (fun x3_21 => k4 pn_14 fo_16 x2_20 x3_21))))))))))
def Pl_seatGrounded_b4 (ro : Mem) (ra : Mem) : Nat → Mem → Mem → Int32 → Int32 → Option (Int32 × Mem × Mem)
  | 0 => fun _ _ _ _ => none
  | n + 1 => Pl_seatGrounded_b4B ro ra (Pl_seatGrounded_b4 ro ra n)
def Pl_seatGrounded (pn : Mem) (fo : Mem) (ro : Mem) (ra : Mem) : Option (Int32 × Mem × Mem) :=
  Pl_seatGrounded_b4 ro ra fl pn fo 0 0
set_option maxHeartbeats 4000000 in
set_option maxRecDepth 100000 in
theorem Pl_seatGrounded_b4B_w (C0 : cX RX6 cX6_seatGrounded (some .int) 6 p s m args meth c) (hK : kN D cy s) {qpn qfo qro qra qvc qos qli : Nat → Nat} {ro ra vc os li : Mem} {r : Int32} {pn' fo' : Mem} (hA : ∀ q, s.heap.size ≤ q → A q) {k4 : Mem → Mem → Int32 → Int32 → Option (Int32 × Mem × Mem)} (hk4 : ∀ (pn fo : Mem) (x2 x3 : Int32) (H : Heap) (locs : List Loc) (ls : Array Slot), va_P D vwCl (w_PlFi cy qpn qfo qro qra qvc qos qli pn fo ro ra vc os li) H → va_D A (w_PlFi cy qpn qfo qro qra qvc qos qli pn fo ro ra vc os li) → va_S A s.heap H locs → lv_has ls 6 [(0, .ref (qpn 0)), (1, .ref (qfo 0)), (2, .int x2), (3, .int x3)] → k4 pn fo x2 x3 = some (r, pn', fo') → W p l e (rmD 4) s m args below meth c H locs 0 0 (qRI D below args s A (w_PlFi cy qpn qfo qro qra qvc qos qli pn' fo' ro ra vc os li) r) (F0 m 4 ls [])) {pn : Mem} {fo : Mem} {x2 : Int32} {x3 : Int32} {H : Heap} {locs : List Loc} (hP : va_P D vwCl (w_PlFi cy qpn qfo qro qra qvc qos qli pn fo ro ra vc os li) H) (hD : va_D A (w_PlFi cy qpn qfo qro qra qvc qos qli pn fo ro ra vc os li)) (hS : va_S A s.heap H locs) {ls : Array Slot} (hl : lv_has ls 6 [(0, .ref (qpn 0)), (1, .ref (qfo 0)), (2, .int x2), (3, .int x3)]) (hp : Pl_seatGrounded_b4B ro ra k4 pn fo x2 x3 = some (r, pn', fo')) : W p l e (rmD 4) s m args below meth c H locs 0 0 (qRI D below args s A (w_PlFi cy qpn qfo qro qra qvc qos qli pn' fo' ro ra vc os li) r) (F0 m 4 ls []) := by
  obtain ⟨hx, hb, hr, hml, hown, hts, hk⟩ := id C0
  unfold Pl_seatGrounded_b4B at hp
  refine lv_iload_n hx hb dX6_seatGrounded_4 rfl (lv_at hl 3 rfl) ?_
  refine lv_aload_n hx hb dX6_seatGrounded_5 rfl (lv_at hl 0 rfl) ?_
  refine gf_X6_27 hx hb hts hown hK hP 0 rfl rfl dX6_seatGrounded_6 ?_
  refine lv_icmp_ge (tgt := 96) hx hb dX6_seatGrounded_9 (by decide) (fun c_1 => ?_) (fun c_1 => ?_)
  · have hp := ite_p hp c_1
    refine lv_iload_n hx hb dX6_seatGrounded_96 rfl (lv_at hl 2 rfl) ?_
    simp only [Option.some.injEq, Prod.mk.injEq] at hp
    obtain ⟨h0, rfl, rfl⟩ := hp
    exact e_RIi hx hb hr hk hP hD hS dX6_seatGrounded_97 h0
  · have hp := ite_n hp c_1
    refine lv_iload_n hx hb dX6_seatGrounded_12 rfl (lv_at hl 3 rfl) ?_
    refine lv_bipush (v := 20) hx hb dX6_seatGrounded_13 (by decide) ?_
    refine lv_icmp_ge (tgt := 96) hx hb dX6_seatGrounded_15 (by decide) (fun c_2 => ?_) (fun c_2 => ?_)
    · have hp := ite_p hp c_2
      refine lv_iload_n hx hb dX6_seatGrounded_96 rfl (lv_at hl 2 rfl) ?_
      simp only [Option.some.injEq, Prod.mk.injEq] at hp
      obtain ⟨h0, rfl, rfl⟩ := hp
      exact e_RIi hx hb hr hk hP hD hS dX6_seatGrounded_97 h0
    · have hp := ite_n hp c_2
      refine lv_aload_n hx hb dX6_seatGrounded_18 rfl (lv_at hl 0 rfl) ?_
      refine gf_X6_9 hx hb hts hown hK hP 0 rfl rfl dX6_seatGrounded_19 ?_
      refine lv_iload_n hx hb dX6_seatGrounded_22 rfl (lv_at hl 3 rfl) ?_
      obtain ⟨hi_3, hp⟩ := ckI_s hp
      refine r_ild hx hb hK hP 1 rfl hi_3 dX6_seatGrounded_23 ?_
      refine lv_bipush (v := 31) hx hb dX6_seatGrounded_24 (by decide) ?_
      refine lv_iand hx hb dX6_seatGrounded_26 ?_
      refine lv_topi (fun x4_4 ex4_4 => ?_)
      have hp := stk_e hp ex4_4
      refine lv_istore (lv' := [(4, .int x4_4), (0, .ref (qpn 0)), (1, .ref (qfo 0)), (2, .int x2), (3, .int x3)]) hx hb dX6_seatGrounded_27 hl (by decide) rfl (fun ls hl => ?_)
      refine lv_aload_n hx hb dX6_seatGrounded_29 rfl (lv_at hl 2 rfl) ?_
      refine lv_iload hx hb dX6_seatGrounded_30 (lv_at hl 0 rfl) ?_
      obtain ⟨r_6, hc_5, hp⟩ := bn1_s hp
      refine k_ROV (As := [.int x4_4]) (rest := []) ⟨hx, hb, hml, hown, hts⟩ hK (hP.sub (ws' := (w_Fi cy qfo qro qra qvc qos qli fo ro ra vc os li)) [3, 4, 5, 6, 7, 8, 9, 10, 11, 12, 13, 14, 15, 16, 17, 18, 19, 20, 21, 22, 23, 24, 25] rfl) (cw_X6_30 hts ⟨Nat.le_of_ble_eq_true rfl, Nat.le_of_ble_eq_true rfl⟩) 0 (ci := 2) rfl rfl rfl (c_X2_isFlight l D cy qfo qro qra qvc qos qli fo ro ra vc os li x4_4 r_6 hc_5) rfl hl.1 (Nat.le_of_ble_eq_true rfl) ⟨Nat.le_refl _, Nat.le_refl _⟩ dX6_seatGrounded_32 ?_
      refine lv_if_ne (tgt := 41) hx hb dX6_seatGrounded_35 (by decide) (fun c_7 => ?_) (fun c_7 => ?_)
      · have hp := ite_n hp c_7
        refine lv_aload_n hx hb dX6_seatGrounded_41 rfl (lv_at hl 2 rfl) ?_
        refine gf_X6_73 hx hb hts hown hK hP 3 rfl rfl dX6_seatGrounded_42 ?_
        refine lv_iload hx hb dX6_seatGrounded_45 (lv_at hl 0 rfl) ?_
        obtain ⟨hi_8, hp⟩ := ckI_s hp
        refine r_ild hx hb hK hP 4 rfl hi_8 dX6_seatGrounded_47 ?_
        refine lv_topi (fun x5_9 ex5_9 => ?_)
        have hp := stk_e hp ex5_9
        refine lv_istore (lv' := [(5, .int x5_9), (4, .int x4_4), (0, .ref (qpn 0)), (1, .ref (qfo 0)), (2, .int x2), (3, .int x3)]) hx hb dX6_seatGrounded_48 hl (by decide) rfl (fun ls hl => ?_)
        refine lv_aload_n hx hb dX6_seatGrounded_50 rfl (lv_at hl 3 rfl) ?_
        refine lv_iload hx hb dX6_seatGrounded_51 (lv_at hl 1 rfl) ?_
        refine lv_aload_n hx hb dX6_seatGrounded_53 rfl (lv_at hl 2 rfl) ?_
        refine lv_aload_n hx hb dX6_seatGrounded_54 rfl (lv_at hl 3 rfl) ?_
        refine gf_X6_89 hx hb hts hown hK hP 3 rfl rfl dX6_seatGrounded_55 ?_
        refine lv_aload_n hx hb dX6_seatGrounded_58 rfl (lv_at hl 3 rfl) ?_
        refine lv_iload hx hb dX6_seatGrounded_59 (lv_at hl 1 rfl) ?_
        obtain ⟨r_11, hc_10, hp⟩ := bn1_s hp
        refine k_ROV (As := [.int x4_4]) (rest := [.ref (qra 0), .ref (qpn 0), .int x4_4, .ref (qfo 0)]) ⟨hx, hb, hml, hown, hts⟩ hK (hP.sub (ws' := (w_Fi cy qfo qro qra qvc qos qli fo ro ra vc os li)) [3, 4, 5, 6, 7, 8, 9, 10, 11, 12, 13, 14, 15, 16, 17, 18, 19, 20, 21, 22, 23, 24, 25] rfl) (cw_X6_106 hts ⟨Nat.le_of_ble_eq_true rfl, Nat.le_of_ble_eq_true rfl⟩) 0 (ci := 2) rfl rfl rfl (c_X2_earliest l D cy qfo qro qra qvc qos qli fo ro ra vc os li x4_4 r_11 hc_10) rfl hl.1 (Nat.le_of_ble_eq_true rfl) ⟨Nat.le_refl _, Nat.le_refl _⟩ dX6_seatGrounded_61 ?_
        obtain ⟨r_13, pn_14, hc_12, hp⟩ := bn2_s hp
        refine k_RIV (As := [.ref (qra 0), .int r_11]) (rest := [.int x4_4, .ref (qfo 0)]) ⟨hx, hb, hml, hown, hts⟩ hK hP hD hS hA (FrS_set (ws := (w_PlFi cy qpn qfo qro qra qvc qos qli pn fo ro ra vc os li)) (wc := (w_PlRa cy qpn qra pn ra)) (w1 := (w_PlRa cy qpn qra pn_14 ra)) (wn := (w_PlFi cy qpn qfo qro qra qvc qos qli pn_14 fo ro ra vc os li)) [0, 1, 2, 12, 13] [some 0, some 1, some 2, none, none, none, none, none, none, none, none, none, some 3, some 4, none, none, none, none, none, none, none, none, none, none, none, none] (by decide +kernel) rfl rfl rfl) (cw_X6_99 hts ⟨Nat.le_of_ble_eq_true rfl, Nat.le_of_ble_eq_true rfl⟩) 0 (ci := 6) rfl rfl rfl (c_X6_takeFirst l D cy qpn qra pn ra r_11 r_13 pn_14 hc_12) rfl hl.1 (Nat.le_of_ble_eq_true rfl) ⟨Nat.le_refl _, Nat.le_refl _⟩ dX6_seatGrounded_64 (fun H locs hP hD hS => ?_)
        obtain ⟨fo_16, hc_15, hp⟩ := bn1_s hp
        refine k_RVV (As := [.int x4_4, .int r_13]) (rest := []) ⟨hx, hb, hml, hown, hts⟩ hK hP hD hS hA (FrS_set (ws := (w_PlFi cy qpn qfo qro qra qvc qos qli pn_14 fo ro ra vc os li)) (wc := (w_Fi cy qfo qro qra qvc qos qli fo ro ra vc os li)) (w1 := (w_Fi cy qfo qro qra qvc qos qli fo_16 ro ra vc os li)) (wn := (w_PlFi cy qpn qfo qro qra qvc qos qli pn_14 fo_16 ro ra vc os li)) [3, 4, 5, 6, 7, 8, 9, 10, 11, 12, 13, 14, 15, 16, 17, 18, 19, 20, 21, 22, 23, 24, 25] [none, none, none, some 0, some 1, some 2, some 3, some 4, some 5, some 6, some 7, some 8, some 9, some 10, some 11, some 12, some 13, some 14, some 15, some 16, some 17, some 18, some 19, some 20, some 21, some 22] (by decide +kernel) rfl rfl rfl) (cw_X6_109 hts ⟨Nat.le_of_ble_eq_true rfl, Nat.le_of_ble_eq_true rfl⟩) 0 (ci := 2) rfl rfl rfl (c_X2_seatOnGround l D cy qfo qro qra qvc qos qli fo ro ra vc os li x4_4 r_13 fo_16 hc_15) rfl hl.1 (Nat.le_of_ble_eq_true rfl) ⟨Nat.le_refl _, Nat.le_refl _⟩ dX6_seatGrounded_67 (fun H locs hP hD hS => ?_)
        refine lv_iload_n hx hb dX6_seatGrounded_70 rfl (lv_at hl 4 rfl) ?_
        refine lv_aload_n hx hb dX6_seatGrounded_71 rfl (lv_at hl 3 rfl) ?_
        refine gf_X6_73 hx hb hts hown hK hP 3 rfl rfl dX6_seatGrounded_72 ?_
        refine lv_iload hx hb dX6_seatGrounded_75 (lv_at hl 1 rfl) ?_
        refine r_ild hx hb hK hP 4 rfl hi_8 dX6_seatGrounded_77 ?_
        refine lv_iload hx hb dX6_seatGrounded_78 (lv_at hl 0 rfl) ?_
        refine lv_icmp_eq (tgt := 87) hx hb dX6_seatGrounded_80 (by decide) (fun c_17 => ?_) (fun c_17 => ?_)
        · have hp := ite_p hp c_17
          refine lv_iconst (v := 0) hx hb dX6_seatGrounded_87 (by decide) ?_
          refine lv_iadd hx hb dX6_seatGrounded_88 ?_
          refine lv_topi (fun x2_18 ex2_18 => ?_)
          have hp := stk_e hp ex2_18
          refine lv_istore_n (lv' := [(2, .int x2_18), (5, .int x5_9), (4, .int x4_4), (0, .ref (qpn 0)), (1, .ref (qfo 0)), (3, .int x3)]) hx hb dX6_seatGrounded_89 rfl hl (by decide) rfl (fun ls hl => ?_)
          obtain ⟨x3_19, ex3_19⟩ : ∃ y : Int32, y = x3 + 1 := ⟨_, rfl⟩
          have hp := stk_e hp ex3_19
          refine lv_iinc (v := x3_19) (lv' := [(3, .int x3_19), (2, .int x2_18), (5, .int x5_9), (4, .int x4_4), (0, .ref (qpn 0)), (1, .ref (qfo 0))]) hx hb dX6_seatGrounded_90 hl (k := 5) rfl (by rw [ex3_19]; rfl) (by decide) rfl (fun ls hl => ?_)
          refine lv_goto (tgt := 4) hx hb dX6_seatGrounded_93 (by decide) ?_
          exact hk4 pn_14 fo_16 x2_18 x3_19 _ _ _ hP hD hS (lv_sub hl [4, 5, 1, 0] rfl) hp
        · have hp := ite_n hp c_17
          refine lv_iconst (v := 1) hx hb dX6_seatGrounded_83 (by decide) ?_
          refine lv_goto (tgt := 88) hx hb dX6_seatGrounded_84 (by decide) ?_
          refine lv_iadd hx hb dX6_seatGrounded_88 ?_
          refine lv_topi (fun x2_20 ex2_20 => ?_)
          have hp := stk_e hp ex2_20
          refine lv_istore_n (lv' := [(2, .int x2_20), (5, .int x5_9), (4, .int x4_4), (0, .ref (qpn 0)), (1, .ref (qfo 0)), (3, .int x3)]) hx hb dX6_seatGrounded_89 rfl hl (by decide) rfl (fun ls hl => ?_)
          obtain ⟨x3_21, ex3_21⟩ : ∃ y : Int32, y = x3 + 1 := ⟨_, rfl⟩
          have hp := stk_e hp ex3_21
          refine lv_iinc (v := x3_21) (lv' := [(3, .int x3_21), (2, .int x2_20), (5, .int x5_9), (4, .int x4_4), (0, .ref (qpn 0)), (1, .ref (qfo 0))]) hx hb dX6_seatGrounded_90 hl (k := 5) rfl (by rw [ex3_21]; rfl) (by decide) rfl (fun ls hl => ?_)
          refine lv_goto (tgt := 4) hx hb dX6_seatGrounded_93 (by decide) ?_
          exact hk4 pn_14 fo_16 x2_20 x3_21 _ _ _ hP hD hS (lv_sub hl [4, 5, 1, 0] rfl) hp
      · have hp := ite_p hp c_7
        refine lv_goto (tgt := 90) hx hb dX6_seatGrounded_38 (by decide) ?_
        obtain ⟨x3_22, ex3_22⟩ : ∃ y : Int32, y = x3 + 1 := ⟨_, rfl⟩
        have hp := stk_e hp ex3_22
        refine lv_iinc (v := x3_22) (lv' := [(3, .int x3_22), (4, .int x4_4), (0, .ref (qpn 0)), (1, .ref (qfo 0)), (2, .int x2)]) hx hb dX6_seatGrounded_90 hl (k := 4) rfl (by rw [ex3_22]; rfl) (by decide) rfl (fun ls hl => ?_)
        refine lv_goto (tgt := 4) hx hb dX6_seatGrounded_93 (by decide) ?_
        exact hk4 pn fo x2 x3_22 _ _ _ hP hD hS (lv_sub hl [2, 3, 4, 0] rfl) hp
theorem Pl_seatGrounded_b4_w (C0 : cX RX6 cX6_seatGrounded (some .int) 6 p s m args meth c) (hK : kN D cy s) {qpn qfo qro qra qvc qos qli : Nat → Nat} {ro ra vc os li : Mem} {r : Int32} {pn' fo' : Mem} (hA : ∀ q, s.heap.size ≤ q → A q) : ∀ (n : Nat) (pn fo : Mem) (x2 x3 : Int32) (H : Heap) (locs : List Loc) (ls : Array Slot), va_P D vwCl (w_PlFi cy qpn qfo qro qra qvc qos qli pn fo ro ra vc os li) H → va_D A (w_PlFi cy qpn qfo qro qra qvc qos qli pn fo ro ra vc os li) → va_S A s.heap H locs → lv_has ls 6 [(0, .ref (qpn 0)), (1, .ref (qfo 0)), (2, .int x2), (3, .int x3)] → Pl_seatGrounded_b4 ro ra n pn fo x2 x3 = some (r, pn', fo') → W p l e (rmD 4) s m args below meth c H locs 0 0 (qRI D below args s A (w_PlFi cy qpn qfo qro qra qvc qos qli pn' fo' ro ra vc os li) r) (F0 m 4 ls []) := by
  intro n
  induction n with
  | zero =>
    intro pn fo x2 x3 H locs ls hP hD hS hl hp
    cases hp
  | succ n ih =>
    intro pn fo x2 x3 H locs ls hP hD hS hl hp
    exact Pl_seatGrounded_b4B_w C0 hK hA  (fun pn fo x2 x3 H locs ls hP hD hS hl hp => ih pn fo x2 x3 H locs ls hP hD hS hl hp) hP hD hS hl hp
set_option maxHeartbeats 4000000 in
set_option maxRecDepth 100000 in
theorem c_X6_seatGrounded (l : Launch) (D : va_G) (cy : Nat → ClassId) (qpn qfo qro qra qvc qos qli : Nat → Nat) (pn fo ro ra vc os li : Mem) (r : Int32) (pn' fo' : Mem) (hp : Pl_seatGrounded pn fo ro ra = some (r, pn', fo')) : RI l yX6_seatGrounded cX6_seatGrounded 6 (some .int) 4 D cy [.ref (qpn 0), .ref (qfo 0)] (w_PlFi cy qpn qfo qro qra qvc qos qli pn fo ro ra vc os li) (w_PlFi cy qpn qfo qro qra qvc qos qli pn' fo' ro ra vc os li) r := by
  refine RI_of RX6 rfl (by decide) (Nat.le_of_ble_eq_true rfl) ?_
  intro p e s m below meth c A C0 hK hP hD hS hA ls hl
  obtain ⟨hx, hb, hr, hml, hown, hts, hk⟩ := id C0
  unfold Pl_seatGrounded at hp
  have hl : lv_has ls 6 [(0, .ref (qpn 0)), (1, .ref (qfo 0))] := hl
  refine lv_iconst (v := 0) hx hb dX6_seatGrounded_0 (by decide) ?_
  refine lv_istore_n (lv' := [(2, .int 0), (0, .ref (qpn 0)), (1, .ref (qfo 0))]) hx hb dX6_seatGrounded_1 rfl hl (by decide) rfl (fun ls hl => ?_)
  refine lv_iconst (v := 0) hx hb dX6_seatGrounded_2 (by decide) ?_
  refine lv_istore_n (lv' := [(3, .int 0), (2, .int 0), (0, .ref (qpn 0)), (1, .ref (qfo 0))]) hx hb dX6_seatGrounded_3 rfl hl (by decide) rfl (fun ls hl => ?_)
  exact Pl_seatGrounded_b4_w C0 hK hA  fl pn fo 0 0 _ _ _ hP hD hS (lv_sub hl [2, 3, 1, 0] rfl) hp
/-! StormSlots$Planner.planAnew(LStormSlots$Field;I)V -/
def Pl_planAnew_b81B (ro : Mem) (ra : Mem) (p2 : Int32) (k81 : Mem → Mem → Mem → Mem → Int32 → Option (Mem × Mem × Mem × Mem)) (pn : Mem) (fo : Mem) (vc : Mem) (os : Mem) (x3 : Int32) : Option (Mem × Mem × Mem × Mem) :=
  if 20 ≤ x3 then bn3 (Pl_seatGrounded pn fo ro ra) (fun r_27 pn_28 fo_29 => stk (upm fo_29 10 0 1) (fun fo_30 => some (pn_28, fo_30, vc, os))) else bn1 (Fi_isFlight ro x3) (fun r_32 => if r_32 = 0 then stk (x3 + 1) (fun x3_34 => k81 pn fo vc os x3_34) else bn1 (Fi_off ro x3) (fun r_36 => if r_36 ≤ (fo 9 0) then stk (x3 + 1) (fun x3_38 => k81 pn fo vc os x3_38) else bn1 (Pl_keyOf fo ro x3 p2) (fun r_40 => bn1 (Pl_enqueue pn r_40 x3) (fun pn_42 => stk (x3 + 1) (fun x3_43 => k81 pn_42 fo vc os x3_43)))))
def Pl_planAnew_b81 (ro : Mem) (ra : Mem) (p2 : Int32) : Nat → Mem → Mem → Mem → Mem → Int32 → Option (Mem × Mem × Mem × Mem)
  | 0 => fun _ _ _ _ _ => none
  | n + 1 => Pl_planAnew_b81B ro ra p2 (Pl_planAnew_b81 ro ra p2 n)
def Pl_planAnew_b21B (ro : Mem) (ra : Mem) (p2 : Int32) (k21 : Mem → Mem → Mem → Mem → Int32 → Option (Mem × Mem × Mem × Mem)) (pn : Mem) (fo : Mem) (vc : Mem) (os : Mem) (x3 : Int32) : Option (Mem × Mem × Mem × Mem) :=
  if 20 ≤ x3 then bn3 (Pl_seatAirborne pn fo ro ra 0) (fun r_9 pn_10 fo_11 => stk (upm pn_10 1 0 0) (fun pn_12 => Pl_planAnew_b81 ro ra p2 fl pn_12 fo_11 vc os 0)) else bn1 (Fi_isFlight ro x3) (fun r_14 => if r_14 = 0 then stk (x3 + 1) (fun x3_16 => k21 pn fo vc os x3_16) else bn1 (Fi_off ro x3) (fun r_18 => if (fo 9 0) < r_18 then stk (x3 + 1) (fun x3_20 => k21 pn fo vc os x3_20) else ckI x3 20 (bn1 (Pl_enqueue pn (ro 1 x3.toNatClampNeg) x3) (fun pn_23 => stk (x3 + 1) (fun x3_24 => k21 pn_23 fo vc os x3_24)))))
def Pl_planAnew_b21 (ro : Mem) (ra : Mem) (p2 : Int32) : Nat → Mem → Mem → Mem → Mem → Int32 → Option (Mem × Mem × Mem × Mem)
  | 0 => fun _ _ _ _ _ => none
  | n + 1 => Pl_planAnew_b21B ro ra p2 (Pl_planAnew_b21 ro ra p2 n)
def Pl_planAnew (pn : Mem) (fo : Mem) (ro : Mem) (ra : Mem) (vc : Mem) (os : Mem) (p2 : Int32) : Option (Mem × Mem × Mem × Mem) :=
  stk (upm pn 3 0 ((pn 3 0) + 1)) (fun pn_1 => bn3 (Fi_clearPlan fo vc os) (fun fo_3 vc_4 os_5 => stk (upm pn_1 1 0 0) (fun pn_6 => Pl_planAnew_b21 ro ra p2 fl pn_6 fo_3 vc_4 os_5 0)))
set_option maxHeartbeats 4000000 in
set_option maxRecDepth 100000 in
theorem Pl_planAnew_b81B_w (C0 : cX RX6 cX6_planAnew none 4 p s m args meth c) (hK : kN D cy s) {qpn qfo qro qra qvc qos qli : Nat → Nat} {ro ra li : Mem} {p2 : Int32} {pn' fo' vc' os' : Mem} (hA : ∀ q, s.heap.size ≤ q → A q) {k81 : Mem → Mem → Mem → Mem → Int32 → Option (Mem × Mem × Mem × Mem)} (hk81 : ∀ (pn fo vc os : Mem) (x3 : Int32) (H : Heap) (locs : List Loc) (ls : Array Slot), va_P D vwCl (w_PlFi cy qpn qfo qro qra qvc qos qli pn fo ro ra vc os li) H → va_D A (w_PlFi cy qpn qfo qro qra qvc qos qli pn fo ro ra vc os li) → va_S A s.heap H locs → lv_has ls 4 [(0, .ref (qpn 0)), (1, .ref (qfo 0)), (2, .int p2), (3, .int x3)] → k81 pn fo vc os x3 = some (pn', fo', vc', os') → W p l e (rmD 5) s m args below meth c H locs 0 0 (qRV D below args s A (w_PlFi cy qpn qfo qro qra qvc qos qli pn' fo' ro ra vc' os' li)) (F0 m 81 ls [])) {pn : Mem} {fo : Mem} {vc : Mem} {os : Mem} {x3 : Int32} {H : Heap} {locs : List Loc} (hP : va_P D vwCl (w_PlFi cy qpn qfo qro qra qvc qos qli pn fo ro ra vc os li) H) (hD : va_D A (w_PlFi cy qpn qfo qro qra qvc qos qli pn fo ro ra vc os li)) (hS : va_S A s.heap H locs) {ls : Array Slot} (hl : lv_has ls 4 [(0, .ref (qpn 0)), (1, .ref (qfo 0)), (2, .int p2), (3, .int x3)]) (hp : Pl_planAnew_b81B ro ra p2 k81 pn fo vc os x3 = some (pn', fo', vc', os')) : W p l e (rmD 5) s m args below meth c H locs 0 0 (qRV D below args s A (w_PlFi cy qpn qfo qro qra qvc qos qli pn' fo' ro ra vc' os' li)) (F0 m 81 ls []) := by
  obtain ⟨hx, hb, hr, hml, hown, hts, hk⟩ := id C0
  unfold Pl_planAnew_b81B at hp
  refine lv_iload_n hx hb dX6_planAnew_81 rfl (lv_at hl 3 rfl) ?_
  refine lv_bipush (v := 20) hx hb dX6_planAnew_82 (by decide) ?_
  refine lv_icmp_ge (tgt := 125) hx hb dX6_planAnew_84 (by decide) (fun c_25 => ?_) (fun c_25 => ?_)
  · have hp := ite_p hp c_25
    refine lv_aload_n hx hb dX6_planAnew_125 rfl (lv_at hl 0 rfl) ?_
    refine lv_aload_n hx hb dX6_planAnew_126 rfl (lv_at hl 1 rfl) ?_
    obtain ⟨r_27, pn_28, fo_29, hc_26, hp⟩ := bn3_s hp
    refine k_RIV (As := [.ref (qfo 0)]) (rest := []) ⟨hx, hb, hml, hown, hts⟩ hK hP hD hS hA FrS_rf (cw_X6_62 hts ⟨Nat.le_of_ble_eq_true rfl, Nat.le_of_ble_eq_true rfl⟩) 0 (ci := 6) rfl rfl rfl (c_X6_seatGrounded l D cy qpn qfo qro qra qvc qos qli pn fo ro ra vc os li r_27 pn_28 fo_29 hc_26) rfl hl.1 (Nat.le_of_ble_eq_true rfl) ⟨Nat.le_refl _, Nat.le_refl _⟩ dX6_planAnew_127 (fun H locs hP hD hS => ?_)
    refine lv_pop hx hb dX6_planAnew_130 rfl ?_
    refine lv_aload_n hx hb dX6_planAnew_131 rfl (lv_at hl 1 rfl) ?_
    refine lv_iconst (v := 1) hx hb dX6_planAnew_132 (by decide) ?_
    obtain ⟨fo_30, efo_30⟩ : ∃ y : Mem, y = upm fo_29 10 0 1 := ⟨_, rfl⟩
    have hp := stk_e hp efo_30
    refine pf_X6_66 hx hb hts hown hK hP hD hS (wn := (w_PlFi cy qpn qfo qro qra qvc qos qli pn_28 fo_30 ro ra vc os li)) 3 rfl (Nat.le_of_ble_eq_true rfl) (Or.inr rfl) (by subst efo_30; rfl) dX6_planAnew_133 (fun H locs hP hD hS => ?_)
    simp only [Option.some.injEq, Prod.mk.injEq] at hp
    obtain ⟨rfl, rfl, rfl, rfl⟩ := hp
    exact e_RV hx hb hr hk hP hD hS dX6_planAnew_136
  · have hp := ite_n hp c_25
    refine lv_aload_n hx hb dX6_planAnew_87 rfl (lv_at hl 1 rfl) ?_
    refine lv_iload_n hx hb dX6_planAnew_88 rfl (lv_at hl 3 rfl) ?_
    obtain ⟨r_32, hc_31, hp⟩ := bn1_s hp
    refine k_ROV (As := [.int x3]) (rest := []) ⟨hx, hb, hml, hown, hts⟩ hK (hP.sub (ws' := (w_Fi cy qfo qro qra qvc qos qli fo ro ra vc os li)) [3, 4, 5, 6, 7, 8, 9, 10, 11, 12, 13, 14, 15, 16, 17, 18, 19, 20, 21, 22, 23, 24, 25] rfl) (cw_X6_30 hts ⟨Nat.le_of_ble_eq_true rfl, Nat.le_of_ble_eq_true rfl⟩) 0 (ci := 2) rfl rfl rfl (c_X2_isFlight l D cy qfo qro qra qvc qos qli fo ro ra vc os li x3 r_32 hc_31) rfl hl.1 (Nat.le_of_ble_eq_true rfl) ⟨Nat.le_refl _, Nat.le_refl _⟩ dX6_planAnew_89 ?_
    refine lv_if_eq (tgt := 119) hx hb dX6_planAnew_92 (by decide) (fun c_33 => ?_) (fun c_33 => ?_)
    · have hp := ite_p hp c_33
      obtain ⟨x3_34, ex3_34⟩ : ∃ y : Int32, y = x3 + 1 := ⟨_, rfl⟩
      have hp := stk_e hp ex3_34
      refine lv_iinc (v := x3_34) (lv' := [(3, .int x3_34), (0, .ref (qpn 0)), (1, .ref (qfo 0)), (2, .int p2)]) hx hb dX6_planAnew_119 hl (k := 3) rfl (by rw [ex3_34]; rfl) (by decide) rfl (fun ls hl => ?_)
      refine lv_goto (tgt := 81) hx hb dX6_planAnew_122 (by decide) ?_
      exact hk81 pn fo vc os x3_34 _ _ _ hP hD hS (lv_sub hl [1, 2, 3, 0] rfl) hp
    · have hp := ite_n hp c_33
      refine lv_aload_n hx hb dX6_planAnew_95 rfl (lv_at hl 1 rfl) ?_
      refine lv_iload_n hx hb dX6_planAnew_96 rfl (lv_at hl 3 rfl) ?_
      obtain ⟨r_36, hc_35, hp⟩ := bn1_s hp
      refine k_ROV (As := [.int x3]) (rest := []) ⟨hx, hb, hml, hown, hts⟩ hK (hP.sub (ws' := (w_Fi cy qfo qro qra qvc qos qli fo ro ra vc os li)) [3, 4, 5, 6, 7, 8, 9, 10, 11, 12, 13, 14, 15, 16, 17, 18, 19, 20, 21, 22, 23, 24, 25] rfl) (cw_X6_34 hts ⟨Nat.le_of_ble_eq_true rfl, Nat.le_of_ble_eq_true rfl⟩) 0 (ci := 2) rfl rfl rfl (c_X2_off l D cy qfo qro qra qvc qos qli fo ro ra vc os li x3 r_36 hc_35) rfl hl.1 (Nat.le_of_ble_eq_true rfl) ⟨Nat.le_refl _, Nat.le_refl _⟩ dX6_planAnew_97 ?_
      refine lv_aload_n hx hb dX6_planAnew_100 rfl (lv_at hl 1 rfl) ?_
      refine gf_X6_38 hx hb hts hown hK hP 3 rfl rfl dX6_planAnew_101 ?_
      refine lv_icmp_le (tgt := 119) hx hb dX6_planAnew_104 (by decide) (fun c_37 => ?_) (fun c_37 => ?_)
      · have hp := ite_p hp c_37
        obtain ⟨x3_38, ex3_38⟩ : ∃ y : Int32, y = x3 + 1 := ⟨_, rfl⟩
        have hp := stk_e hp ex3_38
        refine lv_iinc (v := x3_38) (lv' := [(3, .int x3_38), (0, .ref (qpn 0)), (1, .ref (qfo 0)), (2, .int p2)]) hx hb dX6_planAnew_119 hl (k := 3) rfl (by rw [ex3_38]; rfl) (by decide) rfl (fun ls hl => ?_)
        refine lv_goto (tgt := 81) hx hb dX6_planAnew_122 (by decide) ?_
        exact hk81 pn fo vc os x3_38 _ _ _ hP hD hS (lv_sub hl [1, 2, 3, 0] rfl) hp
      · have hp := ite_n hp c_37
        refine lv_aload_n hx hb dX6_planAnew_107 rfl (lv_at hl 0 rfl) ?_
        refine lv_aload_n hx hb dX6_planAnew_108 rfl (lv_at hl 0 rfl) ?_
        refine lv_aload_n hx hb dX6_planAnew_109 rfl (lv_at hl 1 rfl) ?_
        refine lv_iload_n hx hb dX6_planAnew_110 rfl (lv_at hl 3 rfl) ?_
        refine lv_iload_n hx hb dX6_planAnew_111 rfl (lv_at hl 2 rfl) ?_
        obtain ⟨r_40, hc_39, hp⟩ := bn1_s hp
        refine k_ROV (As := [.ref (qfo 0), .int x3, .int p2]) (rest := [.ref (qpn 0)]) ⟨hx, hb, hml, hown, hts⟩ hK hP (cw_X6_58 hts ⟨Nat.le_of_ble_eq_true rfl, Nat.le_of_ble_eq_true rfl⟩) 0 (ci := 6) rfl rfl rfl (c_X6_keyOf l D cy qpn qfo qro qra qvc qos qli pn fo ro ra vc os li x3 p2 r_40 hc_39) rfl hl.1 (Nat.le_of_ble_eq_true rfl) ⟨Nat.le_refl _, Nat.le_refl _⟩ dX6_planAnew_112 ?_
        refine lv_iload_n hx hb dX6_planAnew_115 rfl (lv_at hl 3 rfl) ?_
        obtain ⟨pn_42, hc_41, hp⟩ := bn1_s hp
        refine k_RVV (As := [.int r_40, .int x3]) (rest := []) ⟨hx, hb, hml, hown, hts⟩ hK hP hD hS hA (FrS_set (ws := (w_PlFi cy qpn qfo qro qra qvc qos qli pn fo ro ra vc os li)) (wc := (w_Pl cy qpn pn)) (w1 := (w_Pl cy qpn pn_42)) (wn := (w_PlFi cy qpn qfo qro qra qvc qos qli pn_42 fo ro ra vc os li)) [0, 1, 2] [some 0, some 1, some 2, none, none, none, none, none, none, none, none, none, none, none, none, none, none, none, none, none, none, none, none, none, none, none] (by decide +kernel) rfl rfl rfl) (cw_X6_50 hts ⟨Nat.le_of_ble_eq_true rfl, Nat.le_of_ble_eq_true rfl⟩) 0 (ci := 6) rfl rfl rfl (c_X6_enqueue l D cy qpn pn r_40 x3 pn_42 hc_41) rfl hl.1 (Nat.le_of_ble_eq_true rfl) ⟨Nat.le_refl _, Nat.le_refl _⟩ dX6_planAnew_116 (fun H locs hP hD hS => ?_)
        obtain ⟨x3_43, ex3_43⟩ : ∃ y : Int32, y = x3 + 1 := ⟨_, rfl⟩
        have hp := stk_e hp ex3_43
        refine lv_iinc (v := x3_43) (lv' := [(3, .int x3_43), (0, .ref (qpn 0)), (1, .ref (qfo 0)), (2, .int p2)]) hx hb dX6_planAnew_119 hl (k := 3) rfl (by rw [ex3_43]; rfl) (by decide) rfl (fun ls hl => ?_)
        refine lv_goto (tgt := 81) hx hb dX6_planAnew_122 (by decide) ?_
        exact hk81 pn_42 fo vc os x3_43 _ _ _ hP hD hS (lv_sub hl [1, 2, 3, 0] rfl) hp
theorem Pl_planAnew_b81_w (C0 : cX RX6 cX6_planAnew none 4 p s m args meth c) (hK : kN D cy s) {qpn qfo qro qra qvc qos qli : Nat → Nat} {ro ra li : Mem} {p2 : Int32} {pn' fo' vc' os' : Mem} (hA : ∀ q, s.heap.size ≤ q → A q) : ∀ (n : Nat) (pn fo vc os : Mem) (x3 : Int32) (H : Heap) (locs : List Loc) (ls : Array Slot), va_P D vwCl (w_PlFi cy qpn qfo qro qra qvc qos qli pn fo ro ra vc os li) H → va_D A (w_PlFi cy qpn qfo qro qra qvc qos qli pn fo ro ra vc os li) → va_S A s.heap H locs → lv_has ls 4 [(0, .ref (qpn 0)), (1, .ref (qfo 0)), (2, .int p2), (3, .int x3)] → Pl_planAnew_b81 ro ra p2 n pn fo vc os x3 = some (pn', fo', vc', os') → W p l e (rmD 5) s m args below meth c H locs 0 0 (qRV D below args s A (w_PlFi cy qpn qfo qro qra qvc qos qli pn' fo' ro ra vc' os' li)) (F0 m 81 ls []) := by
  intro n
  induction n with
  | zero =>
    intro pn fo vc os x3 H locs ls hP hD hS hl hp
    cases hp
  | succ n ih =>
    intro pn fo vc os x3 H locs ls hP hD hS hl hp
    exact Pl_planAnew_b81B_w C0 hK hA  (fun pn fo vc os x3 H locs ls hP hD hS hl hp => ih pn fo vc os x3 H locs ls hP hD hS hl hp) hP hD hS hl hp
set_option maxHeartbeats 4000000 in
set_option maxRecDepth 100000 in
theorem Pl_planAnew_b21B_w (C0 : cX RX6 cX6_planAnew none 4 p s m args meth c) (hK : kN D cy s) {qpn qfo qro qra qvc qos qli : Nat → Nat} {ro ra li : Mem} {p2 : Int32} {pn' fo' vc' os' : Mem} (hA : ∀ q, s.heap.size ≤ q → A q) {k21 : Mem → Mem → Mem → Mem → Int32 → Option (Mem × Mem × Mem × Mem)} (hk21 : ∀ (pn fo vc os : Mem) (x3 : Int32) (H : Heap) (locs : List Loc) (ls : Array Slot), va_P D vwCl (w_PlFi cy qpn qfo qro qra qvc qos qli pn fo ro ra vc os li) H → va_D A (w_PlFi cy qpn qfo qro qra qvc qos qli pn fo ro ra vc os li) → va_S A s.heap H locs → lv_has ls 4 [(0, .ref (qpn 0)), (1, .ref (qfo 0)), (2, .int p2), (3, .int x3)] → k21 pn fo vc os x3 = some (pn', fo', vc', os') → W p l e (rmD 5) s m args below meth c H locs 0 0 (qRV D below args s A (w_PlFi cy qpn qfo qro qra qvc qos qli pn' fo' ro ra vc' os' li)) (F0 m 21 ls [])) {pn : Mem} {fo : Mem} {vc : Mem} {os : Mem} {x3 : Int32} {H : Heap} {locs : List Loc} (hP : va_P D vwCl (w_PlFi cy qpn qfo qro qra qvc qos qli pn fo ro ra vc os li) H) (hD : va_D A (w_PlFi cy qpn qfo qro qra qvc qos qli pn fo ro ra vc os li)) (hS : va_S A s.heap H locs) {ls : Array Slot} (hl : lv_has ls 4 [(0, .ref (qpn 0)), (1, .ref (qfo 0)), (2, .int p2), (3, .int x3)]) (hp : Pl_planAnew_b21B ro ra p2 k21 pn fo vc os x3 = some (pn', fo', vc', os')) : W p l e (rmD 5) s m args below meth c H locs 0 0 (qRV D below args s A (w_PlFi cy qpn qfo qro qra qvc qos qli pn' fo' ro ra vc' os' li)) (F0 m 21 ls []) := by
  obtain ⟨hx, hb, hr, hml, hown, hts, hk⟩ := id C0
  unfold Pl_planAnew_b21B at hp
  refine lv_iload_n hx hb dX6_planAnew_21 rfl (lv_at hl 3 rfl) ?_
  refine lv_bipush (v := 20) hx hb dX6_planAnew_22 (by decide) ?_
  refine lv_icmp_ge (tgt := 67) hx hb dX6_planAnew_24 (by decide) (fun c_7 => ?_) (fun c_7 => ?_)
  · have hp := ite_p hp c_7
    refine lv_aload_n hx hb dX6_planAnew_67 rfl (lv_at hl 0 rfl) ?_
    refine lv_aload_n hx hb dX6_planAnew_68 rfl (lv_at hl 1 rfl) ?_
    refine lv_iconst (v := 0) hx hb dX6_planAnew_69 (by decide) ?_
    obtain ⟨r_9, pn_10, fo_11, hc_8, hp⟩ := bn3_s hp
    refine k_RIV (As := [.ref (qfo 0), .int 0]) (rest := []) ⟨hx, hb, hml, hown, hts⟩ hK hP hD hS hA FrS_rf (cw_X6_54 hts ⟨Nat.le_of_ble_eq_true rfl, Nat.le_of_ble_eq_true rfl⟩) 0 (ci := 6) rfl rfl rfl (c_X6_seatAirborne l D cy qpn qfo qro qra qvc qos qli pn fo ro ra vc os li 0 r_9 pn_10 fo_11 hc_8) rfl hl.1 (Nat.le_of_ble_eq_true rfl) ⟨Nat.le_refl _, Nat.le_refl _⟩ dX6_planAnew_70 (fun H locs hP hD hS => ?_)
    refine lv_pop hx hb dX6_planAnew_73 rfl ?_
    refine lv_aload_n hx hb dX6_planAnew_74 rfl (lv_at hl 0 rfl) ?_
    refine lv_iconst (v := 0) hx hb dX6_planAnew_75 (by decide) ?_
    obtain ⟨pn_12, epn_12⟩ : ∃ y : Mem, y = upm pn_10 1 0 0 := ⟨_, rfl⟩
    have hp := stk_e hp epn_12
    refine pf_X6_27 hx hb hts hown hK hP hD hS (wn := (w_PlFi cy qpn qfo qro qra qvc qos qli pn_12 fo_11 ro ra vc os li)) 0 rfl (Nat.le_of_ble_eq_true rfl) (by subst epn_12; rfl) dX6_planAnew_76 (fun H locs hP hD hS => ?_)
    refine lv_iconst (v := 0) hx hb dX6_planAnew_79 (by decide) ?_
    refine lv_istore_n (lv' := [(3, .int 0), (0, .ref (qpn 0)), (1, .ref (qfo 0)), (2, .int p2)]) hx hb dX6_planAnew_80 rfl hl (by decide) rfl (fun ls hl => ?_)
    exact Pl_planAnew_b81_w C0 hK hA  fl pn_12 fo_11 vc os 0 _ _ _ hP hD hS (lv_sub hl [1, 2, 3, 0] rfl) hp
  · have hp := ite_n hp c_7
    refine lv_aload_n hx hb dX6_planAnew_27 rfl (lv_at hl 1 rfl) ?_
    refine lv_iload_n hx hb dX6_planAnew_28 rfl (lv_at hl 3 rfl) ?_
    obtain ⟨r_14, hc_13, hp⟩ := bn1_s hp
    refine k_ROV (As := [.int x3]) (rest := []) ⟨hx, hb, hml, hown, hts⟩ hK (hP.sub (ws' := (w_Fi cy qfo qro qra qvc qos qli fo ro ra vc os li)) [3, 4, 5, 6, 7, 8, 9, 10, 11, 12, 13, 14, 15, 16, 17, 18, 19, 20, 21, 22, 23, 24, 25] rfl) (cw_X6_30 hts ⟨Nat.le_of_ble_eq_true rfl, Nat.le_of_ble_eq_true rfl⟩) 0 (ci := 2) rfl rfl rfl (c_X2_isFlight l D cy qfo qro qra qvc qos qli fo ro ra vc os li x3 r_14 hc_13) rfl hl.1 (Nat.le_of_ble_eq_true rfl) ⟨Nat.le_refl _, Nat.le_refl _⟩ dX6_planAnew_29 ?_
    refine lv_if_eq (tgt := 61) hx hb dX6_planAnew_32 (by decide) (fun c_15 => ?_) (fun c_15 => ?_)
    · have hp := ite_p hp c_15
      obtain ⟨x3_16, ex3_16⟩ : ∃ y : Int32, y = x3 + 1 := ⟨_, rfl⟩
      have hp := stk_e hp ex3_16
      refine lv_iinc (v := x3_16) (lv' := [(3, .int x3_16), (0, .ref (qpn 0)), (1, .ref (qfo 0)), (2, .int p2)]) hx hb dX6_planAnew_61 hl (k := 3) rfl (by rw [ex3_16]; rfl) (by decide) rfl (fun ls hl => ?_)
      refine lv_goto (tgt := 21) hx hb dX6_planAnew_64 (by decide) ?_
      exact hk21 pn fo vc os x3_16 _ _ _ hP hD hS (lv_sub hl [1, 2, 3, 0] rfl) hp
    · have hp := ite_n hp c_15
      refine lv_aload_n hx hb dX6_planAnew_35 rfl (lv_at hl 1 rfl) ?_
      refine lv_iload_n hx hb dX6_planAnew_36 rfl (lv_at hl 3 rfl) ?_
      obtain ⟨r_18, hc_17, hp⟩ := bn1_s hp
      refine k_ROV (As := [.int x3]) (rest := []) ⟨hx, hb, hml, hown, hts⟩ hK (hP.sub (ws' := (w_Fi cy qfo qro qra qvc qos qli fo ro ra vc os li)) [3, 4, 5, 6, 7, 8, 9, 10, 11, 12, 13, 14, 15, 16, 17, 18, 19, 20, 21, 22, 23, 24, 25] rfl) (cw_X6_34 hts ⟨Nat.le_of_ble_eq_true rfl, Nat.le_of_ble_eq_true rfl⟩) 0 (ci := 2) rfl rfl rfl (c_X2_off l D cy qfo qro qra qvc qos qli fo ro ra vc os li x3 r_18 hc_17) rfl hl.1 (Nat.le_of_ble_eq_true rfl) ⟨Nat.le_refl _, Nat.le_refl _⟩ dX6_planAnew_37 ?_
      refine lv_aload_n hx hb dX6_planAnew_40 rfl (lv_at hl 1 rfl) ?_
      refine gf_X6_38 hx hb hts hown hK hP 3 rfl rfl dX6_planAnew_41 ?_
      refine lv_icmp_gt (tgt := 61) hx hb dX6_planAnew_44 (by decide) (fun c_19 => ?_) (fun c_19 => ?_)
      · have hp := ite_p hp c_19
        obtain ⟨x3_20, ex3_20⟩ : ∃ y : Int32, y = x3 + 1 := ⟨_, rfl⟩
        have hp := stk_e hp ex3_20
        refine lv_iinc (v := x3_20) (lv' := [(3, .int x3_20), (0, .ref (qpn 0)), (1, .ref (qfo 0)), (2, .int p2)]) hx hb dX6_planAnew_61 hl (k := 3) rfl (by rw [ex3_20]; rfl) (by decide) rfl (fun ls hl => ?_)
        refine lv_goto (tgt := 21) hx hb dX6_planAnew_64 (by decide) ?_
        exact hk21 pn fo vc os x3_20 _ _ _ hP hD hS (lv_sub hl [1, 2, 3, 0] rfl) hp
      · have hp := ite_n hp c_19
        refine lv_aload_n hx hb dX6_planAnew_47 rfl (lv_at hl 0 rfl) ?_
        refine lv_aload_n hx hb dX6_planAnew_48 rfl (lv_at hl 1 rfl) ?_
        refine gf_X6_41 hx hb hts hown hK hP 3 rfl rfl dX6_planAnew_49 ?_
        refine gf_X6_45 hx hb hts hown hK hP 7 rfl rfl dX6_planAnew_52 ?_
        refine lv_iload_n hx hb dX6_planAnew_55 rfl (lv_at hl 3 rfl) ?_
        obtain ⟨hi_21, hp⟩ := ckI_s hp
        refine r_ild hx hb hK hP 9 rfl hi_21 dX6_planAnew_56 ?_
        refine lv_iload_n hx hb dX6_planAnew_57 rfl (lv_at hl 3 rfl) ?_
        obtain ⟨pn_23, hc_22, hp⟩ := bn1_s hp
        refine k_RVV (As := [.int (ro 1 x3.toNatClampNeg), .int x3]) (rest := []) ⟨hx, hb, hml, hown, hts⟩ hK hP hD hS hA (FrS_set (ws := (w_PlFi cy qpn qfo qro qra qvc qos qli pn fo ro ra vc os li)) (wc := (w_Pl cy qpn pn)) (w1 := (w_Pl cy qpn pn_23)) (wn := (w_PlFi cy qpn qfo qro qra qvc qos qli pn_23 fo ro ra vc os li)) [0, 1, 2] [some 0, some 1, some 2, none, none, none, none, none, none, none, none, none, none, none, none, none, none, none, none, none, none, none, none, none, none, none] (by decide +kernel) rfl rfl rfl) (cw_X6_50 hts ⟨Nat.le_of_ble_eq_true rfl, Nat.le_of_ble_eq_true rfl⟩) 0 (ci := 6) rfl rfl rfl (c_X6_enqueue l D cy qpn pn (ro 1 x3.toNatClampNeg) x3 pn_23 hc_22) rfl hl.1 (Nat.le_of_ble_eq_true rfl) ⟨Nat.le_refl _, Nat.le_refl _⟩ dX6_planAnew_58 (fun H locs hP hD hS => ?_)
        obtain ⟨x3_24, ex3_24⟩ : ∃ y : Int32, y = x3 + 1 := ⟨_, rfl⟩
        have hp := stk_e hp ex3_24
        refine lv_iinc (v := x3_24) (lv' := [(3, .int x3_24), (0, .ref (qpn 0)), (1, .ref (qfo 0)), (2, .int p2)]) hx hb dX6_planAnew_61 hl (k := 3) rfl (by rw [ex3_24]; rfl) (by decide) rfl (fun ls hl => ?_)
        refine lv_goto (tgt := 21) hx hb dX6_planAnew_64 (by decide) ?_
        exact hk21 pn_23 fo vc os x3_24 _ _ _ hP hD hS (lv_sub hl [1, 2, 3, 0] rfl) hp
theorem Pl_planAnew_b21_w (C0 : cX RX6 cX6_planAnew none 4 p s m args meth c) (hK : kN D cy s) {qpn qfo qro qra qvc qos qli : Nat → Nat} {ro ra li : Mem} {p2 : Int32} {pn' fo' vc' os' : Mem} (hA : ∀ q, s.heap.size ≤ q → A q) : ∀ (n : Nat) (pn fo vc os : Mem) (x3 : Int32) (H : Heap) (locs : List Loc) (ls : Array Slot), va_P D vwCl (w_PlFi cy qpn qfo qro qra qvc qos qli pn fo ro ra vc os li) H → va_D A (w_PlFi cy qpn qfo qro qra qvc qos qli pn fo ro ra vc os li) → va_S A s.heap H locs → lv_has ls 4 [(0, .ref (qpn 0)), (1, .ref (qfo 0)), (2, .int p2), (3, .int x3)] → Pl_planAnew_b21 ro ra p2 n pn fo vc os x3 = some (pn', fo', vc', os') → W p l e (rmD 5) s m args below meth c H locs 0 0 (qRV D below args s A (w_PlFi cy qpn qfo qro qra qvc qos qli pn' fo' ro ra vc' os' li)) (F0 m 21 ls []) := by
  intro n
  induction n with
  | zero =>
    intro pn fo vc os x3 H locs ls hP hD hS hl hp
    cases hp
  | succ n ih =>
    intro pn fo vc os x3 H locs ls hP hD hS hl hp
    exact Pl_planAnew_b21B_w C0 hK hA  (fun pn fo vc os x3 H locs ls hP hD hS hl hp => ih pn fo vc os x3 H locs ls hP hD hS hl hp) hP hD hS hl hp
set_option maxHeartbeats 4000000 in
set_option maxRecDepth 100000 in
theorem c_X6_planAnew (l : Launch) (D : va_G) (cy : Nat → ClassId) (qpn qfo qro qra qvc qos qli : Nat → Nat) (pn fo ro ra vc os li : Mem) (p2 : Int32) (pn' fo' vc' os' : Mem) (hp : Pl_planAnew pn fo ro ra vc os p2 = some (pn', fo', vc', os')) : RV l yX6_planAnew cX6_planAnew 4 5 D cy [.ref (qpn 0), .ref (qfo 0), .int p2] (w_PlFi cy qpn qfo qro qra qvc qos qli pn fo ro ra vc os li) (w_PlFi cy qpn qfo qro qra qvc qos qli pn' fo' ro ra vc' os' li) := by
  refine RV_of RX6 rfl (by decide) (Nat.le_of_ble_eq_true rfl) ?_
  intro p e s m below meth c A C0 hK hP hD hS hA ls hl
  obtain ⟨hx, hb, hr, hml, hown, hts, hk⟩ := id C0
  unfold Pl_planAnew at hp
  have hl : lv_has ls 4 [(0, .ref (qpn 0)), (1, .ref (qfo 0)), (2, .int p2)] := hl
  refine lv_aload_n hx hb dX6_planAnew_0 rfl (lv_at hl 0 rfl) ?_
  refine lv_dup hx hb dX6_planAnew_1 rfl ?_
  refine gf_X6_18 hx hb hts hown hK hP 0 rfl rfl dX6_planAnew_2 ?_
  refine lv_iconst (v := 1) hx hb dX6_planAnew_5 (by decide) ?_
  refine lv_iadd hx hb dX6_planAnew_6 ?_
  obtain ⟨pn_1, epn_1⟩ : ∃ y : Mem, y = upm pn 3 0 ((pn 3 0) + 1) := ⟨_, rfl⟩
  have hp := stk_e hp epn_1
  refine pf_X6_18 hx hb hts hown hK hP hD hS (wn := (w_PlFi cy qpn qfo qro qra qvc qos qli pn_1 fo ro ra vc os li)) 0 rfl (Nat.le_of_ble_eq_true rfl) (by subst epn_1; rfl) dX6_planAnew_7 (fun H locs hP hD hS => ?_)
  refine lv_aload_n hx hb dX6_planAnew_10 rfl (lv_at hl 1 rfl) ?_
  obtain ⟨fo_3, vc_4, os_5, hc_2, hp⟩ := bn3_s hp
  refine k_RVV (As := []) (rest := []) ⟨hx, hb, hml, hown, hts⟩ hK hP hD hS hA (FrS_set (ws := (w_PlFi cy qpn qfo qro qra qvc qos qli pn_1 fo ro ra vc os li)) (wc := (w_Fi cy qfo qro qra qvc qos qli fo ro ra vc os li)) (w1 := (w_Fi cy qfo qro qra qvc qos qli fo_3 ro ra vc_4 os_5 li)) (wn := (w_PlFi cy qpn qfo qro qra qvc qos qli pn_1 fo_3 ro ra vc_4 os_5 li)) [3, 4, 5, 6, 7, 8, 9, 10, 11, 12, 13, 14, 15, 16, 17, 18, 19, 20, 21, 22, 23, 24, 25] [none, none, none, some 0, some 1, some 2, some 3, some 4, some 5, some 6, some 7, some 8, some 9, some 10, some 11, some 12, some 13, some 14, some 15, some 16, some 17, some 18, some 19, some 20, some 21, some 22] (by decide +kernel) rfl rfl rfl) (cw_X6_22 hts ⟨Nat.le_of_ble_eq_true rfl, Nat.le_of_ble_eq_true rfl⟩) 0 (ci := 2) rfl rfl rfl (c_X2_clearPlan l D cy qfo qro qra qvc qos qli fo ro ra vc os li fo_3 vc_4 os_5 hc_2) rfl hl.1 (Nat.le_of_ble_eq_true rfl) ⟨Nat.le_refl _, Nat.le_refl _⟩ dX6_planAnew_11 (fun H locs hP hD hS => ?_)
  refine lv_aload_n hx hb dX6_planAnew_14 rfl (lv_at hl 0 rfl) ?_
  refine lv_iconst (v := 0) hx hb dX6_planAnew_15 (by decide) ?_
  obtain ⟨pn_6, epn_6⟩ : ∃ y : Mem, y = upm pn_1 1 0 0 := ⟨_, rfl⟩
  have hp := stk_e hp epn_6
  refine pf_X6_27 hx hb hts hown hK hP hD hS (wn := (w_PlFi cy qpn qfo qro qra qvc qos qli pn_6 fo_3 ro ra vc_4 os_5 li)) 0 rfl (Nat.le_of_ble_eq_true rfl) (by subst epn_6; rfl) dX6_planAnew_16 (fun H locs hP hD hS => ?_)
  refine lv_iconst (v := 0) hx hb dX6_planAnew_19 (by decide) ?_
  refine lv_istore_n (lv' := [(3, .int 0), (0, .ref (qpn 0)), (1, .ref (qfo 0)), (2, .int p2)]) hx hb dX6_planAnew_20 rfl hl (by decide) rfl (fun ls hl => ?_)
  exact Pl_planAnew_b21_w C0 hK hA  fl pn_6 fo_3 vc_4 os_5 0 _ _ _ hP hD hS (lv_sub hl [1, 2, 3, 0] rfl) hp
/-! StormSlots$Planner.planOn(LStormSlots$Field;)I -/
def Pl_planOn_b106B (ro : Mem) (ra : Mem) (k106 : Mem → Mem → Mem → Mem → Int32 → Int32 → Option (Int32 × Mem × Mem × Mem × Mem)) (pn : Mem) (fo : Mem) (vc : Mem) (os : Mem) (x2 : Int32) (x3 : Int32) : Option (Int32 × Mem × Mem × Mem × Mem) :=
  if 20 ≤ x3 then bn3 (Pl_seatGrounded pn fo ro ra) (fun r_23 pn_24 fo_25 => stk (x2 + r_23) (fun x2_26 => bn2 (Fi_clearMarket vc os) (fun vc_28 os_29 => some (x2_26, pn_24, fo_25, vc_28, os_29)))) else bn1 (Fi_isFlight ro x3) (fun r_31 => if r_31 = 0 then stk (x3 + 1) (fun x3_33 => k106 pn fo vc os x2 x3_33) else bn1 (Fi_isAloft fo ro x3) (fun r_35 => if r_35 = 0 then bn1 (Fi_isCancelled fo ro x3) (fun r_39 => if r_39 = 0 then ckI x3 20 (bn1 (Pl_enqueue pn (ro 1 x3.toNatClampNeg) x3) (fun pn_44 => stk (x3 + 1) (fun x3_45 => k106 pn_44 fo vc os x2 x3_45))) else stk (x3 + 1) (fun x3_41 => k106 pn fo vc os x2 x3_41)) else stk (x3 + 1) (fun x3_37 => k106 pn fo vc os x2 x3_37)))
def Pl_planOn_b106 (ro : Mem) (ra : Mem) : Nat → Mem → Mem → Mem → Mem → Int32 → Int32 → Option (Int32 × Mem × Mem × Mem × Mem)
  | 0 => fun _ _ _ _ _ _ => none
  | n + 1 => Pl_planOn_b106B ro ra (Pl_planOn_b106 ro ra n)
def Pl_planOn_b17B (ro : Mem) (ra : Mem) (k17 : Mem → Mem → Mem → Mem → Int32 → Option (Int32 × Mem × Mem × Mem × Mem)) (pn : Mem) (fo : Mem) (vc : Mem) (os : Mem) (x2 : Int32) : Option (Int32 × Mem × Mem × Mem × Mem) :=
  if 20 ≤ x2 then bn3 (Pl_seatAirborne pn fo ro ra ((fo 9 0) + 1)) (fun r_5 pn_6 fo_7 => stk (upm pn_6 1 0 0) (fun pn_8 => Pl_planOn_b106 ro ra fl pn_8 fo_7 vc os r_5 0)) else bn1 (Fi_isAloft fo ro x2) (fun r_10 => if r_10 = 0 then stk (x2 + 1) (fun x2_20 => k17 pn fo vc os x2_20) else ckI x2 20 (if (fo 9 0) < (fo 5 x2.toNatClampNeg) then bn1 (Pl_enqueue pn ((ro 1 x2.toNatClampNeg) + (fo 6 x2.toNatClampNeg)) x2) (fun pn_15 => stk (x2 + 1) (fun x2_16 => k17 pn_15 fo vc os x2_16)) else bn1 (Pl_take pn (fo 5 x2.toNatClampNeg)) (fun pn_18 => stk (x2 + 1) (fun x2_19 => k17 pn_18 fo vc os x2_19))))
def Pl_planOn_b17 (ro : Mem) (ra : Mem) : Nat → Mem → Mem → Mem → Mem → Int32 → Option (Int32 × Mem × Mem × Mem × Mem)
  | 0 => fun _ _ _ _ _ => none
  | n + 1 => Pl_planOn_b17B ro ra (Pl_planOn_b17 ro ra n)
def Pl_planOn (pn : Mem) (fo : Mem) (ro : Mem) (ra : Mem) (vc : Mem) (os : Mem) : Option (Int32 × Mem × Mem × Mem × Mem) :=
  stk (upm pn 3 0 ((pn 3 0) + 1)) (fun pn_1 => stk (upm pn_1 1 0 0) (fun pn_2 => Pl_planOn_b17 ro ra fl pn_2 fo vc os 0))
set_option maxHeartbeats 4000000 in
set_option maxRecDepth 100000 in
theorem Pl_planOn_b106B_w (C0 : cX RX6 cX6_planOn (some .int) 4 p s m args meth c) (hK : kN D cy s) {qpn qfo qro qra qvc qos qli : Nat → Nat} {ro ra li : Mem} {r : Int32} {pn' fo' vc' os' : Mem} (hA : ∀ q, s.heap.size ≤ q → A q) {k106 : Mem → Mem → Mem → Mem → Int32 → Int32 → Option (Int32 × Mem × Mem × Mem × Mem)} (hk106 : ∀ (pn fo vc os : Mem) (x2 x3 : Int32) (H : Heap) (locs : List Loc) (ls : Array Slot), va_P D vwCl (w_PlFi cy qpn qfo qro qra qvc qos qli pn fo ro ra vc os li) H → va_D A (w_PlFi cy qpn qfo qro qra qvc qos qli pn fo ro ra vc os li) → va_S A s.heap H locs → lv_has ls 4 [(0, .ref (qpn 0)), (1, .ref (qfo 0)), (2, .int x2), (3, .int x3)] → k106 pn fo vc os x2 x3 = some (r, pn', fo', vc', os') → W p l e (rmD 5) s m args below meth c H locs 0 0 (qRI D below args s A (w_PlFi cy qpn qfo qro qra qvc qos qli pn' fo' ro ra vc' os' li) r) (F0 m 106 ls [])) {pn : Mem} {fo : Mem} {vc : Mem} {os : Mem} {x2 : Int32} {x3 : Int32} {H : Heap} {locs : List Loc} (hP : va_P D vwCl (w_PlFi cy qpn qfo qro qra qvc qos qli pn fo ro ra vc os li) H) (hD : va_D A (w_PlFi cy qpn qfo qro qra qvc qos qli pn fo ro ra vc os li)) (hS : va_S A s.heap H locs) {ls : Array Slot} (hl : lv_has ls 4 [(0, .ref (qpn 0)), (1, .ref (qfo 0)), (2, .int x2), (3, .int x3)]) (hp : Pl_planOn_b106B ro ra k106 pn fo vc os x2 x3 = some (r, pn', fo', vc', os')) : W p l e (rmD 5) s m args below meth c H locs 0 0 (qRI D below args s A (w_PlFi cy qpn qfo qro qra qvc qos qli pn' fo' ro ra vc' os' li) r) (F0 m 106 ls []) := by
  obtain ⟨hx, hb, hr, hml, hown, hts, hk⟩ := id C0
  unfold Pl_planOn_b106B at hp
  refine lv_iload_n hx hb dX6_planOn_106 rfl (lv_at hl 3 rfl) ?_
  refine lv_bipush (v := 20) hx hb dX6_planOn_107 (by decide) ?_
  refine lv_icmp_ge (tgt := 156) hx hb dX6_planOn_109 (by decide) (fun c_21 => ?_) (fun c_21 => ?_)
  · have hp := ite_p hp c_21
    refine lv_iload_n hx hb dX6_planOn_156 rfl (lv_at hl 2 rfl) ?_
    refine lv_aload_n hx hb dX6_planOn_157 rfl (lv_at hl 0 rfl) ?_
    refine lv_aload_n hx hb dX6_planOn_158 rfl (lv_at hl 1 rfl) ?_
    obtain ⟨r_23, pn_24, fo_25, hc_22, hp⟩ := bn3_s hp
    refine k_RIV (As := [.ref (qfo 0)]) (rest := [.int x2]) ⟨hx, hb, hml, hown, hts⟩ hK hP hD hS hA FrS_rf (cw_X6_62 hts ⟨Nat.le_of_ble_eq_true rfl, Nat.le_of_ble_eq_true rfl⟩) 0 (ci := 6) rfl rfl rfl (c_X6_seatGrounded l D cy qpn qfo qro qra qvc qos qli pn fo ro ra vc os li r_23 pn_24 fo_25 hc_22) rfl hl.1 (Nat.le_of_ble_eq_true rfl) ⟨Nat.le_refl _, Nat.le_refl _⟩ dX6_planOn_159 (fun H locs hP hD hS => ?_)
    refine lv_iadd hx hb dX6_planOn_162 ?_
    refine lv_topi (fun x2_26 ex2_26 => ?_)
    have hp := stk_e hp ex2_26
    refine lv_istore_n (lv' := [(2, .int x2_26), (0, .ref (qpn 0)), (1, .ref (qfo 0)), (3, .int x3)]) hx hb dX6_planOn_163 rfl hl (by decide) rfl (fun ls hl => ?_)
    refine lv_aload_n hx hb dX6_planOn_164 rfl (lv_at hl 2 rfl) ?_
    obtain ⟨vc_28, os_29, hc_27, hp⟩ := bn2_s hp
    refine k_RVV (As := []) (rest := []) ⟨hx, hb, hml, hown, hts⟩ hK hP hD hS hA (FrS_set (ws := (w_PlFi cy qpn qfo qro qra qvc qos qli pn_24 fo_25 ro ra vc os li)) (wc := (w_Fi cy qfo qro qra qvc qos qli fo_25 ro ra vc os li)) (w1 := (w_Fi cy qfo qro qra qvc qos qli fo_25 ro ra vc_28 os_29 li)) (wn := (w_PlFi cy qpn qfo qro qra qvc qos qli pn_24 fo_25 ro ra vc_28 os_29 li)) [3, 4, 5, 6, 7, 8, 9, 10, 11, 12, 13, 14, 15, 16, 17, 18, 19, 20, 21, 22, 23, 24, 25] [none, none, none, some 0, some 1, some 2, some 3, some 4, some 5, some 6, some 7, some 8, some 9, some 10, some 11, some 12, some 13, some 14, some 15, some 16, some 17, some 18, some 19, some 20, some 21, some 22] (by decide +kernel) rfl rfl rfl) (cw_X6_86 hts ⟨Nat.le_of_ble_eq_true rfl, Nat.le_of_ble_eq_true rfl⟩) 0 (ci := 2) rfl rfl rfl (c_X2_clearMarket l D cy qfo qro qra qvc qos qli fo_25 ro ra vc os li vc_28 os_29 hc_27) rfl hl.1 (Nat.le_of_ble_eq_true rfl) ⟨Nat.le_refl _, Nat.le_refl _⟩ dX6_planOn_165 (fun H locs hP hD hS => ?_)
    refine lv_iload_n hx hb dX6_planOn_168 rfl (lv_at hl 0 rfl) ?_
    simp only [Option.some.injEq, Prod.mk.injEq] at hp
    obtain ⟨h0, rfl, rfl, rfl, rfl⟩ := hp
    exact e_RIi hx hb hr hk hP hD hS dX6_planOn_169 h0
  · have hp := ite_n hp c_21
    refine lv_aload_n hx hb dX6_planOn_112 rfl (lv_at hl 1 rfl) ?_
    refine lv_iload_n hx hb dX6_planOn_113 rfl (lv_at hl 3 rfl) ?_
    obtain ⟨r_31, hc_30, hp⟩ := bn1_s hp
    refine k_ROV (As := [.int x3]) (rest := []) ⟨hx, hb, hml, hown, hts⟩ hK (hP.sub (ws' := (w_Fi cy qfo qro qra qvc qos qli fo ro ra vc os li)) [3, 4, 5, 6, 7, 8, 9, 10, 11, 12, 13, 14, 15, 16, 17, 18, 19, 20, 21, 22, 23, 24, 25] rfl) (cw_X6_30 hts ⟨Nat.le_of_ble_eq_true rfl, Nat.le_of_ble_eq_true rfl⟩) 0 (ci := 2) rfl rfl rfl (c_X2_isFlight l D cy qfo qro qra qvc qos qli fo ro ra vc os li x3 r_31 hc_30) rfl hl.1 (Nat.le_of_ble_eq_true rfl) ⟨Nat.le_refl _, Nat.le_refl _⟩ dX6_planOn_114 ?_
    refine lv_if_eq (tgt := 150) hx hb dX6_planOn_117 (by decide) (fun c_32 => ?_) (fun c_32 => ?_)
    · have hp := ite_p hp c_32
      obtain ⟨x3_33, ex3_33⟩ : ∃ y : Int32, y = x3 + 1 := ⟨_, rfl⟩
      have hp := stk_e hp ex3_33
      refine lv_iinc (v := x3_33) (lv' := [(3, .int x3_33), (0, .ref (qpn 0)), (1, .ref (qfo 0)), (2, .int x2)]) hx hb dX6_planOn_150 hl (k := 3) rfl (by rw [ex3_33]; rfl) (by decide) rfl (fun ls hl => ?_)
      refine lv_goto (tgt := 106) hx hb dX6_planOn_153 (by decide) ?_
      exact hk106 pn fo vc os x2 x3_33 _ _ _ hP hD hS (lv_sub hl [1, 2, 3, 0] rfl) hp
    · have hp := ite_n hp c_32
      refine lv_aload_n hx hb dX6_planOn_120 rfl (lv_at hl 1 rfl) ?_
      refine lv_iload_n hx hb dX6_planOn_121 rfl (lv_at hl 3 rfl) ?_
      obtain ⟨r_35, hc_34, hp⟩ := bn1_s hp
      refine k_ROV (As := [.int x3]) (rest := []) ⟨hx, hb, hml, hown, hts⟩ hK (hP.sub (ws' := (w_Fi cy qfo qro qra qvc qos qli fo ro ra vc os li)) [3, 4, 5, 6, 7, 8, 9, 10, 11, 12, 13, 14, 15, 16, 17, 18, 19, 20, 21, 22, 23, 24, 25] rfl) (cw_X6_70 hts ⟨Nat.le_of_ble_eq_true rfl, Nat.le_of_ble_eq_true rfl⟩) 0 (ci := 2) rfl rfl rfl (c_X2_isAloft l D cy qfo qro qra qvc qos qli fo ro ra vc os li x3 r_35 hc_34) rfl hl.1 (Nat.le_of_ble_eq_true rfl) ⟨Nat.le_refl _, Nat.le_refl _⟩ dX6_planOn_122 ?_
      refine lv_if_ne (tgt := 150) hx hb dX6_planOn_125 (by decide) (fun c_36 => ?_) (fun c_36 => ?_)
      · have hp := ite_n hp c_36
        obtain ⟨x3_37, ex3_37⟩ : ∃ y : Int32, y = x3 + 1 := ⟨_, rfl⟩
        have hp := stk_e hp ex3_37
        refine lv_iinc (v := x3_37) (lv' := [(3, .int x3_37), (0, .ref (qpn 0)), (1, .ref (qfo 0)), (2, .int x2)]) hx hb dX6_planOn_150 hl (k := 3) rfl (by rw [ex3_37]; rfl) (by decide) rfl (fun ls hl => ?_)
        refine lv_goto (tgt := 106) hx hb dX6_planOn_153 (by decide) ?_
        exact hk106 pn fo vc os x2 x3_37 _ _ _ hP hD hS (lv_sub hl [1, 2, 3, 0] rfl) hp
      · have hp := ite_p hp c_36
        refine lv_aload_n hx hb dX6_planOn_128 rfl (lv_at hl 1 rfl) ?_
        refine lv_iload_n hx hb dX6_planOn_129 rfl (lv_at hl 3 rfl) ?_
        obtain ⟨r_39, hc_38, hp⟩ := bn1_s hp
        refine k_ROV (As := [.int x3]) (rest := []) ⟨hx, hb, hml, hown, hts⟩ hK (hP.sub (ws' := (w_Fi cy qfo qro qra qvc qos qli fo ro ra vc os li)) [3, 4, 5, 6, 7, 8, 9, 10, 11, 12, 13, 14, 15, 16, 17, 18, 19, 20, 21, 22, 23, 24, 25] rfl) (cw_X6_83 hts ⟨Nat.le_of_ble_eq_true rfl, Nat.le_of_ble_eq_true rfl⟩) 0 (ci := 2) rfl rfl rfl (c_X2_isCancelled l D cy qfo qro qra qvc qos qli fo ro ra vc os li x3 r_39 hc_38) rfl hl.1 (Nat.le_of_ble_eq_true rfl) ⟨Nat.le_refl _, Nat.le_refl _⟩ dX6_planOn_130 ?_
        refine lv_if_ne (tgt := 150) hx hb dX6_planOn_133 (by decide) (fun c_40 => ?_) (fun c_40 => ?_)
        · have hp := ite_n hp c_40
          obtain ⟨x3_41, ex3_41⟩ : ∃ y : Int32, y = x3 + 1 := ⟨_, rfl⟩
          have hp := stk_e hp ex3_41
          refine lv_iinc (v := x3_41) (lv' := [(3, .int x3_41), (0, .ref (qpn 0)), (1, .ref (qfo 0)), (2, .int x2)]) hx hb dX6_planOn_150 hl (k := 3) rfl (by rw [ex3_41]; rfl) (by decide) rfl (fun ls hl => ?_)
          refine lv_goto (tgt := 106) hx hb dX6_planOn_153 (by decide) ?_
          exact hk106 pn fo vc os x2 x3_41 _ _ _ hP hD hS (lv_sub hl [1, 2, 3, 0] rfl) hp
        · have hp := ite_p hp c_40
          refine lv_aload_n hx hb dX6_planOn_136 rfl (lv_at hl 0 rfl) ?_
          refine lv_aload_n hx hb dX6_planOn_137 rfl (lv_at hl 1 rfl) ?_
          refine gf_X6_41 hx hb hts hown hK hP 3 rfl rfl dX6_planOn_138 ?_
          refine gf_X6_45 hx hb hts hown hK hP 7 rfl rfl dX6_planOn_141 ?_
          refine lv_iload_n hx hb dX6_planOn_144 rfl (lv_at hl 3 rfl) ?_
          obtain ⟨hi_42, hp⟩ := ckI_s hp
          refine r_ild hx hb hK hP 9 rfl hi_42 dX6_planOn_145 ?_
          refine lv_iload_n hx hb dX6_planOn_146 rfl (lv_at hl 3 rfl) ?_
          obtain ⟨pn_44, hc_43, hp⟩ := bn1_s hp
          refine k_RVV (As := [.int (ro 1 x3.toNatClampNeg), .int x3]) (rest := []) ⟨hx, hb, hml, hown, hts⟩ hK hP hD hS hA (FrS_set (ws := (w_PlFi cy qpn qfo qro qra qvc qos qli pn fo ro ra vc os li)) (wc := (w_Pl cy qpn pn)) (w1 := (w_Pl cy qpn pn_44)) (wn := (w_PlFi cy qpn qfo qro qra qvc qos qli pn_44 fo ro ra vc os li)) [0, 1, 2] [some 0, some 1, some 2, none, none, none, none, none, none, none, none, none, none, none, none, none, none, none, none, none, none, none, none, none, none, none] (by decide +kernel) rfl rfl rfl) (cw_X6_50 hts ⟨Nat.le_of_ble_eq_true rfl, Nat.le_of_ble_eq_true rfl⟩) 0 (ci := 6) rfl rfl rfl (c_X6_enqueue l D cy qpn pn (ro 1 x3.toNatClampNeg) x3 pn_44 hc_43) rfl hl.1 (Nat.le_of_ble_eq_true rfl) ⟨Nat.le_refl _, Nat.le_refl _⟩ dX6_planOn_147 (fun H locs hP hD hS => ?_)
          obtain ⟨x3_45, ex3_45⟩ : ∃ y : Int32, y = x3 + 1 := ⟨_, rfl⟩
          have hp := stk_e hp ex3_45
          refine lv_iinc (v := x3_45) (lv' := [(3, .int x3_45), (0, .ref (qpn 0)), (1, .ref (qfo 0)), (2, .int x2)]) hx hb dX6_planOn_150 hl (k := 3) rfl (by rw [ex3_45]; rfl) (by decide) rfl (fun ls hl => ?_)
          refine lv_goto (tgt := 106) hx hb dX6_planOn_153 (by decide) ?_
          exact hk106 pn_44 fo vc os x2 x3_45 _ _ _ hP hD hS (lv_sub hl [1, 2, 3, 0] rfl) hp
theorem Pl_planOn_b106_w (C0 : cX RX6 cX6_planOn (some .int) 4 p s m args meth c) (hK : kN D cy s) {qpn qfo qro qra qvc qos qli : Nat → Nat} {ro ra li : Mem} {r : Int32} {pn' fo' vc' os' : Mem} (hA : ∀ q, s.heap.size ≤ q → A q) : ∀ (n : Nat) (pn fo vc os : Mem) (x2 x3 : Int32) (H : Heap) (locs : List Loc) (ls : Array Slot), va_P D vwCl (w_PlFi cy qpn qfo qro qra qvc qos qli pn fo ro ra vc os li) H → va_D A (w_PlFi cy qpn qfo qro qra qvc qos qli pn fo ro ra vc os li) → va_S A s.heap H locs → lv_has ls 4 [(0, .ref (qpn 0)), (1, .ref (qfo 0)), (2, .int x2), (3, .int x3)] → Pl_planOn_b106 ro ra n pn fo vc os x2 x3 = some (r, pn', fo', vc', os') → W p l e (rmD 5) s m args below meth c H locs 0 0 (qRI D below args s A (w_PlFi cy qpn qfo qro qra qvc qos qli pn' fo' ro ra vc' os' li) r) (F0 m 106 ls []) := by
  intro n
  induction n with
  | zero =>
    intro pn fo vc os x2 x3 H locs ls hP hD hS hl hp
    cases hp
  | succ n ih =>
    intro pn fo vc os x2 x3 H locs ls hP hD hS hl hp
    exact Pl_planOn_b106B_w C0 hK hA  (fun pn fo vc os x2 x3 H locs ls hP hD hS hl hp => ih pn fo vc os x2 x3 H locs ls hP hD hS hl hp) hP hD hS hl hp
set_option maxHeartbeats 4000000 in
set_option maxRecDepth 100000 in
theorem Pl_planOn_b17B_w (C0 : cX RX6 cX6_planOn (some .int) 4 p s m args meth c) (hK : kN D cy s) {qpn qfo qro qra qvc qos qli : Nat → Nat} {ro ra li : Mem} {r : Int32} {pn' fo' vc' os' : Mem} (hA : ∀ q, s.heap.size ≤ q → A q) {k17 : Mem → Mem → Mem → Mem → Int32 → Option (Int32 × Mem × Mem × Mem × Mem)} (hk17 : ∀ (pn fo vc os : Mem) (x2 : Int32) (H : Heap) (locs : List Loc) (ls : Array Slot), va_P D vwCl (w_PlFi cy qpn qfo qro qra qvc qos qli pn fo ro ra vc os li) H → va_D A (w_PlFi cy qpn qfo qro qra qvc qos qli pn fo ro ra vc os li) → va_S A s.heap H locs → lv_has ls 4 [(0, .ref (qpn 0)), (1, .ref (qfo 0)), (2, .int x2)] → k17 pn fo vc os x2 = some (r, pn', fo', vc', os') → W p l e (rmD 5) s m args below meth c H locs 0 0 (qRI D below args s A (w_PlFi cy qpn qfo qro qra qvc qos qli pn' fo' ro ra vc' os' li) r) (F0 m 17 ls [])) {pn : Mem} {fo : Mem} {vc : Mem} {os : Mem} {x2 : Int32} {H : Heap} {locs : List Loc} (hP : va_P D vwCl (w_PlFi cy qpn qfo qro qra qvc qos qli pn fo ro ra vc os li) H) (hD : va_D A (w_PlFi cy qpn qfo qro qra qvc qos qli pn fo ro ra vc os li)) (hS : va_S A s.heap H locs) {ls : Array Slot} (hl : lv_has ls 4 [(0, .ref (qpn 0)), (1, .ref (qfo 0)), (2, .int x2)]) (hp : Pl_planOn_b17B ro ra k17 pn fo vc os x2 = some (r, pn', fo', vc', os')) : W p l e (rmD 5) s m args below meth c H locs 0 0 (qRI D below args s A (w_PlFi cy qpn qfo qro qra qvc qos qli pn' fo' ro ra vc' os' li) r) (F0 m 17 ls []) := by
  obtain ⟨hx, hb, hr, hml, hown, hts, hk⟩ := id C0
  unfold Pl_planOn_b17B at hp
  refine lv_iload_n hx hb dX6_planOn_17 rfl (lv_at hl 2 rfl) ?_
  refine lv_bipush (v := 20) hx hb dX6_planOn_18 (by decide) ?_
  refine lv_icmp_ge (tgt := 87) hx hb dX6_planOn_20 (by decide) (fun c_3 => ?_) (fun c_3 => ?_)
  · have hp := ite_p hp c_3
    refine lv_aload_n hx hb dX6_planOn_87 rfl (lv_at hl 0 rfl) ?_
    refine lv_aload_n hx hb dX6_planOn_88 rfl (lv_at hl 1 rfl) ?_
    refine lv_aload_n hx hb dX6_planOn_89 rfl (lv_at hl 1 rfl) ?_
    refine gf_X6_38 hx hb hts hown hK hP 3 rfl rfl dX6_planOn_90 ?_
    refine lv_iconst (v := 1) hx hb dX6_planOn_93 (by decide) ?_
    refine lv_iadd hx hb dX6_planOn_94 ?_
    obtain ⟨r_5, pn_6, fo_7, hc_4, hp⟩ := bn3_s hp
    refine k_RIV (As := [.ref (qfo 0), .int ((fo 9 0) + 1)]) (rest := []) ⟨hx, hb, hml, hown, hts⟩ hK hP hD hS hA FrS_rf (cw_X6_54 hts ⟨Nat.le_of_ble_eq_true rfl, Nat.le_of_ble_eq_true rfl⟩) 0 (ci := 6) rfl rfl rfl (c_X6_seatAirborne l D cy qpn qfo qro qra qvc qos qli pn fo ro ra vc os li ((fo 9 0) + 1) r_5 pn_6 fo_7 hc_4) rfl hl.1 (Nat.le_of_ble_eq_true rfl) ⟨Nat.le_refl _, Nat.le_refl _⟩ dX6_planOn_95 (fun H locs hP hD hS => ?_)
    refine lv_istore_n (lv' := [(2, .int r_5), (0, .ref (qpn 0)), (1, .ref (qfo 0))]) hx hb dX6_planOn_98 rfl hl (by decide) rfl (fun ls hl => ?_)
    refine lv_aload_n hx hb dX6_planOn_99 rfl (lv_at hl 1 rfl) ?_
    refine lv_iconst (v := 0) hx hb dX6_planOn_100 (by decide) ?_
    obtain ⟨pn_8, epn_8⟩ : ∃ y : Mem, y = upm pn_6 1 0 0 := ⟨_, rfl⟩
    have hp := stk_e hp epn_8
    refine pf_X6_27 hx hb hts hown hK hP hD hS (wn := (w_PlFi cy qpn qfo qro qra qvc qos qli pn_8 fo_7 ro ra vc os li)) 0 rfl (Nat.le_of_ble_eq_true rfl) (by subst epn_8; rfl) dX6_planOn_101 (fun H locs hP hD hS => ?_)
    refine lv_iconst (v := 0) hx hb dX6_planOn_104 (by decide) ?_
    refine lv_istore_n (lv' := [(3, .int 0), (2, .int r_5), (0, .ref (qpn 0)), (1, .ref (qfo 0))]) hx hb dX6_planOn_105 rfl hl (by decide) rfl (fun ls hl => ?_)
    exact Pl_planOn_b106_w C0 hK hA  fl pn_8 fo_7 vc os r_5 0 _ _ _ hP hD hS (lv_sub hl [2, 3, 1, 0] rfl) hp
  · have hp := ite_n hp c_3
    refine lv_aload_n hx hb dX6_planOn_23 rfl (lv_at hl 1 rfl) ?_
    refine lv_iload_n hx hb dX6_planOn_24 rfl (lv_at hl 2 rfl) ?_
    obtain ⟨r_10, hc_9, hp⟩ := bn1_s hp
    refine k_ROV (As := [.int x2]) (rest := []) ⟨hx, hb, hml, hown, hts⟩ hK (hP.sub (ws' := (w_Fi cy qfo qro qra qvc qos qli fo ro ra vc os li)) [3, 4, 5, 6, 7, 8, 9, 10, 11, 12, 13, 14, 15, 16, 17, 18, 19, 20, 21, 22, 23, 24, 25] rfl) (cw_X6_70 hts ⟨Nat.le_of_ble_eq_true rfl, Nat.le_of_ble_eq_true rfl⟩) 0 (ci := 2) rfl rfl rfl (c_X2_isAloft l D cy qfo qro qra qvc qos qli fo ro ra vc os li x2 r_10 hc_9) rfl hl.1 (Nat.le_of_ble_eq_true rfl) ⟨Nat.le_refl _, Nat.le_refl _⟩ dX6_planOn_25 ?_
    refine lv_if_ne (tgt := 34) hx hb dX6_planOn_28 (by decide) (fun c_11 => ?_) (fun c_11 => ?_)
    · have hp := ite_n hp c_11
      refine lv_aload_n hx hb dX6_planOn_34 rfl (lv_at hl 1 rfl) ?_
      refine gf_X6_73 hx hb hts hown hK hP 3 rfl rfl dX6_planOn_35 ?_
      refine lv_iload_n hx hb dX6_planOn_38 rfl (lv_at hl 2 rfl) ?_
      obtain ⟨hi_12, hp⟩ := ckI_s hp
      refine r_ild hx hb hK hP 4 rfl hi_12 dX6_planOn_39 ?_
      refine lv_aload_n hx hb dX6_planOn_40 rfl (lv_at hl 1 rfl) ?_
      refine gf_X6_38 hx hb hts hown hK hP 3 rfl rfl dX6_planOn_41 ?_
      refine lv_icmp_gt (tgt := 60) hx hb dX6_planOn_44 (by decide) (fun c_13 => ?_) (fun c_13 => ?_)
      · have hp := ite_p hp c_13
        refine lv_aload_n hx hb dX6_planOn_60 rfl (lv_at hl 0 rfl) ?_
        refine lv_aload_n hx hb dX6_planOn_61 rfl (lv_at hl 1 rfl) ?_
        refine gf_X6_41 hx hb hts hown hK hP 3 rfl rfl dX6_planOn_62 ?_
        refine gf_X6_45 hx hb hts hown hK hP 7 rfl rfl dX6_planOn_65 ?_
        refine lv_iload_n hx hb dX6_planOn_68 rfl (lv_at hl 2 rfl) ?_
        refine r_ild hx hb hK hP 9 rfl hi_12 dX6_planOn_69 ?_
        refine lv_aload_n hx hb dX6_planOn_70 rfl (lv_at hl 1 rfl) ?_
        refine gf_X6_80 hx hb hts hown hK hP 3 rfl rfl dX6_planOn_71 ?_
        refine lv_iload_n hx hb dX6_planOn_74 rfl (lv_at hl 2 rfl) ?_
        refine r_ild hx hb hK hP 5 rfl hi_12 dX6_planOn_75 ?_
        refine lv_iadd hx hb dX6_planOn_76 ?_
        refine lv_iload_n hx hb dX6_planOn_77 rfl (lv_at hl 2 rfl) ?_
        obtain ⟨pn_15, hc_14, hp⟩ := bn1_s hp
        refine k_RVV (As := [.int ((ro 1 x2.toNatClampNeg) + (fo 6 x2.toNatClampNeg)), .int x2]) (rest := []) ⟨hx, hb, hml, hown, hts⟩ hK hP hD hS hA (FrS_set (ws := (w_PlFi cy qpn qfo qro qra qvc qos qli pn fo ro ra vc os li)) (wc := (w_Pl cy qpn pn)) (w1 := (w_Pl cy qpn pn_15)) (wn := (w_PlFi cy qpn qfo qro qra qvc qos qli pn_15 fo ro ra vc os li)) [0, 1, 2] [some 0, some 1, some 2, none, none, none, none, none, none, none, none, none, none, none, none, none, none, none, none, none, none, none, none, none, none, none] (by decide +kernel) rfl rfl rfl) (cw_X6_50 hts ⟨Nat.le_of_ble_eq_true rfl, Nat.le_of_ble_eq_true rfl⟩) 0 (ci := 6) rfl rfl rfl (c_X6_enqueue l D cy qpn pn ((ro 1 x2.toNatClampNeg) + (fo 6 x2.toNatClampNeg)) x2 pn_15 hc_14) rfl hl.1 (Nat.le_of_ble_eq_true rfl) ⟨Nat.le_refl _, Nat.le_refl _⟩ dX6_planOn_78 (fun H locs hP hD hS => ?_)
        obtain ⟨x2_16, ex2_16⟩ : ∃ y : Int32, y = x2 + 1 := ⟨_, rfl⟩
        have hp := stk_e hp ex2_16
        refine lv_iinc (v := x2_16) (lv' := [(2, .int x2_16), (0, .ref (qpn 0)), (1, .ref (qfo 0))]) hx hb dX6_planOn_81 hl (k := 2) rfl (by rw [ex2_16]; rfl) (by decide) rfl (fun ls hl => ?_)
        refine lv_goto (tgt := 17) hx hb dX6_planOn_84 (by decide) ?_
        exact hk17 pn_15 fo vc os x2_16 _ _ _ hP hD hS (lv_sub hl [1, 2, 0] rfl) hp
      · have hp := ite_n hp c_13
        refine lv_aload_n hx hb dX6_planOn_47 rfl (lv_at hl 0 rfl) ?_
        refine lv_aload_n hx hb dX6_planOn_48 rfl (lv_at hl 1 rfl) ?_
        refine gf_X6_73 hx hb hts hown hK hP 3 rfl rfl dX6_planOn_49 ?_
        refine lv_iload_n hx hb dX6_planOn_52 rfl (lv_at hl 2 rfl) ?_
        refine r_ild hx hb hK hP 4 rfl hi_12 dX6_planOn_53 ?_
        obtain ⟨pn_18, hc_17, hp⟩ := bn1_s hp
        refine k_RVV (As := [.int (fo 5 x2.toNatClampNeg)]) (rest := []) ⟨hx, hb, hml, hown, hts⟩ hK hP hD hS hA (FrS_set (ws := (w_PlFi cy qpn qfo qro qra qvc qos qli pn fo ro ra vc os li)) (wc := (w_Pl cy qpn pn)) (w1 := (w_Pl cy qpn pn_18)) (wn := (w_PlFi cy qpn qfo qro qra qvc qos qli pn_18 fo ro ra vc os li)) [0, 1, 2] [some 0, some 1, some 2, none, none, none, none, none, none, none, none, none, none, none, none, none, none, none, none, none, none, none, none, none, none, none] (by decide +kernel) rfl rfl rfl) (cw_X6_76 hts ⟨Nat.le_of_ble_eq_true rfl, Nat.le_of_ble_eq_true rfl⟩) 0 (ci := 6) rfl rfl rfl (c_X6_take l D cy qpn pn (fo 5 x2.toNatClampNeg) pn_18 hc_17) rfl hl.1 (Nat.le_of_ble_eq_true rfl) ⟨Nat.le_refl _, Nat.le_refl _⟩ dX6_planOn_54 (fun H locs hP hD hS => ?_)
        refine lv_goto (tgt := 81) hx hb dX6_planOn_57 (by decide) ?_
        obtain ⟨x2_19, ex2_19⟩ : ∃ y : Int32, y = x2 + 1 := ⟨_, rfl⟩
        have hp := stk_e hp ex2_19
        refine lv_iinc (v := x2_19) (lv' := [(2, .int x2_19), (0, .ref (qpn 0)), (1, .ref (qfo 0))]) hx hb dX6_planOn_81 hl (k := 2) rfl (by rw [ex2_19]; rfl) (by decide) rfl (fun ls hl => ?_)
        refine lv_goto (tgt := 17) hx hb dX6_planOn_84 (by decide) ?_
        exact hk17 pn_18 fo vc os x2_19 _ _ _ hP hD hS (lv_sub hl [1, 2, 0] rfl) hp
    · have hp := ite_p hp c_11
      refine lv_goto (tgt := 81) hx hb dX6_planOn_31 (by decide) ?_
      obtain ⟨x2_20, ex2_20⟩ : ∃ y : Int32, y = x2 + 1 := ⟨_, rfl⟩
      have hp := stk_e hp ex2_20
      refine lv_iinc (v := x2_20) (lv' := [(2, .int x2_20), (0, .ref (qpn 0)), (1, .ref (qfo 0))]) hx hb dX6_planOn_81 hl (k := 2) rfl (by rw [ex2_20]; rfl) (by decide) rfl (fun ls hl => ?_)
      refine lv_goto (tgt := 17) hx hb dX6_planOn_84 (by decide) ?_
      exact hk17 pn fo vc os x2_20 _ _ _ hP hD hS (lv_sub hl [1, 2, 0] rfl) hp
theorem Pl_planOn_b17_w (C0 : cX RX6 cX6_planOn (some .int) 4 p s m args meth c) (hK : kN D cy s) {qpn qfo qro qra qvc qos qli : Nat → Nat} {ro ra li : Mem} {r : Int32} {pn' fo' vc' os' : Mem} (hA : ∀ q, s.heap.size ≤ q → A q) : ∀ (n : Nat) (pn fo vc os : Mem) (x2 : Int32) (H : Heap) (locs : List Loc) (ls : Array Slot), va_P D vwCl (w_PlFi cy qpn qfo qro qra qvc qos qli pn fo ro ra vc os li) H → va_D A (w_PlFi cy qpn qfo qro qra qvc qos qli pn fo ro ra vc os li) → va_S A s.heap H locs → lv_has ls 4 [(0, .ref (qpn 0)), (1, .ref (qfo 0)), (2, .int x2)] → Pl_planOn_b17 ro ra n pn fo vc os x2 = some (r, pn', fo', vc', os') → W p l e (rmD 5) s m args below meth c H locs 0 0 (qRI D below args s A (w_PlFi cy qpn qfo qro qra qvc qos qli pn' fo' ro ra vc' os' li) r) (F0 m 17 ls []) := by
  intro n
  induction n with
  | zero =>
    intro pn fo vc os x2 H locs ls hP hD hS hl hp
    cases hp
  | succ n ih =>
    intro pn fo vc os x2 H locs ls hP hD hS hl hp
    exact Pl_planOn_b17B_w C0 hK hA  (fun pn fo vc os x2 H locs ls hP hD hS hl hp => ih pn fo vc os x2 H locs ls hP hD hS hl hp) hP hD hS hl hp
set_option maxHeartbeats 4000000 in
set_option maxRecDepth 100000 in
theorem c_X6_planOn (l : Launch) (D : va_G) (cy : Nat → ClassId) (qpn qfo qro qra qvc qos qli : Nat → Nat) (pn fo ro ra vc os li : Mem) (r : Int32) (pn' fo' vc' os' : Mem) (hp : Pl_planOn pn fo ro ra vc os = some (r, pn', fo', vc', os')) : RI l yX6_planOn cX6_planOn 4 (some .int) 5 D cy [.ref (qpn 0), .ref (qfo 0)] (w_PlFi cy qpn qfo qro qra qvc qos qli pn fo ro ra vc os li) (w_PlFi cy qpn qfo qro qra qvc qos qli pn' fo' ro ra vc' os' li) r := by
  refine RI_of RX6 rfl (by decide) (Nat.le_of_ble_eq_true rfl) ?_
  intro p e s m below meth c A C0 hK hP hD hS hA ls hl
  obtain ⟨hx, hb, hr, hml, hown, hts, hk⟩ := id C0
  unfold Pl_planOn at hp
  have hl : lv_has ls 4 [(0, .ref (qpn 0)), (1, .ref (qfo 0))] := hl
  refine lv_aload_n hx hb dX6_planOn_0 rfl (lv_at hl 0 rfl) ?_
  refine lv_dup hx hb dX6_planOn_1 rfl ?_
  refine gf_X6_18 hx hb hts hown hK hP 0 rfl rfl dX6_planOn_2 ?_
  refine lv_iconst (v := 1) hx hb dX6_planOn_5 (by decide) ?_
  refine lv_iadd hx hb dX6_planOn_6 ?_
  obtain ⟨pn_1, epn_1⟩ : ∃ y : Mem, y = upm pn 3 0 ((pn 3 0) + 1) := ⟨_, rfl⟩
  have hp := stk_e hp epn_1
  refine pf_X6_18 hx hb hts hown hK hP hD hS (wn := (w_PlFi cy qpn qfo qro qra qvc qos qli pn_1 fo ro ra vc os li)) 0 rfl (Nat.le_of_ble_eq_true rfl) (by subst epn_1; rfl) dX6_planOn_7 (fun H locs hP hD hS => ?_)
  refine lv_aload_n hx hb dX6_planOn_10 rfl (lv_at hl 0 rfl) ?_
  refine lv_iconst (v := 0) hx hb dX6_planOn_11 (by decide) ?_
  obtain ⟨pn_2, epn_2⟩ : ∃ y : Mem, y = upm pn_1 1 0 0 := ⟨_, rfl⟩
  have hp := stk_e hp epn_2
  refine pf_X6_27 hx hb hts hown hK hP hD hS (wn := (w_PlFi cy qpn qfo qro qra qvc qos qli pn_2 fo ro ra vc os li)) 0 rfl (Nat.le_of_ble_eq_true rfl) (by subst epn_2; rfl) dX6_planOn_12 (fun H locs hP hD hS => ?_)
  refine lv_iconst (v := 0) hx hb dX6_planOn_15 (by decide) ?_
  refine lv_istore_n (lv' := [(2, .int 0), (0, .ref (qpn 0)), (1, .ref (qfo 0))]) hx hb dX6_planOn_16 rfl hl (by decide) rfl (fun ls hl => ?_)
  exact Pl_planOn_b17_w C0 hK hA  fl pn_2 fo vc os 0 _ _ _ hP hD hS (lv_sub hl [1, 2, 0] rfl) hp
end SG12plan
