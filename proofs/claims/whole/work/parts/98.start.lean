/-! the law: its start -/
theorem ms_1_17 : Cond.classLink RL 7 RX11 ∈ tb := tb_in (in_1 (List.mem_of_getElem? (i := 17) rfl)) rfl
theorem ms_5_139 : Cond.classLink RL 10 RX12 ∈ tb := tb_in (in_5 (List.mem_of_getElem? (i := 139) rfl)) rfl
theorem ms_1_18 : Cond.instantiable RX11 11 ∈ tb := tb_in (in_1 (List.mem_of_getElem? (i := 18) rfl)) rfl
theorem ms_1_1 : Cond.initialized RX11 ∈ tb := tb_in (in_1 (List.mem_of_getElem? (i := 1) rfl)) rfl
theorem ms_1_21 : Cond.code yX11_init cX11_init 1 none ∈ tb := tb_in (in_1 (List.mem_of_getElem? (i := 21) rfl)) rfl
theorem ms_1_20 : Cond.instanceMethod yX11_init ∈ tb := tb_in (in_1 (List.mem_of_getElem? (i := 20) rfl)) rfl
theorem ms_1_19 : Cond.methodLink RL 9 yX11_init ∈ tb := tb_in (in_1 (List.mem_of_getElem? (i := 19) rfl)) rfl
theorem ms_5_140 : Cond.instantiable RX12 22 ∈ tb := tb_in (in_5 (List.mem_of_getElem? (i := 140) rfl)) rfl
theorem ms_1_13 : Cond.initialized RX12 ∈ tb := tb_in (in_1 (List.mem_of_getElem? (i := 13) rfl)) rfl
theorem ms_5_143 : Cond.code yX12_init cX12_init 2 none ∈ tb := tb_in (in_5 (List.mem_of_getElem? (i := 143) rfl)) rfl
theorem ms_5_142 : Cond.instanceMethod yX12_init ∈ tb := tb_in (in_5 (List.mem_of_getElem? (i := 142) rfl)) rfl
theorem ms_5_141 : Cond.methodLink RL 12 yX12_init ∈ tb := tb_in (in_5 (List.mem_of_getElem? (i := 141) rfl)) rfl
theorem mo0 {i : Nat} (h : ¬ (160 ≤ i ∧ i < 172)) : moI 12 0 i = 0 := if_neg (fun z => h ⟨z.2.1, by omega⟩)
theorem RF_new : RF 0 0 (foI 20) zeM (raI 12) zeM zeM zeM (moI 12 0) := by
  have g0 : ∀ i, gone 0 (moI 12 0) i = false := fun i => decide_eq_false (fun q => absurd q.1 (by omega))
  have zo : ∀ i, i < 8 → moI 12 0 (180 + 5 * i) = 0 := fun i hi => mo0 (by omega)
  have zv : ∀ m, m < 1200 → moI 12 0 (252 + m) = 0 := fun m hm => mo0 (by omega)
  have mm0 : ∀ i, i < 8 → made (moI 12 0) i = false := fun i hi => decide_eq_false (fun q => by rw [zo i hi] at q; exact absurd q (by decide))
  have f0 : ∀ k j, k ≠ 5 → foI 20 k j = 0 := fun k j h => if_neg (fun z => h z.1)
  have f5 : ∀ j, j < 20 → foI 20 5 j = -1 := fun j h => if_pos ⟨rfl, h⟩
  have r12 : ∀ h, h < 12 → moI 12 0 (160 + h) = nI 12 := fun h hh => if_pos ⟨rfl, by omega, by omega⟩
  refine ⟨⟨by omega, rfl, by rw [mo0 (by omega)]; rfl, by rw [f0 9 0 (by omega), mo0 (by omega)], fun f hf => by omega, fun f hf => by omega, fun f _ h2 => ⟨f5 f h2, f0 6 f (by omega), f0 7 f (by omega)⟩⟩, fun h hh => ?_, ⟨by rw [f0 10 0 (by omega), mo0 (by omega)], by rw [f0 8 0 (by omega), msk_0 (fun i _ => g0 i)]; rfl⟩, ⟨by omega, rfl, fun _ => 0, fun _ => 0, fun i hi => by omega, fun i j _ hj => by omega, fun m hm hz => absurd (zv m hm) hz⟩, ⟨by rw [msk_0 mm0]; rfl, fun i hi hz => ?_⟩, ⟨by rw [mo0 (by omega)]; rfl, fun L i h1 h2 h3 => ?_⟩, ⟨⟨0, by omega, by rw [mo0 (by omega)]; rfl⟩, Or.inl (mo0 (by omega))⟩, fun f hf => by omega, fun f hf => by omega, fun f hf => by omega, fun f g hf => by omega, ⟨fun m hm => ⟨0, by omega, zv m hm⟩, fun f hf => by omega⟩, fun h hh => ⟨12, by omega, r12 h hh⟩, fun i hi => Or.inl (zo i hi), ⟨0, by omega, by rw [mo0 (by omega)]; rfl, fun i hi => by omega⟩⟩
  · rw [r12 h hh]
    show (if h < 12 then (12 : Int32) else 0) = nI 12
    rw [if_pos hh]
    rfl
  · rw [zo i hi] at hz; exact absurd hz (by decide)
  · rw [mo0 (by omega)] at h1
    have := (nI_eq (a := 0) (by omega) (by omega)).mp h1
    omega
theorem LI_new {mk : Nat → Nat → Mem} : LI 0 0 0 mk zeM zeM zeM (foI 20) zeM (raI 12) zeM zeM zeM (moI 12) := by
  have f0 : ∀ k, k ≠ 0 → moI 12 k 0 = 0 := fun k h => if_neg (fun z => h z.1)
  exact ⟨⟨0, 0, RF_new⟩, ⟨0, by omega, rfl, by rw [f0 3 (by omega)]; rfl, fun j hj => by omega⟩, ⟨0, by omega, rfl, fun k _ => ⟨0, by omega, rfl⟩⟩, rfl, by rw [f0 21 (by omega)]; rfl, by omega, by omega, fun j hj => by omega⟩
theorem arr_k {args : Array Value} {s : State} {ty : FieldType} (h : (Cond.arrayClass ty).before args s = true) : ∃ cA, ArrOfT s cA ty ∧ s.vm.findClass ("[" ++ ty.toString) = some cA := by
  obtain ⟨cA, kA, comp, h1, h2, h3⟩ := Cond.arrayClass_spec h
  exact ⟨cA, fun n z => ⟨fun k h => (by cases h), kA, h2, comp, h3⟩, h1⟩
theorem kN_new {args : Array Value} {s : State} (hts9 : ∀ w ∈ lw_tbl, w.before args s = true) : ∃ D cy, kN D cy s ∧ NC s := by
  have hts : ∀ w ∈ tb, w.before args s = true := fun w hw => hts9 w (tb_tbl hw)
  obtain ⟨c0, i0, h0⟩ := u_known hts inX0 (hts9 _ (in_1 (List.mem_of_getElem? (i := 26) rfl)))
  obtain ⟨c1, i1, h1⟩ := u_known hts inX1 (hts9 _ (in_1 (List.mem_of_getElem? (i := 58) rfl)))
  obtain ⟨c2, i2, h2⟩ := u_known hts inX2 (hts9 _ (in_1 (List.mem_of_getElem? (i := 159) rfl)))
  obtain ⟨c3, i3, h3⟩ := u_known hts inX3 (hts9 _ (in_1 (List.mem_of_getElem? (i := 225) rfl)))
  obtain ⟨c4, i4, h4⟩ := u_known hts inX4 (hts9 _ (in_1 (List.mem_of_getElem? (i := 195) rfl)))
  obtain ⟨c5, i5, h5⟩ := u_known hts inX5 (hts9 _ (in_1 (List.mem_of_getElem? (i := 125) rfl)))
  obtain ⟨c6, i6, h6⟩ := u_known hts inX6 (hts9 _ (in_1 (List.mem_of_getElem? (i := 106) rfl)))
  obtain ⟨c7, i7, h7⟩ := u_known hts inX7 (hts9 _ (in_1 (List.mem_of_getElem? (i := 167) rfl)))
  obtain ⟨c8, i8, h8⟩ := u_known hts inX8 (hts9 _ (in_1 (List.mem_of_getElem? (i := 42) rfl)))
  obtain ⟨c9, i9, h9⟩ := u_known hts inX9 (hts9 _ (in_1 (List.mem_of_getElem? (i := 69) rfl)))
  obtain ⟨c10, i10, h10⟩ := u_known hts inX10 (hts9 _ (in_1 (List.mem_of_getElem? (i := 177) rfl)))
  obtain ⟨c11, i11, h11⟩ := u_known hts inX11 (hts9 _ (in_1 (List.mem_of_getElem? (i := 18) rfl)))
  obtain ⟨c12, i12, h12⟩ := u_known hts inX12 (hts9 _ (in_5 (List.mem_of_getElem? (i := 140) rfl)))
  obtain ⟨y0, b0, d0⟩ := arr_k (ty := .int) (hts9 _ (in_1 (List.mem_of_getElem? (i := 104) rfl)))
  obtain ⟨y1, b1, d1⟩ := arr_k (ty := .byte) (hts9 _ (in_1 (List.mem_of_getElem? (i := 40) rfl)))
  obtain ⟨y2, b2, d2⟩ := arr_k (ty := .boolean) (hts9 _ (in_5 (List.mem_of_getElem? (i := 212) rfl)))
  refine ⟨(fun z => match z with | 0 => c0 | 1 => c1 | 2 => c2 | 3 => c3 | 4 => c4 | 5 => c5 | 6 => c6 | 7 => c7 | 8 => c8 | 9 => c9 | 10 => c10 | 11 => c11 | _ => c12, fun z => match z with | 0 => i0 | 1 => i1 | 2 => i2 | 3 => i3 | 4 => i4 | 5 => i5 | 6 => i6 | 7 => i7 | 8 => i8 | 9 => i9 | 10 => i10 | 11 => i11 | _ => i12), fun z => match z with | 0 => y0 | 1 => y1 | _ => y2, ⟨⟨fun c q hq => ?_, fun j q hq => ?_⟩, ?_⟩, ?_⟩
  · have hc : c < 13 := (List.getElem?_eq_some_iff.mp hq).1
    rcases (show c = 0 ∨ c = 1 ∨ c = 2 ∨ c = 3 ∨ c = 4 ∨ c = 5 ∨ c = 6 ∨ c = 7 ∨ c = 8 ∨ c = 9 ∨ c = 10 ∨ c = 11 ∨ c = 12 by omega) with rfl | rfl | rfl | rfl | rfl | rfl | rfl | rfl | rfl | rfl | rfl | rfl | rfl
    · cases hq; exact h0
    · cases hq; exact h1
    · cases hq; exact h2
    · cases hq; exact h3
    · cases hq; exact h4
    · cases hq; exact h5
    · cases hq; exact h6
    · cases hq; exact h7
    · cases hq; exact h8
    · cases hq; exact h9
    · cases hq; exact h10
    · cases hq; exact h11
    · cases hq; exact h12
  · have hc : j < 3 := (List.getElem?_eq_some_iff.mp hq).1
    rcases (show j = 0 ∨ j = 1 ∨ j = 2 by omega) with rfl | rfl | rfl
    · cases hq; exact ⟨b0, d0⟩
    · cases hq; exact ⟨b1, d1⟩
    · cases hq; exact ⟨b2, d2⟩
  · exact ⟨va_Nw.of rfl (hts9 _ (in_3 (List.mem_of_getElem? (i := 4) rfl))), va_Nw.of rfl (hts9 _ (in_3 (List.mem_of_getElem? (i := 125) rfl)))⟩
  · exact ⟨va_Nw.of rfl (hts9 _ (in_1 (List.mem_of_getElem? (i := 27) rfl))), va_Nw.of rfl (hts9 _ (in_1 (List.mem_of_getElem? (i := 43) rfl))), va_Nw.of rfl (hts9 _ (in_1 (List.mem_of_getElem? (i := 59) rfl))), va_Nw.of rfl (hts9 _ (in_1 (List.mem_of_getElem? (i := 70) rfl))), va_Nw.of rfl (hts9 _ (in_1 (List.mem_of_getElem? (i := 107) rfl))), va_Nw.of rfl (hts9 _ (in_1 (List.mem_of_getElem? (i := 126) rfl))), va_Nw.of rfl (hts9 _ (in_1 (List.mem_of_getElem? (i := 165) rfl))), va_Nw.of rfl (hts9 _ (in_1 (List.mem_of_getElem? (i := 178) rfl))), va_Nw.of rfl (hts9 _ (in_1 (List.mem_of_getElem? (i := 196) rfl))), va_Nw.of rfl (hts9 _ (in_1 (List.mem_of_getElem? (i := 226) rfl))), va_AO.of (hts9 _ (in_2 (List.mem_of_getElem? (i := 62) rfl)))⟩
set_option maxRecDepth 100000 in
theorem whole_start {p : Program} {e : Env} {s : State} {m : MethodId} {below : List Frame} {meth : Method} {c : Code} (l : Launch) (hflags : l.flags = flags0) {b L : Nat} {xs : Nat → Int32} (hL : L ≤ 3072) (C0 : lw_At p s m meth c b L xs) : W p l e room_1 s m #[Value.ref b] below meth c s.heap [] 0 0 (lw_Z below #[Value.ref b] s) (entryFrame m ([Value.ref b] : List Value).toArray 4) := by
  obtain ⟨hx, hb, hr, hml, hown, hts9, hX, hbl, hlocks, -⟩ := C0
  have hts : ∀ w ∈ tb, w.before #[Value.ref b] s = true := fun w hw => hts9 w (tb_tbl hw)
  have hown : s.vm.findClass RL = some m.cls := hown
  have hb : c.code = cL_law := hb
  obtain ⟨D, cy, hK, hN⟩ := kN_new hts9
  have hA : ∀ q, s.heap.size ≤ q → AA s q := fun _ h => h
  have hS : va_S (AA s) s.heap s.heap [] := va_S.rf
  have hP : va_P D vwCl [] s.heap := fun k q h => by simp at h
  have hD : va_D (AA s) [] := ⟨fun i j p q h => by simp at h, fun k q h => by simp at h⟩
  rw [lg_entry_eq]
  have hl := lv_entry [.ref b] (n := 4) (Nat.le_of_ble_eq_true rfl)
  generalize (lg_sl ([.ref b]) ++ List.replicate (4 - (lg_sl ([.ref b])).length) Slot.unset).toArray = ls at hl ⊢
  have hl : lv_has ls 4 [(0, .ref b)] := hl
  refine va_new (C := RX11) (T := TX11) (N := 11) (ci := 11) (fs := fs11) hx hb hts inX11 tyX11 tyX11_ok hown (hts _ ms_1_17) (hts _ ms_1_18) (hts _ ms_1_1) hK.1 hP hD hS hA rfl (fun j hj => by rcases (show j = 0 ∨ j = 1 ∨ j = 2 ∨ j = 3 ∨ j = 4 ∨ j = 5 ∨ j = 6 ∨ j = 7 ∨ j = 8 ∨ j = 9 ∨ j = 10 by omega) with rfl | rfl | rfl | rfl | rfl | rfl | rfl | rfl | rfl | rfl | rfl <;> rfl) (Nat.le_of_ble_eq_true rfl) (Nat.le_of_ble_eq_true rfl) dL_0 (fun q H2 hP2 hD2 hS2 => ?_)
  refine lv_dup hx hb dL_3 rfl ?_
  have hPc : va_P D vwCl [(q, .inr (11, fs11))] H2 := hP2
  have hDc : va_D (fun _ => True) [(q, (.inr (11, fs11) : va_E))] := (show va_D (AA s) [(q, (.inr (11, fs11) : va_E))] from hD2).weaken (fun _ _ _ _ => trivial)
  have hFr : ∀ x, va_A [(q, (.inr (11, fs11) : va_E))] H2.size x → AA s x := fun x h => by
    rcases A_in h with ⟨e2, h⟩ | h
    · exact (D_nd.mp (show va_D (AA s) [(q, (.inr (11, fs11) : va_E))] from hD2)).2 _ h
    · exact Nat.le_trans hS2.1 h
  refine va_callv (va_runI (As := []) (rest := [.ref q]) ⟨hx, hb, hml, hown, hts⟩ (n_X11 l D cy q H2.size) ⟨callB_of 0 hts (wl_good ms_1_21) rfl rfl rfl (hts _ ms_1_1) (hts _ ms_1_19) (by decide +kernel) ⟨Nat.le_of_ble_eq_true rfl, Nat.le_of_ble_eq_true rfl⟩, rfl, hts _ ms_1_20⟩ ⟨rnP_blind, fun U hU hW => ⟨rfl, by rw [hU], hK.warm hW, hN.warm hW, by rw [hU]; exact hPc, hDc⟩⟩ rfl rfl hl.1 rfl (lv_room (rest := [.ref q, .ref q]) (Nat.le_of_ble_eq_true rfl)) dL_4 ⟨Nat.le_of_ble_eq_true rfl, Nat.le_of_ble_eq_true rfl⟩) hS2 (fun x _ h => hFr x h) hFr (fun uc t H3 locs3 ht hvm hp hB hz hk hS3 => ?_)
  obtain ⟨u, ck⟩ := uc
  obtain ⟨hP3, hD3, hKq⟩ := hB
  have hp : u 0 = q := hp
  rw [ht] at hP3
  have hQ : kQ D cy ck s := va_K.moved hvm.symm hKq
  obtain ⟨hP4, hD4⟩ := nw_join (ws := []) hP2 hD2 hFr hk hP3 hD3
  have hP4 : va_P D vwCl (w_S0 cy u ck) H3 := hP4
  have hD4 : va_D (AA s) (w_S0 cy u ck) := hD4
  subst hp
  refine lv_astore_n (x := u 0) (lv' := [(1, .ref (u 0)), (0, .ref b)]) hx hb dL_7 rfl hl (by decide) rfl (fun ls hl => ?_)
  refine k_new (C := RX12) (T := TX12) (N := 22) (ci := 12) (fs0 := [.null, .null, .null, .int 0, .int 0, .int 0, .int 0, .int 0, .null, .int 0, .int 0, .int 0, .int 0, .null, .null, .null, .null, .null, .null, .null, .int 0, .int 0]) (rest := []) ⟨hx, hb, hml, hown, hts⟩ inX12 tyX12 tyX12_ok hx hb hts hown (hts _ ms_5_139) (hts _ ms_5_140) (hts _ ms_1_13) hK hN hP4 hD4 hS3 hA rfl (fun j hj => by rcases (show j = 0 ∨ j = 1 ∨ j = 2 ∨ j = 3 ∨ j = 4 ∨ j = 5 ∨ j = 6 ∨ j = 7 ∨ j = 8 ∨ j = 9 ∨ j = 10 ∨ j = 11 ∨ j = 12 ∨ j = 13 ∨ j = 14 ∨ j = 15 ∨ j = 16 ∨ j = 17 ∨ j = 18 ∨ j = 19 ∨ j = 20 ∨ j = 21 by omega) with rfl | rfl | rfl | rfl | rfl | rfl | rfl | rfl | rfl | rfl | rfl | rfl | rfl | rfl | rfl | rfl | rfl | rfl | rfl | rfl | rfl | rfl <;> rfl) (n_X12 l D cy) ⟨callB_of 0 hts (wl_good ms_5_143) rfl rfl rfl (hts _ ms_1_13) (hts _ ms_5_141) (by decide +kernel) ⟨Nat.le_of_ble_eq_true rfl, Nat.le_of_ble_eq_true rfl⟩, rfl, hts _ ms_5_142⟩ hl.1 (Nat.le_of_ble_eq_true rfl) (Nat.le_of_ble_eq_true rfl) (Nat.le_of_ble_eq_true rfl) dL_8 dL_11 dL_12 (fun qm H locs hP hD hS => ?_)
  refine lv_astore_n (x := qm 0) (lv' := [(2, .ref (qm 0)), (1, .ref (u 0)), (0, .ref b)]) hx hb dL_15 rfl hl (by decide) rfl (fun ls hl => ?_)
  refine lv_iconst (v := 0) hx hb dL_16 (by decide) ?_
  refine lv_istore_n (lv' := [(3, .int 0), (2, .ref (qm 0)), (1, .ref (u 0)), (0, .ref b)]) hx hb dL_17 rfl hl (by decide) rfl (fun ls hl => ?_)
  have ew : LW cy u ck (fun _ _ => 0) (fun _ _ => zeM) 0 qm zeM zeM zeM zeM zeM zeM zeM zeM (foI 20) zeM (raI 12) zeM zeM zeM (foI 20) zeM (raI 12) zeM zeM zeM (moI 12) = w_S0 cy u ck ++ w_Mo cy qm (moI 12) := by
    have e1 : fK (fun _ _ => 0) 0 = fun _ => none := funext (fun j => if_neg (by omega))
    unfold LW KW wK
    rw [e1]
    rfl
  have hP : va_P D vwCl (LW cy u ck (fun _ _ => 0) (fun _ _ => zeM) 0 qm zeM zeM zeM zeM zeM zeM zeM zeM (foI 20) zeM (raI 12) zeM zeM zeM (foI 20) zeM (raI 12) zeM zeM zeM (moI 12)) H := by rw [ew]; exact hP
  have hD : va_D (AA s) (LW cy u ck (fun _ _ => 0) (fun _ _ => zeM) 0 qm zeM zeM zeM zeM zeM zeM zeM zeM (foI 20) zeM (raI 12) zeM zeM zeM (foI 20) zeM (raI 12) zeM zeM zeM (moI 12)) := by rw [ew]; exact hD
  exact law_loop (ck := ck) (D := D) (cy := cy) (u := u) (qm := qm) ⟨hx, hb, hml, hown, hts, hX, hbl, hK, hN, hQ⟩ hr hlocks hL 513 0 H locs _ _ ls 0 0 (fun _ _ => 0) (fun _ _ => zeM) zeM zeM zeM zeM zeM zeM zeM zeM (foI 20) zeM (raI 12) zeM zeM zeM (foI 20) zeM (raI 12) zeM zeM zeM (moI 12) (by omega) (Nat.le_of_ble_eq_true rfl) (Nat.le_of_ble_eq_true rfl) hl LI_new hP hD hS
