/-! constructors -/
theorem mi_1_23 : Cond.instanceMethod objectInit ∈ tb := tb_in (in_1 (List.mem_of_getElem? (i := 23) rfl)) rfl
theorem mi_1_24 : Cond.code objectInit ⟨#[0xb1]⟩ 1 none ∈ tb := tb_in (in_1 (List.mem_of_getElem? (i := 24) rfl)) rfl
theorem mi_1_104 : Cond.arrayClass .int ∈ tb := tb_in (in_1 (List.mem_of_getElem? (i := 104) rfl)) rfl
theorem mi_1_40 : Cond.arrayClass .byte ∈ tb := tb_in (in_1 (List.mem_of_getElem? (i := 40) rfl)) rfl
theorem mi_5_212 : Cond.arrayClass .boolean ∈ tb := tb_in (in_5 (List.mem_of_getElem? (i := 212) rfl)) rfl
def raZ : Mem := fun _ j => if j < 12 then 12 else 0
def foZ : Mem := fun k j => if k = 5 ∧ j < 20 then -1 else 0
def moZ : Mem := fun k j => if k = 0 ∧ 160 ≤ j ∧ j < 172 then 12 else 0
def zeM : Mem := fun _ _ => 0
theorem k_new {p : Program} {l : Launch} {e : Env} {R : Room} {s : State} {m : MethodId} {args : Array Value} {below : List Frame} {meth : Method} {c : Code} {H : Heap} {locs : List Loc} {cells slots : Nat} {Q : State → Prop} {cc : ByteArray} {pc : Nat} {ls : Array Slot} {rest : List Value} {D : va_G} {A : Nat → Prop} {cy : Nat → ClassId} {ws : va_W} {own C : String} {T : u_T} {N ci idx iidx nL : Nat} {y : MethodName} {b : ByteArray} {n d mc ms : Nat} {wf : (Nat → Nat) → va_W} {fs0 : List Value} (S : CallFix p m c cc nL s args tb own) (hin : ∀ w ∈ u_ws C T N, w ∈ tb) (tyC : Nat → FieldType) (hty : ∀ k, k < N → parseFieldDescriptor (T k).2.2.1 = some (tyC k)) (hx : p.tables.exec = Jvm.exec) (hb : c.code = cc) (hts : ∀ w ∈ tb, w.before args s = true) (hown : s.vm.findClass own = some m.cls) (hcl : (Cond.classLink own idx C).before args s = true) (hinst : (Cond.instantiable C N).before args s = true) (hini : (Cond.initialized C).before args s = true) (hK : kN D cy s) (hN : NC s) (hP : va_P D vwCl ws H) (hD : va_D A ws) (hS : va_S A s.heap H locs) (hA : ∀ q, s.heap.size ≤ q → A q) (hc : vwCl[ci]? = some (C, T, N)) (hfs : ∀ j, j < N → defaultValue (tyC j) = vp_V fs0 j) (hM : RN l y b n d mc ms D cy ci fs0 wf) (cw : CallB R s args own iidx y b n none (wl y b n none) (rmN d mc ms) mc ms 0 ∧ y.name = "<init>" ∧ (Cond.instanceMethod y).before args s = true) (hls : ls.size = nL) (hrm : (rest.map fun v => v.category).sum ≤ 7) (hcells : cells + 1 + mc ≤ R.cells) (hslots : slots + N + ms ≤ R.slots) (hd1 : decode cc pc = .ok (.new idx, 3)) (hd2 : decode cc (pc + 3) = .ok (.dup, 1)) (hd3 : decode cc (pc + 4) = .ok (.invokespecial iidx, 3))
    (kk : ∀ (u : Nat → Nat) (H1 : Heap) (locs1 : List Loc), va_P D vwCl (ws ++ wf u) H1 → va_D A (ws ++ wf u) → va_S A s.heap H1 locs1 → W p l e R s m args below meth c H1 locs1 (cells + 1 + mc) (slots + N + ms) Q (F0 m (pc + 7) ls (.ref (u 0) :: rest))) : W p l e R s m args below meth c H locs cells slots Q (F0 m pc ls rest) := by
  refine va_new (C := C) (T := T) (N := N) (ci := ci) (fs := fs0) hx hb hts hin tyC hty hown hcl hinst hini hK.1 hP hD hS hA hc hfs (by omega) (by omega) hd1 (fun q H2 hP2 hD2 hS2 => ?_)
  refine lv_dup hx hb hd2 rfl ?_
  have hq : (ws ++ [(q, (.inr (ci, fs0) : va_E))])[ws.length]? = some (q, .inr (ci, fs0)) := by simp
  have hPc : va_P D vwCl [(q, .inr (ci, fs0))] H2 := fun k z h => by
    have hz : k < 1 := (List.getElem?_eq_some_iff.mp h).1
    rw [show k = 0 by omega] at h
    cases h
    exact hP2 ws.length _ hq
  have hDc : va_D (fun _ => True) [(q, (.inr (ci, fs0) : va_E))] := ⟨fun i j p' q' h1 h2 _ => by
    have z1 : i < 1 := (List.getElem?_eq_some_iff.mp h1).1
    have z2 : j < 1 := (List.getElem?_eq_some_iff.mp h2).1
    omega, fun _ _ _ => trivial⟩
  have hFr : ∀ x, va_A [(q, (.inr (ci, fs0) : va_E))] H2.size x → A x := fun x h => by
    rcases h with ⟨k, e2, h⟩ | h
    · have hz : k < 1 := (List.getElem?_eq_some_iff.mp h).1
      rw [show k = 0 by omega] at h
      have h1 : (q, (.inr (ci, fs0) : va_E)) = (x, e2) := Option.some.inj h
      have h2 : q = x := congrArg Prod.fst h1
      rw [← h2]
      exact hD2.2 ws.length _ hq
    · exact hA x (Nat.le_trans hS2.1 h)
  refine va_callv (va_runI (As := []) (rest := .ref q :: rest) S (hM q H2.size) cw ⟨rnP_blind, fun U hU hW => ⟨rfl, by rw [hU], hK.warm hW, hN.warm hW, by rw [hU]; exact hPc, hDc⟩⟩ rfl rfl hls rfl (lv_room (rest := .ref q :: .ref q :: rest) (by show 1 + (rest.map fun v => v.category).sum ≤ 8; omega)) hd3 ⟨hcells, hslots⟩) hS2 (fun x _ h => hFr x h) hFr (fun u t H3 locs3 ht hvm hp hB hz hk hS3 => ?_)
  obtain ⟨hP3, hD3⟩ := hB
  rw [ht] at hP3
  obtain ⟨h1, h2⟩ := nw_join hP2 hD2 hFr hk hP3 hD3
  have hk2 := kk u H3 locs3 h1 h2 hS3
  rw [show u 0 = q from hp] at hk2
  exact hk2
theorem k_newN {p : Program} {l : Launch} {e : Env} {R : Room} {s : State} {m : MethodId} {args : Array Value} {below : List Frame} {meth : Method} {c : Code} {H : Heap} {locs : List Loc} {cells slots : Nat} {Q : State → Prop} {cc : ByteArray} {pc : Nat} {ls : Array Slot} {rest : List Value} {D : va_G} {A : Nat → Prop} {cy : Nat → ClassId} {ws : va_W} {own C host : String} {T : u_T} {N ci idx iidx nL : Nat} {y : MethodName} {b : ByteArray} {n d mc ms : Nat} {wf : (Nat → Nat) → va_W} {fs0 : List Value} (S : CallFix p m c cc nL s args tb own) (hin : ∀ w ∈ u_ws C T N, w ∈ tb) (tyC : Nat → FieldType) (hty : ∀ k, k < N → parseFieldDescriptor (T k).2.2.1 = some (tyC k)) (hx : p.tables.exec = Jvm.exec) (hb : c.code = cc) (hts : ∀ w ∈ tb, w.before args s = true) (hown : s.vm.findClass own = some m.cls) (hcl : (Cond.classLink own idx C).before args s = true) (hinst : (Cond.instantiable C N).before args s = true) (hini : (Cond.initialized C).before args s = true) (hK : kN D cy s) (hN : NC s) (hP : va_P D vwCl ws H) (hD : va_D A ws) (hS : va_S A s.heap H locs) (hA : ∀ q, s.heap.size ≤ q → A q) (hc : vwCl[ci]? = some (C, T, N)) (hfs : ∀ j, j < N → defaultValue (tyC j) = vp_V fs0 j) (hM : RN l y b n d mc ms D cy ci fs0 wf) (cw : va_CN R s args own iidx y host b n none (wl y b n none) (rmN d mc ms) mc ms 0 ∧ y.name = "<init>" ∧ (Cond.instanceMethod y).before args s = true) (hls : ls.size = nL) (hrm : (rest.map fun v => v.category).sum ≤ 7) (hcells : cells + 1 + mc ≤ R.cells) (hslots : slots + N + ms ≤ R.slots) (hd1 : decode cc pc = .ok (.new idx, 3)) (hd2 : decode cc (pc + 3) = .ok (.dup, 1)) (hd3 : decode cc (pc + 4) = .ok (.invokespecial iidx, 3))
    (kk : ∀ (u : Nat → Nat) (H1 : Heap) (locs1 : List Loc), va_P D vwCl (ws ++ wf u) H1 → va_D A (ws ++ wf u) → va_S A s.heap H1 locs1 → W p l e R s m args below meth c H1 locs1 (cells + 1 + mc) (slots + N + ms) Q (F0 m (pc + 7) ls (.ref (u 0) :: rest))) : W p l e R s m args below meth c H locs cells slots Q (F0 m pc ls rest) := by
  refine va_new (C := C) (T := T) (N := N) (ci := ci) (fs := fs0) hx hb hts hin tyC hty hown hcl hinst hini hK.1 hP hD hS hA hc hfs (by omega) (by omega) hd1 (fun q H2 hP2 hD2 hS2 => ?_)
  refine lv_dup hx hb hd2 rfl ?_
  have hq : (ws ++ [(q, (.inr (ci, fs0) : va_E))])[ws.length]? = some (q, .inr (ci, fs0)) := by simp
  have hPc : va_P D vwCl [(q, .inr (ci, fs0))] H2 := fun k z h => by
    have hz : k < 1 := (List.getElem?_eq_some_iff.mp h).1
    rw [show k = 0 by omega] at h
    cases h
    exact hP2 ws.length _ hq
  have hDc : va_D (fun _ => True) [(q, (.inr (ci, fs0) : va_E))] := ⟨fun i j p' q' h1 h2 _ => by
    have z1 : i < 1 := (List.getElem?_eq_some_iff.mp h1).1
    have z2 : j < 1 := (List.getElem?_eq_some_iff.mp h2).1
    omega, fun _ _ _ => trivial⟩
  have hFr : ∀ x, va_A [(q, (.inr (ci, fs0) : va_E))] H2.size x → A x := fun x h => by
    rcases h with ⟨k, e2, h⟩ | h
    · have hz : k < 1 := (List.getElem?_eq_some_iff.mp h).1
      rw [show k = 0 by omega] at h
      have h1 : (q, (.inr (ci, fs0) : va_E)) = (x, e2) := Option.some.inj h
      have h2 : q = x := congrArg Prod.fst h1
      rw [← h2]
      exact hD2.2 ws.length _ hq
    · exact hA x (Nat.le_trans hS2.1 h)
  refine va_callv (va_runIN (As := []) (rest := .ref q :: rest) S (hM q H2.size) cw ⟨rnP_blind, fun U hU hW => ⟨rfl, by rw [hU], hK.warm hW, hN.warm hW, by rw [hU]; exact hPc, hDc⟩⟩ rfl rfl hls rfl (lv_room (rest := .ref q :: .ref q :: rest) (by show 1 + (rest.map fun v => v.category).sum ≤ 8; omega)) hd3 ⟨hcells, hslots⟩) hS2 (fun x _ h => hFr x h) hFr (fun u t H3 locs3 ht hvm hp hB hz hk hS3 => ?_)
  obtain ⟨hP3, hD3⟩ := hB
  rw [ht] at hP3
  obtain ⟨h1, h2⟩ := nw_join hP2 hD2 hFr hk hP3 hD3
  have hk2 := kk u H3 locs3 h1 h2 hS3
  rw [show u 0 = q from hp] at hk2
  exact hk2
theorem mi_1_30 : Cond.methodLink RX0 3 objectInit ∈ tb := tb_in (in_1 (List.mem_of_getElem? (i := 30) rfl)) rfl
theorem mi_1_31 : Cond.fieldLink RX0 11 "StormSlots$Bytes" "bytes" "[B" ∈ tb := tb_in (in_1 (List.mem_of_getElem? (i := 31) rfl)) rfl
set_option maxRecDepth 100000 in
theorem n_X0 (l : Launch) (D : va_G) (cy : Nat → ClassId) : RN l yX0_init cX0_init 1 1 1 320 D cy 0 [.null, .int 0] (fun u => w_By cy u zeM) := by
  refine RN_of RX0 rfl (by decide) rfl (by decide) ?_
  intro p e s m below meth c a A hin C0 hK hN hP hD hS hA ls hl
  obtain ⟨hx, hb, hr, hml, hown, hts, hk⟩ := id C0
  refine lv_aload_n hx hb dX0_init_0 rfl (lv_at hl 0 rfl) ?_
  refine W.objInit hx hb hown (hts _ mi_1_30) (hts _ mi_1_23) (hts _ mi_1_24) rfl (by rw [hml]; exact hl.1) rfl dX0_init_1 (Nat.le_of_ble_eq_true rfl) (Nat.le_of_ble_eq_true rfl) ?_
  refine W.eq (g2 := F0 m 4 ls []) rfl ?_
  refine lv_aload_n hx hb dX0_init_4 rfl (lv_at hl 0 rfl) ?_
  refine lv_sipush (v := 320) hx hb dX0_init_5 (by decide) ?_
  refine r_newB (N' := 320) hx hb (hts _ mi_1_40) hK hP hD hS hA (by decide) (by decide) (by decide) (Nat.le_of_ble_eq_true rfl) (Nat.le_of_ble_eq_true rfl) dX0_init_8 (fun q1 H hP hD hS => ?_)
  have hP : va_P D vwCl [(a, .inr (0, [.null, .int 0])), (q1, .inl (cy 1, 320, .inl (fun _ => 0)))] H := hP
  have hD : va_D A [(a, .inr (0, [.null, .int 0])), (q1, .inl (cy 1, 320, .inl (fun _ => 0)))] := hD
  refine va_putF (ci := 0) (v := .ref q1) (ty := (.array .byte)) (C := RX0) (T := TX0) (N := 2) hx hb hts inX0 tyX0 tyX0_ok nmX0 hown hK.1 hP hD hS 0 rfl rfl 0 (by decide) (hts _ mi_1_31) (fun _ h9 => h9) rfl hin rfl (by decide +kernel) rfl rfl (Nat.le_of_ble_eq_true rfl) dX0_init_10 (fun H locs hP hD hS => ?_)
  have hP : va_P D vwCl [(a, .inr (0, [.ref q1, .int 0])), (q1, .inl (cy 1, 320, .inl (fun _ => 0)))] H := hP
  have hD : va_D A [(a, .inr (0, [.ref q1, .int 0])), (q1, .inl (cy 1, 320, .inl (fun _ => 0)))] := hD
  exact e_RN (fun z => match z with | 0 => a | 1 => q1 | _ => 0) hx hb hr hk rfl (hP.sub [0, 1] rfl) (hD.sub [0, 1] (by decide) rfl) hS ⟨Nat.le_of_ble_eq_true rfl, Nat.le_of_ble_eq_true rfl⟩ dX0_init_13
theorem mi_1_62 : Cond.methodLink RX1 1 objectInit ∈ tb := tb_in (in_1 (List.mem_of_getElem? (i := 62) rfl)) rfl
set_option maxRecDepth 100000 in
theorem n_X1 (l : Launch) (D : va_G) (cy : Nat → ClassId) : RN l yX1_init cX1_init 1 1 0 0 D cy 1 [.int 0] (fun u => w_Di cy u zeM) := by
  refine RN_of RX1 rfl (by decide) rfl (by decide) ?_
  intro p e s m below meth c a A hin C0 hK hN hP hD hS hA ls hl
  obtain ⟨hx, hb, hr, hml, hown, hts, hk⟩ := id C0
  refine lv_aload_n hx hb dX1_init_0 rfl (lv_at hl 0 rfl) ?_
  refine W.objInit hx hb hown (hts _ mi_1_62) (hts _ mi_1_23) (hts _ mi_1_24) rfl (by rw [hml]; exact hl.1) rfl dX1_init_1 (Nat.le_of_ble_eq_true rfl) (Nat.le_of_ble_eq_true rfl) ?_
  refine W.eq (g2 := F0 m 4 ls []) rfl ?_
  exact e_RN (fun z => match z with | 0 => a | _ => 0) hx hb hr hk rfl (hP.sub [0] rfl) (hD.sub [0] (by decide) rfl) hS ⟨Nat.le_of_ble_eq_true rfl, Nat.le_of_ble_eq_true rfl⟩ dX1_init_4
theorem mi_1_229 : Cond.methodLink RX3 3 objectInit ∈ tb := tb_in (in_1 (List.mem_of_getElem? (i := 229) rfl)) rfl
theorem mi_1_230 : Cond.fieldLink RX3 11 "StormSlots$Links" "from" "[I" ∈ tb := tb_in (in_1 (List.mem_of_getElem? (i := 230) rfl)) rfl
theorem mi_1_233 : Cond.fieldLink RX3 15 "StormSlots$Links" "onto" "[I" ∈ tb := tb_in (in_1 (List.mem_of_getElem? (i := 233) rfl)) rfl
theorem mi_1_236 : Cond.fieldLink RX3 18 "StormSlots$Links" "gap" "[I" ∈ tb := tb_in (in_1 (List.mem_of_getElem? (i := 236) rfl)) rfl
set_option maxRecDepth 100000 in
theorem n_X3 (l : Launch) (D : va_G) (cy : Nat → ClassId) : RN l yX3_init cX3_init 1 1 3 36 D cy 3 [.null, .null, .null, .int 0] (fun u => w_Li cy u zeM) := by
  refine RN_of RX3 rfl (by decide) rfl (by decide) ?_
  intro p e s m below meth c a A hin C0 hK hN hP hD hS hA ls hl
  obtain ⟨hx, hb, hr, hml, hown, hts, hk⟩ := id C0
  refine lv_aload_n hx hb dX3_init_0 rfl (lv_at hl 0 rfl) ?_
  refine W.objInit hx hb hown (hts _ mi_1_229) (hts _ mi_1_23) (hts _ mi_1_24) rfl (by rw [hml]; exact hl.1) rfl dX3_init_1 (Nat.le_of_ble_eq_true rfl) (Nat.le_of_ble_eq_true rfl) ?_
  refine W.eq (g2 := F0 m 4 ls []) rfl ?_
  refine lv_aload_n hx hb dX3_init_4 rfl (lv_at hl 0 rfl) ?_
  refine lv_bipush (v := 12) hx hb dX3_init_5 (by decide) ?_
  refine r_newI (N' := 12) hx hb (hts _ mi_1_104) hK hP hD hS hA (by decide) (by decide) (by decide) (Nat.le_of_ble_eq_true rfl) (Nat.le_of_ble_eq_true rfl) dX3_init_7 (fun q1 H hP hD hS => ?_)
  have hP : va_P D vwCl [(a, .inr (3, [.null, .null, .null, .int 0])), (q1, .inl (cy 0, 12, .inl (fun _ => 0)))] H := hP
  have hD : va_D A [(a, .inr (3, [.null, .null, .null, .int 0])), (q1, .inl (cy 0, 12, .inl (fun _ => 0)))] := hD
  refine va_putF (ci := 3) (v := .ref q1) (ty := (.array .int)) (C := RX3) (T := TX3) (N := 4) hx hb hts inX3 tyX3 tyX3_ok nmX3 hown hK.1 hP hD hS 0 rfl rfl 0 (by decide) (hts _ mi_1_230) (fun _ h9 => h9) rfl hin rfl (by decide +kernel) rfl rfl (Nat.le_of_ble_eq_true rfl) dX3_init_9 (fun H locs hP hD hS => ?_)
  have hP : va_P D vwCl [(a, .inr (3, [.ref q1, .null, .null, .int 0])), (q1, .inl (cy 0, 12, .inl (fun _ => 0)))] H := hP
  have hD : va_D A [(a, .inr (3, [.ref q1, .null, .null, .int 0])), (q1, .inl (cy 0, 12, .inl (fun _ => 0)))] := hD
  refine lv_aload_n hx hb dX3_init_12 rfl (lv_at hl 0 rfl) ?_
  refine lv_bipush (v := 12) hx hb dX3_init_13 (by decide) ?_
  refine r_newI (N' := 12) hx hb (hts _ mi_1_104) hK hP hD hS hA (by decide) (by decide) (by decide) (Nat.le_of_ble_eq_true rfl) (Nat.le_of_ble_eq_true rfl) dX3_init_15 (fun q2 H hP hD hS => ?_)
  have hP : va_P D vwCl [(a, .inr (3, [.ref q1, .null, .null, .int 0])), (q1, .inl (cy 0, 12, .inl (fun _ => 0))), (q2, .inl (cy 0, 12, .inl (fun _ => 0)))] H := hP
  have hD : va_D A [(a, .inr (3, [.ref q1, .null, .null, .int 0])), (q1, .inl (cy 0, 12, .inl (fun _ => 0))), (q2, .inl (cy 0, 12, .inl (fun _ => 0)))] := hD
  refine va_putF (ci := 3) (v := .ref q2) (ty := (.array .int)) (C := RX3) (T := TX3) (N := 4) hx hb hts inX3 tyX3 tyX3_ok nmX3 hown hK.1 hP hD hS 0 rfl rfl 1 (by decide) (hts _ mi_1_233) (fun _ h9 => h9) rfl hin rfl (by decide +kernel) rfl rfl (Nat.le_of_ble_eq_true rfl) dX3_init_17 (fun H locs hP hD hS => ?_)
  have hP : va_P D vwCl [(a, .inr (3, [.ref q1, .ref q2, .null, .int 0])), (q1, .inl (cy 0, 12, .inl (fun _ => 0))), (q2, .inl (cy 0, 12, .inl (fun _ => 0)))] H := hP
  have hD : va_D A [(a, .inr (3, [.ref q1, .ref q2, .null, .int 0])), (q1, .inl (cy 0, 12, .inl (fun _ => 0))), (q2, .inl (cy 0, 12, .inl (fun _ => 0)))] := hD
  refine lv_aload_n hx hb dX3_init_20 rfl (lv_at hl 0 rfl) ?_
  refine lv_bipush (v := 12) hx hb dX3_init_21 (by decide) ?_
  refine r_newI (N' := 12) hx hb (hts _ mi_1_104) hK hP hD hS hA (by decide) (by decide) (by decide) (Nat.le_of_ble_eq_true rfl) (Nat.le_of_ble_eq_true rfl) dX3_init_23 (fun q3 H hP hD hS => ?_)
  have hP : va_P D vwCl [(a, .inr (3, [.ref q1, .ref q2, .null, .int 0])), (q1, .inl (cy 0, 12, .inl (fun _ => 0))), (q2, .inl (cy 0, 12, .inl (fun _ => 0))), (q3, .inl (cy 0, 12, .inl (fun _ => 0)))] H := hP
  have hD : va_D A [(a, .inr (3, [.ref q1, .ref q2, .null, .int 0])), (q1, .inl (cy 0, 12, .inl (fun _ => 0))), (q2, .inl (cy 0, 12, .inl (fun _ => 0))), (q3, .inl (cy 0, 12, .inl (fun _ => 0)))] := hD
  refine va_putF (ci := 3) (v := .ref q3) (ty := (.array .int)) (C := RX3) (T := TX3) (N := 4) hx hb hts inX3 tyX3 tyX3_ok nmX3 hown hK.1 hP hD hS 0 rfl rfl 2 (by decide) (hts _ mi_1_236) (fun _ h9 => h9) rfl hin rfl (by decide +kernel) rfl rfl (Nat.le_of_ble_eq_true rfl) dX3_init_25 (fun H locs hP hD hS => ?_)
  have hP : va_P D vwCl [(a, .inr (3, [.ref q1, .ref q2, .ref q3, .int 0])), (q1, .inl (cy 0, 12, .inl (fun _ => 0))), (q2, .inl (cy 0, 12, .inl (fun _ => 0))), (q3, .inl (cy 0, 12, .inl (fun _ => 0)))] H := hP
  have hD : va_D A [(a, .inr (3, [.ref q1, .ref q2, .ref q3, .int 0])), (q1, .inl (cy 0, 12, .inl (fun _ => 0))), (q2, .inl (cy 0, 12, .inl (fun _ => 0))), (q3, .inl (cy 0, 12, .inl (fun _ => 0)))] := hD
  exact e_RN (fun z => match z with | 0 => a | 1 => q1 | 2 => q2 | 3 => q3 | _ => 0) hx hb hr hk rfl (hP.sub [0, 1, 2, 3] rfl) (hD.sub [0, 1, 2, 3] (by decide) rfl) hS ⟨Nat.le_of_ble_eq_true rfl, Nat.le_of_ble_eq_true rfl⟩ dX3_init_28
theorem mi_1_199 : Cond.methodLink RX4 3 objectInit ∈ tb := tb_in (in_1 (List.mem_of_getElem? (i := 199) rfl)) rfl
theorem mi_1_200 : Cond.fieldLink RX4 11 "StormSlots$Offers" "down" "[I" ∈ tb := tb_in (in_1 (List.mem_of_getElem? (i := 200) rfl)) rfl
theorem mi_1_203 : Cond.fieldLink RX4 15 "StormSlots$Offers" "downTo" "[I" ∈ tb := tb_in (in_1 (List.mem_of_getElem? (i := 203) rfl)) rfl
theorem mi_1_206 : Cond.fieldLink RX4 18 "StormSlots$Offers" "up" "[I" ∈ tb := tb_in (in_1 (List.mem_of_getElem? (i := 206) rfl)) rfl
theorem mi_1_209 : Cond.fieldLink RX4 21 "StormSlots$Offers" "upTo" "[I" ∈ tb := tb_in (in_1 (List.mem_of_getElem? (i := 209) rfl)) rfl
set_option maxRecDepth 100000 in
theorem n_X4 (l : Launch) (D : va_G) (cy : Nat → ClassId) : RN l yX4_init cX4_init 1 1 4 32 D cy 4 [.null, .null, .null, .null, .int 0] (fun u => w_Of cy u zeM) := by
  refine RN_of RX4 rfl (by decide) rfl (by decide) ?_
  intro p e s m below meth c a A hin C0 hK hN hP hD hS hA ls hl
  obtain ⟨hx, hb, hr, hml, hown, hts, hk⟩ := id C0
  refine lv_aload_n hx hb dX4_init_0 rfl (lv_at hl 0 rfl) ?_
  refine W.objInit hx hb hown (hts _ mi_1_199) (hts _ mi_1_23) (hts _ mi_1_24) rfl (by rw [hml]; exact hl.1) rfl dX4_init_1 (Nat.le_of_ble_eq_true rfl) (Nat.le_of_ble_eq_true rfl) ?_
  refine W.eq (g2 := F0 m 4 ls []) rfl ?_
  refine lv_aload_n hx hb dX4_init_4 rfl (lv_at hl 0 rfl) ?_
  refine lv_bipush (v := 8) hx hb dX4_init_5 (by decide) ?_
  refine r_newI (N' := 8) hx hb (hts _ mi_1_104) hK hP hD hS hA (by decide) (by decide) (by decide) (Nat.le_of_ble_eq_true rfl) (Nat.le_of_ble_eq_true rfl) dX4_init_7 (fun q1 H hP hD hS => ?_)
  have hP : va_P D vwCl [(a, .inr (4, [.null, .null, .null, .null, .int 0])), (q1, .inl (cy 0, 8, .inl (fun _ => 0)))] H := hP
  have hD : va_D A [(a, .inr (4, [.null, .null, .null, .null, .int 0])), (q1, .inl (cy 0, 8, .inl (fun _ => 0)))] := hD
  refine va_putF (ci := 4) (v := .ref q1) (ty := (.array .int)) (C := RX4) (T := TX4) (N := 5) hx hb hts inX4 tyX4 tyX4_ok nmX4 hown hK.1 hP hD hS 0 rfl rfl 0 (by decide) (hts _ mi_1_200) (fun _ h9 => h9) rfl hin rfl (by decide +kernel) rfl rfl (Nat.le_of_ble_eq_true rfl) dX4_init_9 (fun H locs hP hD hS => ?_)
  have hP : va_P D vwCl [(a, .inr (4, [.ref q1, .null, .null, .null, .int 0])), (q1, .inl (cy 0, 8, .inl (fun _ => 0)))] H := hP
  have hD : va_D A [(a, .inr (4, [.ref q1, .null, .null, .null, .int 0])), (q1, .inl (cy 0, 8, .inl (fun _ => 0)))] := hD
  refine lv_aload_n hx hb dX4_init_12 rfl (lv_at hl 0 rfl) ?_
  refine lv_bipush (v := 8) hx hb dX4_init_13 (by decide) ?_
  refine r_newI (N' := 8) hx hb (hts _ mi_1_104) hK hP hD hS hA (by decide) (by decide) (by decide) (Nat.le_of_ble_eq_true rfl) (Nat.le_of_ble_eq_true rfl) dX4_init_15 (fun q2 H hP hD hS => ?_)
  have hP : va_P D vwCl [(a, .inr (4, [.ref q1, .null, .null, .null, .int 0])), (q1, .inl (cy 0, 8, .inl (fun _ => 0))), (q2, .inl (cy 0, 8, .inl (fun _ => 0)))] H := hP
  have hD : va_D A [(a, .inr (4, [.ref q1, .null, .null, .null, .int 0])), (q1, .inl (cy 0, 8, .inl (fun _ => 0))), (q2, .inl (cy 0, 8, .inl (fun _ => 0)))] := hD
  refine va_putF (ci := 4) (v := .ref q2) (ty := (.array .int)) (C := RX4) (T := TX4) (N := 5) hx hb hts inX4 tyX4 tyX4_ok nmX4 hown hK.1 hP hD hS 0 rfl rfl 1 (by decide) (hts _ mi_1_203) (fun _ h9 => h9) rfl hin rfl (by decide +kernel) rfl rfl (Nat.le_of_ble_eq_true rfl) dX4_init_17 (fun H locs hP hD hS => ?_)
  have hP : va_P D vwCl [(a, .inr (4, [.ref q1, .ref q2, .null, .null, .int 0])), (q1, .inl (cy 0, 8, .inl (fun _ => 0))), (q2, .inl (cy 0, 8, .inl (fun _ => 0)))] H := hP
  have hD : va_D A [(a, .inr (4, [.ref q1, .ref q2, .null, .null, .int 0])), (q1, .inl (cy 0, 8, .inl (fun _ => 0))), (q2, .inl (cy 0, 8, .inl (fun _ => 0)))] := hD
  refine lv_aload_n hx hb dX4_init_20 rfl (lv_at hl 0 rfl) ?_
  refine lv_bipush (v := 8) hx hb dX4_init_21 (by decide) ?_
  refine r_newI (N' := 8) hx hb (hts _ mi_1_104) hK hP hD hS hA (by decide) (by decide) (by decide) (Nat.le_of_ble_eq_true rfl) (Nat.le_of_ble_eq_true rfl) dX4_init_23 (fun q3 H hP hD hS => ?_)
  have hP : va_P D vwCl [(a, .inr (4, [.ref q1, .ref q2, .null, .null, .int 0])), (q1, .inl (cy 0, 8, .inl (fun _ => 0))), (q2, .inl (cy 0, 8, .inl (fun _ => 0))), (q3, .inl (cy 0, 8, .inl (fun _ => 0)))] H := hP
  have hD : va_D A [(a, .inr (4, [.ref q1, .ref q2, .null, .null, .int 0])), (q1, .inl (cy 0, 8, .inl (fun _ => 0))), (q2, .inl (cy 0, 8, .inl (fun _ => 0))), (q3, .inl (cy 0, 8, .inl (fun _ => 0)))] := hD
  refine va_putF (ci := 4) (v := .ref q3) (ty := (.array .int)) (C := RX4) (T := TX4) (N := 5) hx hb hts inX4 tyX4 tyX4_ok nmX4 hown hK.1 hP hD hS 0 rfl rfl 2 (by decide) (hts _ mi_1_206) (fun _ h9 => h9) rfl hin rfl (by decide +kernel) rfl rfl (Nat.le_of_ble_eq_true rfl) dX4_init_25 (fun H locs hP hD hS => ?_)
  have hP : va_P D vwCl [(a, .inr (4, [.ref q1, .ref q2, .ref q3, .null, .int 0])), (q1, .inl (cy 0, 8, .inl (fun _ => 0))), (q2, .inl (cy 0, 8, .inl (fun _ => 0))), (q3, .inl (cy 0, 8, .inl (fun _ => 0)))] H := hP
  have hD : va_D A [(a, .inr (4, [.ref q1, .ref q2, .ref q3, .null, .int 0])), (q1, .inl (cy 0, 8, .inl (fun _ => 0))), (q2, .inl (cy 0, 8, .inl (fun _ => 0))), (q3, .inl (cy 0, 8, .inl (fun _ => 0)))] := hD
  refine lv_aload_n hx hb dX4_init_28 rfl (lv_at hl 0 rfl) ?_
  refine lv_bipush (v := 8) hx hb dX4_init_29 (by decide) ?_
  refine r_newI (N' := 8) hx hb (hts _ mi_1_104) hK hP hD hS hA (by decide) (by decide) (by decide) (Nat.le_of_ble_eq_true rfl) (Nat.le_of_ble_eq_true rfl) dX4_init_31 (fun q4 H hP hD hS => ?_)
  have hP : va_P D vwCl [(a, .inr (4, [.ref q1, .ref q2, .ref q3, .null, .int 0])), (q1, .inl (cy 0, 8, .inl (fun _ => 0))), (q2, .inl (cy 0, 8, .inl (fun _ => 0))), (q3, .inl (cy 0, 8, .inl (fun _ => 0))), (q4, .inl (cy 0, 8, .inl (fun _ => 0)))] H := hP
  have hD : va_D A [(a, .inr (4, [.ref q1, .ref q2, .ref q3, .null, .int 0])), (q1, .inl (cy 0, 8, .inl (fun _ => 0))), (q2, .inl (cy 0, 8, .inl (fun _ => 0))), (q3, .inl (cy 0, 8, .inl (fun _ => 0))), (q4, .inl (cy 0, 8, .inl (fun _ => 0)))] := hD
  refine va_putF (ci := 4) (v := .ref q4) (ty := (.array .int)) (C := RX4) (T := TX4) (N := 5) hx hb hts inX4 tyX4 tyX4_ok nmX4 hown hK.1 hP hD hS 0 rfl rfl 3 (by decide) (hts _ mi_1_209) (fun _ h9 => h9) rfl hin rfl (by decide +kernel) rfl rfl (Nat.le_of_ble_eq_true rfl) dX4_init_33 (fun H locs hP hD hS => ?_)
  have hP : va_P D vwCl [(a, .inr (4, [.ref q1, .ref q2, .ref q3, .ref q4, .int 0])), (q1, .inl (cy 0, 8, .inl (fun _ => 0))), (q2, .inl (cy 0, 8, .inl (fun _ => 0))), (q3, .inl (cy 0, 8, .inl (fun _ => 0))), (q4, .inl (cy 0, 8, .inl (fun _ => 0)))] H := hP
  have hD : va_D A [(a, .inr (4, [.ref q1, .ref q2, .ref q3, .ref q4, .int 0])), (q1, .inl (cy 0, 8, .inl (fun _ => 0))), (q2, .inl (cy 0, 8, .inl (fun _ => 0))), (q3, .inl (cy 0, 8, .inl (fun _ => 0))), (q4, .inl (cy 0, 8, .inl (fun _ => 0)))] := hD
  exact e_RN (fun z => match z with | 0 => a | 1 => q1 | 2 => q2 | 3 => q3 | 4 => q4 | _ => 0) hx hb hr hk rfl (hP.sub [0, 1, 2, 3, 4] rfl) (hD.sub [0, 1, 2, 3, 4] (by decide) rfl) hS ⟨Nat.le_of_ble_eq_true rfl, Nat.le_of_ble_eq_true rfl⟩ dX4_init_36
theorem mi_1_129 : Cond.methodLink RX5 3 objectInit ∈ tb := tb_in (in_1 (List.mem_of_getElem? (i := 129) rfl)) rfl
theorem mi_1_130 : Cond.fieldLink RX5 11 "StormSlots$OrderSearch" "flights" "[I" ∈ tb := tb_in (in_1 (List.mem_of_getElem? (i := 130) rfl)) rfl
theorem mi_1_132 : Cond.fieldLink RX5 15 "StormSlots$OrderSearch" "best" "[I" ∈ tb := tb_in (in_1 (List.mem_of_getElem? (i := 132) rfl)) rfl
theorem mi_1_136 : Cond.fieldLink RX5 18 "StormSlots$OrderSearch" "minutes" "[I" ∈ tb := tb_in (in_1 (List.mem_of_getElem? (i := 136) rfl)) rfl
theorem mi_1_137 : Cond.fieldLink RX5 21 "StormSlots$OrderSearch" "row" "[I" ∈ tb := tb_in (in_1 (List.mem_of_getElem? (i := 137) rfl)) rfl
set_option maxRecDepth 100000 in
theorem n_X5 (l : Launch) (D : va_G) (cy : Nat → ClassId) : RN l yX5_init cX5_init 1 1 4 24 D cy 5 [.null, .null, .int 0, .null, .null, .int 0, .int 0, .int 0] (fun u => w_Se cy u zeM) := by
  refine RN_of RX5 rfl (by decide) rfl (by decide) ?_
  intro p e s m below meth c a A hin C0 hK hN hP hD hS hA ls hl
  obtain ⟨hx, hb, hr, hml, hown, hts, hk⟩ := id C0
  refine lv_aload_n hx hb dX5_init_0 rfl (lv_at hl 0 rfl) ?_
  refine W.objInit hx hb hown (hts _ mi_1_129) (hts _ mi_1_23) (hts _ mi_1_24) rfl (by rw [hml]; exact hl.1) rfl dX5_init_1 (Nat.le_of_ble_eq_true rfl) (Nat.le_of_ble_eq_true rfl) ?_
  refine W.eq (g2 := F0 m 4 ls []) rfl ?_
  refine lv_aload_n hx hb dX5_init_4 rfl (lv_at hl 0 rfl) ?_
  refine lv_bipush (v := 6) hx hb dX5_init_5 (by decide) ?_
  refine r_newI (N' := 6) hx hb (hts _ mi_1_104) hK hP hD hS hA (by decide) (by decide) (by decide) (Nat.le_of_ble_eq_true rfl) (Nat.le_of_ble_eq_true rfl) dX5_init_7 (fun q1 H hP hD hS => ?_)
  have hP : va_P D vwCl [(a, .inr (5, [.null, .null, .int 0, .null, .null, .int 0, .int 0, .int 0])), (q1, .inl (cy 0, 6, .inl (fun _ => 0)))] H := hP
  have hD : va_D A [(a, .inr (5, [.null, .null, .int 0, .null, .null, .int 0, .int 0, .int 0])), (q1, .inl (cy 0, 6, .inl (fun _ => 0)))] := hD
  refine va_putF (ci := 5) (v := .ref q1) (ty := (.array .int)) (C := RX5) (T := TX5) (N := 8) hx hb hts inX5 tyX5 tyX5_ok nmX5 hown hK.1 hP hD hS 0 rfl rfl 0 (by decide) (hts _ mi_1_130) (fun _ h9 => h9) rfl hin rfl (by decide +kernel) rfl rfl (Nat.le_of_ble_eq_true rfl) dX5_init_9 (fun H locs hP hD hS => ?_)
  have hP : va_P D vwCl [(a, .inr (5, [.ref q1, .null, .int 0, .null, .null, .int 0, .int 0, .int 0])), (q1, .inl (cy 0, 6, .inl (fun _ => 0)))] H := hP
  have hD : va_D A [(a, .inr (5, [.ref q1, .null, .int 0, .null, .null, .int 0, .int 0, .int 0])), (q1, .inl (cy 0, 6, .inl (fun _ => 0)))] := hD
  refine lv_aload_n hx hb dX5_init_12 rfl (lv_at hl 0 rfl) ?_
  refine lv_bipush (v := 6) hx hb dX5_init_13 (by decide) ?_
  refine r_newI (N' := 6) hx hb (hts _ mi_1_104) hK hP hD hS hA (by decide) (by decide) (by decide) (Nat.le_of_ble_eq_true rfl) (Nat.le_of_ble_eq_true rfl) dX5_init_15 (fun q2 H hP hD hS => ?_)
  have hP : va_P D vwCl [(a, .inr (5, [.ref q1, .null, .int 0, .null, .null, .int 0, .int 0, .int 0])), (q1, .inl (cy 0, 6, .inl (fun _ => 0))), (q2, .inl (cy 0, 6, .inl (fun _ => 0)))] H := hP
  have hD : va_D A [(a, .inr (5, [.ref q1, .null, .int 0, .null, .null, .int 0, .int 0, .int 0])), (q1, .inl (cy 0, 6, .inl (fun _ => 0))), (q2, .inl (cy 0, 6, .inl (fun _ => 0)))] := hD
  refine va_putF (ci := 5) (v := .ref q2) (ty := (.array .int)) (C := RX5) (T := TX5) (N := 8) hx hb hts inX5 tyX5 tyX5_ok nmX5 hown hK.1 hP hD hS 0 rfl rfl 1 (by decide) (hts _ mi_1_132) (fun _ h9 => h9) rfl hin rfl (by decide +kernel) rfl rfl (Nat.le_of_ble_eq_true rfl) dX5_init_17 (fun H locs hP hD hS => ?_)
  have hP : va_P D vwCl [(a, .inr (5, [.ref q1, .ref q2, .int 0, .null, .null, .int 0, .int 0, .int 0])), (q1, .inl (cy 0, 6, .inl (fun _ => 0))), (q2, .inl (cy 0, 6, .inl (fun _ => 0)))] H := hP
  have hD : va_D A [(a, .inr (5, [.ref q1, .ref q2, .int 0, .null, .null, .int 0, .int 0, .int 0])), (q1, .inl (cy 0, 6, .inl (fun _ => 0))), (q2, .inl (cy 0, 6, .inl (fun _ => 0)))] := hD
  refine lv_aload_n hx hb dX5_init_20 rfl (lv_at hl 0 rfl) ?_
  refine lv_bipush (v := 6) hx hb dX5_init_21 (by decide) ?_
  refine r_newI (N' := 6) hx hb (hts _ mi_1_104) hK hP hD hS hA (by decide) (by decide) (by decide) (Nat.le_of_ble_eq_true rfl) (Nat.le_of_ble_eq_true rfl) dX5_init_23 (fun q4 H hP hD hS => ?_)
  have hP : va_P D vwCl [(a, .inr (5, [.ref q1, .ref q2, .int 0, .null, .null, .int 0, .int 0, .int 0])), (q1, .inl (cy 0, 6, .inl (fun _ => 0))), (q2, .inl (cy 0, 6, .inl (fun _ => 0))), (q4, .inl (cy 0, 6, .inl (fun _ => 0)))] H := hP
  have hD : va_D A [(a, .inr (5, [.ref q1, .ref q2, .int 0, .null, .null, .int 0, .int 0, .int 0])), (q1, .inl (cy 0, 6, .inl (fun _ => 0))), (q2, .inl (cy 0, 6, .inl (fun _ => 0))), (q4, .inl (cy 0, 6, .inl (fun _ => 0)))] := hD
  refine va_putF (ci := 5) (v := .ref q4) (ty := (.array .int)) (C := RX5) (T := TX5) (N := 8) hx hb hts inX5 tyX5 tyX5_ok nmX5 hown hK.1 hP hD hS 0 rfl rfl 3 (by decide) (hts _ mi_1_136) (fun _ h9 => h9) rfl hin rfl (by decide +kernel) rfl rfl (Nat.le_of_ble_eq_true rfl) dX5_init_25 (fun H locs hP hD hS => ?_)
  have hP : va_P D vwCl [(a, .inr (5, [.ref q1, .ref q2, .int 0, .ref q4, .null, .int 0, .int 0, .int 0])), (q1, .inl (cy 0, 6, .inl (fun _ => 0))), (q2, .inl (cy 0, 6, .inl (fun _ => 0))), (q4, .inl (cy 0, 6, .inl (fun _ => 0)))] H := hP
  have hD : va_D A [(a, .inr (5, [.ref q1, .ref q2, .int 0, .ref q4, .null, .int 0, .int 0, .int 0])), (q1, .inl (cy 0, 6, .inl (fun _ => 0))), (q2, .inl (cy 0, 6, .inl (fun _ => 0))), (q4, .inl (cy 0, 6, .inl (fun _ => 0)))] := hD
  refine lv_aload_n hx hb dX5_init_28 rfl (lv_at hl 0 rfl) ?_
  refine lv_bipush (v := 6) hx hb dX5_init_29 (by decide) ?_
  refine r_newI (N' := 6) hx hb (hts _ mi_1_104) hK hP hD hS hA (by decide) (by decide) (by decide) (Nat.le_of_ble_eq_true rfl) (Nat.le_of_ble_eq_true rfl) dX5_init_31 (fun q5 H hP hD hS => ?_)
  have hP : va_P D vwCl [(a, .inr (5, [.ref q1, .ref q2, .int 0, .ref q4, .null, .int 0, .int 0, .int 0])), (q1, .inl (cy 0, 6, .inl (fun _ => 0))), (q2, .inl (cy 0, 6, .inl (fun _ => 0))), (q4, .inl (cy 0, 6, .inl (fun _ => 0))), (q5, .inl (cy 0, 6, .inl (fun _ => 0)))] H := hP
  have hD : va_D A [(a, .inr (5, [.ref q1, .ref q2, .int 0, .ref q4, .null, .int 0, .int 0, .int 0])), (q1, .inl (cy 0, 6, .inl (fun _ => 0))), (q2, .inl (cy 0, 6, .inl (fun _ => 0))), (q4, .inl (cy 0, 6, .inl (fun _ => 0))), (q5, .inl (cy 0, 6, .inl (fun _ => 0)))] := hD
  refine va_putF (ci := 5) (v := .ref q5) (ty := (.array .int)) (C := RX5) (T := TX5) (N := 8) hx hb hts inX5 tyX5 tyX5_ok nmX5 hown hK.1 hP hD hS 0 rfl rfl 4 (by decide) (hts _ mi_1_137) (fun _ h9 => h9) rfl hin rfl (by decide +kernel) rfl rfl (Nat.le_of_ble_eq_true rfl) dX5_init_33 (fun H locs hP hD hS => ?_)
  have hP : va_P D vwCl [(a, .inr (5, [.ref q1, .ref q2, .int 0, .ref q4, .ref q5, .int 0, .int 0, .int 0])), (q1, .inl (cy 0, 6, .inl (fun _ => 0))), (q2, .inl (cy 0, 6, .inl (fun _ => 0))), (q4, .inl (cy 0, 6, .inl (fun _ => 0))), (q5, .inl (cy 0, 6, .inl (fun _ => 0)))] H := hP
  have hD : va_D A [(a, .inr (5, [.ref q1, .ref q2, .int 0, .ref q4, .ref q5, .int 0, .int 0, .int 0])), (q1, .inl (cy 0, 6, .inl (fun _ => 0))), (q2, .inl (cy 0, 6, .inl (fun _ => 0))), (q4, .inl (cy 0, 6, .inl (fun _ => 0))), (q5, .inl (cy 0, 6, .inl (fun _ => 0)))] := hD
  exact e_RN (fun z => match z with | 0 => a | 1 => q1 | 2 => q2 | 4 => q4 | 5 => q5 | _ => 0) hx hb hr hk rfl (hP.sub [0, 1, 2, 3, 4] rfl) (hD.sub [0, 1, 2, 3, 4] (by decide) rfl) hS ⟨Nat.le_of_ble_eq_true rfl, Nat.le_of_ble_eq_true rfl⟩ dX5_init_36
theorem mi_1_110 : Cond.methodLink RX6 3 objectInit ∈ tb := tb_in (in_1 (List.mem_of_getElem? (i := 110) rfl)) rfl
theorem mi_1_111 : Cond.fieldLink RX6 9 "StormSlots$Planner" "queue" "[I" ∈ tb := tb_in (in_1 (List.mem_of_getElem? (i := 111) rfl)) rfl
theorem mi_1_113 : Cond.fieldLink RX6 15 "StormSlots$Planner" "marks" "[I" ∈ tb := tb_in (in_1 (List.mem_of_getElem? (i := 113) rfl)) rfl
set_option maxRecDepth 100000 in
theorem n_X6 (l : Launch) (D : va_G) (cy : Nat → ClassId) : RN l yX6_init cX6_init 1 1 2 1220 D cy 6 [.null, .int 0, .null, .int 0] (fun u => w_Pl cy u zeM) := by
  refine RN_of RX6 rfl (by decide) rfl (by decide) ?_
  intro p e s m below meth c a A hin C0 hK hN hP hD hS hA ls hl
  obtain ⟨hx, hb, hr, hml, hown, hts, hk⟩ := id C0
  refine lv_aload_n hx hb dX6_init_0 rfl (lv_at hl 0 rfl) ?_
  refine W.objInit hx hb hown (hts _ mi_1_110) (hts _ mi_1_23) (hts _ mi_1_24) rfl (by rw [hml]; exact hl.1) rfl dX6_init_1 (Nat.le_of_ble_eq_true rfl) (Nat.le_of_ble_eq_true rfl) ?_
  refine W.eq (g2 := F0 m 4 ls []) rfl ?_
  refine lv_aload_n hx hb dX6_init_4 rfl (lv_at hl 0 rfl) ?_
  refine lv_bipush (v := 20) hx hb dX6_init_5 (by decide) ?_
  refine r_newI (N' := 20) hx hb (hts _ mi_1_104) hK hP hD hS hA (by decide) (by decide) (by decide) (Nat.le_of_ble_eq_true rfl) (Nat.le_of_ble_eq_true rfl) dX6_init_7 (fun q1 H hP hD hS => ?_)
  have hP : va_P D vwCl [(a, .inr (6, [.null, .int 0, .null, .int 0])), (q1, .inl (cy 0, 20, .inl (fun _ => 0)))] H := hP
  have hD : va_D A [(a, .inr (6, [.null, .int 0, .null, .int 0])), (q1, .inl (cy 0, 20, .inl (fun _ => 0)))] := hD
  refine va_putF (ci := 6) (v := .ref q1) (ty := (.array .int)) (C := RX6) (T := TX6) (N := 4) hx hb hts inX6 tyX6 tyX6_ok nmX6 hown hK.1 hP hD hS 0 rfl rfl 0 (by decide) (hts _ mi_1_111) (fun _ h9 => h9) rfl hin rfl (by decide +kernel) rfl rfl (Nat.le_of_ble_eq_true rfl) dX6_init_9 (fun H locs hP hD hS => ?_)
  have hP : va_P D vwCl [(a, .inr (6, [.ref q1, .int 0, .null, .int 0])), (q1, .inl (cy 0, 20, .inl (fun _ => 0)))] H := hP
  have hD : va_D A [(a, .inr (6, [.ref q1, .int 0, .null, .int 0])), (q1, .inl (cy 0, 20, .inl (fun _ => 0)))] := hD
  refine lv_aload_n hx hb dX6_init_12 rfl (lv_at hl 0 rfl) ?_
  refine lv_sipush (v := 1200) hx hb dX6_init_13 (by decide) ?_
  refine r_newI (N' := 1200) hx hb (hts _ mi_1_104) hK hP hD hS hA (by decide) (by decide) (by decide) (Nat.le_of_ble_eq_true rfl) (Nat.le_of_ble_eq_true rfl) dX6_init_16 (fun q3 H hP hD hS => ?_)
  have hP : va_P D vwCl [(a, .inr (6, [.ref q1, .int 0, .null, .int 0])), (q1, .inl (cy 0, 20, .inl (fun _ => 0))), (q3, .inl (cy 0, 1200, .inl (fun _ => 0)))] H := hP
  have hD : va_D A [(a, .inr (6, [.ref q1, .int 0, .null, .int 0])), (q1, .inl (cy 0, 20, .inl (fun _ => 0))), (q3, .inl (cy 0, 1200, .inl (fun _ => 0)))] := hD
  refine va_putF (ci := 6) (v := .ref q3) (ty := (.array .int)) (C := RX6) (T := TX6) (N := 4) hx hb hts inX6 tyX6 tyX6_ok nmX6 hown hK.1 hP hD hS 0 rfl rfl 2 (by decide) (hts _ mi_1_113) (fun _ h9 => h9) rfl hin rfl (by decide +kernel) rfl rfl (Nat.le_of_ble_eq_true rfl) dX6_init_18 (fun H locs hP hD hS => ?_)
  have hP : va_P D vwCl [(a, .inr (6, [.ref q1, .int 0, .ref q3, .int 0])), (q1, .inl (cy 0, 20, .inl (fun _ => 0))), (q3, .inl (cy 0, 1200, .inl (fun _ => 0)))] H := hP
  have hD : va_D A [(a, .inr (6, [.ref q1, .int 0, .ref q3, .int 0])), (q1, .inl (cy 0, 20, .inl (fun _ => 0))), (q3, .inl (cy 0, 1200, .inl (fun _ => 0)))] := hD
  exact e_RN (fun z => match z with | 0 => a | 1 => q1 | 3 => q3 | _ => 0) hx hb hr hk rfl (hP.sub [0, 1, 2] rfl) (hD.sub [0, 1, 2] (by decide) rfl) hS ⟨Nat.le_of_ble_eq_true rfl, Nat.le_of_ble_eq_true rfl⟩ dX6_init_21
theorem mi_1_46 : Cond.methodLink RX8 3 objectInit ∈ tb := tb_in (in_1 (List.mem_of_getElem? (i := 46) rfl)) rfl
set_option maxRecDepth 100000 in
theorem n_X8 (l : Launch) (D : va_G) (cy : Nat → ClassId) : RN l yX8_init cX8_init 1 1 0 0 D cy 8 [.int 0, .int 0, .int 0] (fun u => w_Rd cy u zeM) := by
  refine RN_of RX8 rfl (by decide) rfl (by decide) ?_
  intro p e s m below meth c a A hin C0 hK hN hP hD hS hA ls hl
  obtain ⟨hx, hb, hr, hml, hown, hts, hk⟩ := id C0
  refine lv_aload_n hx hb dX8_init_0 rfl (lv_at hl 0 rfl) ?_
  refine W.objInit hx hb hown (hts _ mi_1_46) (hts _ mi_1_23) (hts _ mi_1_24) rfl (by rw [hml]; exact hl.1) rfl dX8_init_1 (Nat.le_of_ble_eq_true rfl) (Nat.le_of_ble_eq_true rfl) ?_
  refine W.eq (g2 := F0 m 4 ls []) rfl ?_
  exact e_RN (fun z => match z with | 0 => a | _ => 0) hx hb hr hk rfl (hP.sub [0] rfl) (hD.sub [0] (by decide) rfl) hS ⟨Nat.le_of_ble_eq_true rfl, Nat.le_of_ble_eq_true rfl⟩ dX8_init_4
theorem mi_1_73 : Cond.methodLink RX9 3 objectInit ∈ tb := tb_in (in_1 (List.mem_of_getElem? (i := 73) rfl)) rfl
theorem mi_1_74 : Cond.fieldLink RX9 9 "StormSlots$Roster" "line" "[I" ∈ tb := tb_in (in_1 (List.mem_of_getElem? (i := 74) rfl)) rfl
theorem mi_1_78 : Cond.fieldLink RX9 15 "StormSlots$Roster" "eta" "[I" ∈ tb := tb_in (in_1 (List.mem_of_getElem? (i := 78) rfl)) rfl
theorem mi_1_82 : Cond.fieldLink RX9 18 "StormSlots$Roster" "time" "[I" ∈ tb := tb_in (in_1 (List.mem_of_getElem? (i := 82) rfl)) rfl
theorem mi_1_85 : Cond.fieldLink RX9 21 "StormSlots$Roster" "weight" "[I" ∈ tb := tb_in (in_1 (List.mem_of_getElem? (i := 85) rfl)) rfl
set_option maxRecDepth 100000 in
theorem n_X9 (l : Launch) (D : va_G) (cy : Nat → ClassId) : RN l yX9_init cX9_init 1 1 4 80 D cy 9 [.null, .null, .null, .null, .int 0] (fun u => w_Ro cy u zeM) := by
  refine RN_of RX9 rfl (by decide) rfl (by decide) ?_
  intro p e s m below meth c a A hin C0 hK hN hP hD hS hA ls hl
  obtain ⟨hx, hb, hr, hml, hown, hts, hk⟩ := id C0
  refine lv_aload_n hx hb dX9_init_0 rfl (lv_at hl 0 rfl) ?_
  refine W.objInit hx hb hown (hts _ mi_1_73) (hts _ mi_1_23) (hts _ mi_1_24) rfl (by rw [hml]; exact hl.1) rfl dX9_init_1 (Nat.le_of_ble_eq_true rfl) (Nat.le_of_ble_eq_true rfl) ?_
  refine W.eq (g2 := F0 m 4 ls []) rfl ?_
  refine lv_aload_n hx hb dX9_init_4 rfl (lv_at hl 0 rfl) ?_
  refine lv_bipush (v := 20) hx hb dX9_init_5 (by decide) ?_
  refine r_newI (N' := 20) hx hb (hts _ mi_1_104) hK hP hD hS hA (by decide) (by decide) (by decide) (Nat.le_of_ble_eq_true rfl) (Nat.le_of_ble_eq_true rfl) dX9_init_7 (fun q1 H hP hD hS => ?_)
  have hP : va_P D vwCl [(a, .inr (9, [.null, .null, .null, .null, .int 0])), (q1, .inl (cy 0, 20, .inl (fun _ => 0)))] H := hP
  have hD : va_D A [(a, .inr (9, [.null, .null, .null, .null, .int 0])), (q1, .inl (cy 0, 20, .inl (fun _ => 0)))] := hD
  refine va_putF (ci := 9) (v := .ref q1) (ty := (.array .int)) (C := RX9) (T := TX9) (N := 5) hx hb hts inX9 tyX9 tyX9_ok nmX9 hown hK.1 hP hD hS 0 rfl rfl 0 (by decide) (hts _ mi_1_74) (fun _ h9 => h9) rfl hin rfl (by decide +kernel) rfl rfl (Nat.le_of_ble_eq_true rfl) dX9_init_9 (fun H locs hP hD hS => ?_)
  have hP : va_P D vwCl [(a, .inr (9, [.ref q1, .null, .null, .null, .int 0])), (q1, .inl (cy 0, 20, .inl (fun _ => 0)))] H := hP
  have hD : va_D A [(a, .inr (9, [.ref q1, .null, .null, .null, .int 0])), (q1, .inl (cy 0, 20, .inl (fun _ => 0)))] := hD
  refine lv_aload_n hx hb dX9_init_12 rfl (lv_at hl 0 rfl) ?_
  refine lv_bipush (v := 20) hx hb dX9_init_13 (by decide) ?_
  refine r_newI (N' := 20) hx hb (hts _ mi_1_104) hK hP hD hS hA (by decide) (by decide) (by decide) (Nat.le_of_ble_eq_true rfl) (Nat.le_of_ble_eq_true rfl) dX9_init_15 (fun q2 H hP hD hS => ?_)
  have hP : va_P D vwCl [(a, .inr (9, [.ref q1, .null, .null, .null, .int 0])), (q1, .inl (cy 0, 20, .inl (fun _ => 0))), (q2, .inl (cy 0, 20, .inl (fun _ => 0)))] H := hP
  have hD : va_D A [(a, .inr (9, [.ref q1, .null, .null, .null, .int 0])), (q1, .inl (cy 0, 20, .inl (fun _ => 0))), (q2, .inl (cy 0, 20, .inl (fun _ => 0)))] := hD
  refine va_putF (ci := 9) (v := .ref q2) (ty := (.array .int)) (C := RX9) (T := TX9) (N := 5) hx hb hts inX9 tyX9 tyX9_ok nmX9 hown hK.1 hP hD hS 0 rfl rfl 1 (by decide) (hts _ mi_1_78) (fun _ h9 => h9) rfl hin rfl (by decide +kernel) rfl rfl (Nat.le_of_ble_eq_true rfl) dX9_init_17 (fun H locs hP hD hS => ?_)
  have hP : va_P D vwCl [(a, .inr (9, [.ref q1, .ref q2, .null, .null, .int 0])), (q1, .inl (cy 0, 20, .inl (fun _ => 0))), (q2, .inl (cy 0, 20, .inl (fun _ => 0)))] H := hP
  have hD : va_D A [(a, .inr (9, [.ref q1, .ref q2, .null, .null, .int 0])), (q1, .inl (cy 0, 20, .inl (fun _ => 0))), (q2, .inl (cy 0, 20, .inl (fun _ => 0)))] := hD
  refine lv_aload_n hx hb dX9_init_20 rfl (lv_at hl 0 rfl) ?_
  refine lv_bipush (v := 20) hx hb dX9_init_21 (by decide) ?_
  refine r_newI (N' := 20) hx hb (hts _ mi_1_104) hK hP hD hS hA (by decide) (by decide) (by decide) (Nat.le_of_ble_eq_true rfl) (Nat.le_of_ble_eq_true rfl) dX9_init_23 (fun q3 H hP hD hS => ?_)
  have hP : va_P D vwCl [(a, .inr (9, [.ref q1, .ref q2, .null, .null, .int 0])), (q1, .inl (cy 0, 20, .inl (fun _ => 0))), (q2, .inl (cy 0, 20, .inl (fun _ => 0))), (q3, .inl (cy 0, 20, .inl (fun _ => 0)))] H := hP
  have hD : va_D A [(a, .inr (9, [.ref q1, .ref q2, .null, .null, .int 0])), (q1, .inl (cy 0, 20, .inl (fun _ => 0))), (q2, .inl (cy 0, 20, .inl (fun _ => 0))), (q3, .inl (cy 0, 20, .inl (fun _ => 0)))] := hD
  refine va_putF (ci := 9) (v := .ref q3) (ty := (.array .int)) (C := RX9) (T := TX9) (N := 5) hx hb hts inX9 tyX9 tyX9_ok nmX9 hown hK.1 hP hD hS 0 rfl rfl 2 (by decide) (hts _ mi_1_82) (fun _ h9 => h9) rfl hin rfl (by decide +kernel) rfl rfl (Nat.le_of_ble_eq_true rfl) dX9_init_25 (fun H locs hP hD hS => ?_)
  have hP : va_P D vwCl [(a, .inr (9, [.ref q1, .ref q2, .ref q3, .null, .int 0])), (q1, .inl (cy 0, 20, .inl (fun _ => 0))), (q2, .inl (cy 0, 20, .inl (fun _ => 0))), (q3, .inl (cy 0, 20, .inl (fun _ => 0)))] H := hP
  have hD : va_D A [(a, .inr (9, [.ref q1, .ref q2, .ref q3, .null, .int 0])), (q1, .inl (cy 0, 20, .inl (fun _ => 0))), (q2, .inl (cy 0, 20, .inl (fun _ => 0))), (q3, .inl (cy 0, 20, .inl (fun _ => 0)))] := hD
  refine lv_aload_n hx hb dX9_init_28 rfl (lv_at hl 0 rfl) ?_
  refine lv_bipush (v := 20) hx hb dX9_init_29 (by decide) ?_
  refine r_newI (N' := 20) hx hb (hts _ mi_1_104) hK hP hD hS hA (by decide) (by decide) (by decide) (Nat.le_of_ble_eq_true rfl) (Nat.le_of_ble_eq_true rfl) dX9_init_31 (fun q4 H hP hD hS => ?_)
  have hP : va_P D vwCl [(a, .inr (9, [.ref q1, .ref q2, .ref q3, .null, .int 0])), (q1, .inl (cy 0, 20, .inl (fun _ => 0))), (q2, .inl (cy 0, 20, .inl (fun _ => 0))), (q3, .inl (cy 0, 20, .inl (fun _ => 0))), (q4, .inl (cy 0, 20, .inl (fun _ => 0)))] H := hP
  have hD : va_D A [(a, .inr (9, [.ref q1, .ref q2, .ref q3, .null, .int 0])), (q1, .inl (cy 0, 20, .inl (fun _ => 0))), (q2, .inl (cy 0, 20, .inl (fun _ => 0))), (q3, .inl (cy 0, 20, .inl (fun _ => 0))), (q4, .inl (cy 0, 20, .inl (fun _ => 0)))] := hD
  refine va_putF (ci := 9) (v := .ref q4) (ty := (.array .int)) (C := RX9) (T := TX9) (N := 5) hx hb hts inX9 tyX9 tyX9_ok nmX9 hown hK.1 hP hD hS 0 rfl rfl 3 (by decide) (hts _ mi_1_85) (fun _ h9 => h9) rfl hin rfl (by decide +kernel) rfl rfl (Nat.le_of_ble_eq_true rfl) dX9_init_33 (fun H locs hP hD hS => ?_)
  have hP : va_P D vwCl [(a, .inr (9, [.ref q1, .ref q2, .ref q3, .ref q4, .int 0])), (q1, .inl (cy 0, 20, .inl (fun _ => 0))), (q2, .inl (cy 0, 20, .inl (fun _ => 0))), (q3, .inl (cy 0, 20, .inl (fun _ => 0))), (q4, .inl (cy 0, 20, .inl (fun _ => 0)))] H := hP
  have hD : va_D A [(a, .inr (9, [.ref q1, .ref q2, .ref q3, .ref q4, .int 0])), (q1, .inl (cy 0, 20, .inl (fun _ => 0))), (q2, .inl (cy 0, 20, .inl (fun _ => 0))), (q3, .inl (cy 0, 20, .inl (fun _ => 0))), (q4, .inl (cy 0, 20, .inl (fun _ => 0)))] := hD
  exact e_RN (fun z => match z with | 0 => a | 1 => q1 | 2 => q2 | 3 => q3 | 4 => q4 | _ => 0) hx hb hr hk rfl (hP.sub [0, 1, 2, 3, 4] rfl) (hD.sub [0, 1, 2, 3, 4] (by decide) rfl) hS ⟨Nat.le_of_ble_eq_true rfl, Nat.le_of_ble_eq_true rfl⟩ dX9_init_36
theorem mi_1_181 : Cond.methodLink RX10 3 objectInit ∈ tb := tb_in (in_1 (List.mem_of_getElem? (i := 181) rfl)) rfl
theorem mi_1_182 : Cond.fieldLink RX10 9 "StormSlots$Vacancies" "minute" "[I" ∈ tb := tb_in (in_1 (List.mem_of_getElem? (i := 182) rfl)) rfl
theorem mi_1_183 : Cond.fieldLink RX10 15 "StormSlots$Vacancies" "keeper" "[I" ∈ tb := tb_in (in_1 (List.mem_of_getElem? (i := 183) rfl)) rfl
set_option maxRecDepth 100000 in
theorem n_X10 (l : Launch) (D : va_G) (cy : Nat → ClassId) : RN l yX10_init cX10_init 1 1 2 40 D cy 10 [.null, .null, .int 0] (fun u => w_Va cy u zeM) := by
  refine RN_of RX10 rfl (by decide) rfl (by decide) ?_
  intro p e s m below meth c a A hin C0 hK hN hP hD hS hA ls hl
  obtain ⟨hx, hb, hr, hml, hown, hts, hk⟩ := id C0
  refine lv_aload_n hx hb dX10_init_0 rfl (lv_at hl 0 rfl) ?_
  refine W.objInit hx hb hown (hts _ mi_1_181) (hts _ mi_1_23) (hts _ mi_1_24) rfl (by rw [hml]; exact hl.1) rfl dX10_init_1 (Nat.le_of_ble_eq_true rfl) (Nat.le_of_ble_eq_true rfl) ?_
  refine W.eq (g2 := F0 m 4 ls []) rfl ?_
  refine lv_aload_n hx hb dX10_init_4 rfl (lv_at hl 0 rfl) ?_
  refine lv_bipush (v := 20) hx hb dX10_init_5 (by decide) ?_
  refine r_newI (N' := 20) hx hb (hts _ mi_1_104) hK hP hD hS hA (by decide) (by decide) (by decide) (Nat.le_of_ble_eq_true rfl) (Nat.le_of_ble_eq_true rfl) dX10_init_7 (fun q1 H hP hD hS => ?_)
  have hP : va_P D vwCl [(a, .inr (10, [.null, .null, .int 0])), (q1, .inl (cy 0, 20, .inl (fun _ => 0)))] H := hP
  have hD : va_D A [(a, .inr (10, [.null, .null, .int 0])), (q1, .inl (cy 0, 20, .inl (fun _ => 0)))] := hD
  refine va_putF (ci := 10) (v := .ref q1) (ty := (.array .int)) (C := RX10) (T := TX10) (N := 3) hx hb hts inX10 tyX10 tyX10_ok nmX10 hown hK.1 hP hD hS 0 rfl rfl 0 (by decide) (hts _ mi_1_182) (fun _ h9 => h9) rfl hin rfl (by decide +kernel) rfl rfl (Nat.le_of_ble_eq_true rfl) dX10_init_9 (fun H locs hP hD hS => ?_)
  have hP : va_P D vwCl [(a, .inr (10, [.ref q1, .null, .int 0])), (q1, .inl (cy 0, 20, .inl (fun _ => 0)))] H := hP
  have hD : va_D A [(a, .inr (10, [.ref q1, .null, .int 0])), (q1, .inl (cy 0, 20, .inl (fun _ => 0)))] := hD
  refine lv_aload_n hx hb dX10_init_12 rfl (lv_at hl 0 rfl) ?_
  refine lv_bipush (v := 20) hx hb dX10_init_13 (by decide) ?_
  refine r_newI (N' := 20) hx hb (hts _ mi_1_104) hK hP hD hS hA (by decide) (by decide) (by decide) (Nat.le_of_ble_eq_true rfl) (Nat.le_of_ble_eq_true rfl) dX10_init_15 (fun q2 H hP hD hS => ?_)
  have hP : va_P D vwCl [(a, .inr (10, [.ref q1, .null, .int 0])), (q1, .inl (cy 0, 20, .inl (fun _ => 0))), (q2, .inl (cy 0, 20, .inl (fun _ => 0)))] H := hP
  have hD : va_D A [(a, .inr (10, [.ref q1, .null, .int 0])), (q1, .inl (cy 0, 20, .inl (fun _ => 0))), (q2, .inl (cy 0, 20, .inl (fun _ => 0)))] := hD
  refine va_putF (ci := 10) (v := .ref q2) (ty := (.array .int)) (C := RX10) (T := TX10) (N := 3) hx hb hts inX10 tyX10 tyX10_ok nmX10 hown hK.1 hP hD hS 0 rfl rfl 1 (by decide) (hts _ mi_1_183) (fun _ h9 => h9) rfl hin rfl (by decide +kernel) rfl rfl (Nat.le_of_ble_eq_true rfl) dX10_init_17 (fun H locs hP hD hS => ?_)
  have hP : va_P D vwCl [(a, .inr (10, [.ref q1, .ref q2, .int 0])), (q1, .inl (cy 0, 20, .inl (fun _ => 0))), (q2, .inl (cy 0, 20, .inl (fun _ => 0)))] H := hP
  have hD : va_D A [(a, .inr (10, [.ref q1, .ref q2, .int 0])), (q1, .inl (cy 0, 20, .inl (fun _ => 0))), (q2, .inl (cy 0, 20, .inl (fun _ => 0)))] := hD
  exact e_RN (fun z => match z with | 0 => a | 1 => q1 | 2 => q2 | _ => 0) hx hb hr hk rfl (hP.sub [0, 1, 2] rfl) (hD.sub [0, 1, 2] (by decide) rfl) hS ⟨Nat.le_of_ble_eq_true rfl, Nat.le_of_ble_eq_true rfl⟩ dX10_init_20
