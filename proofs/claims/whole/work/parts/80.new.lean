/-! things made: rows for a constructor's body, contracts of constructors -/
def rmN (d mc ms : Nat) : Room := { frames := d, cells := mc, slots := ms, locals := 40 * d }
/-- the links to nest mates' constructors; arrays of fields -/
def NC (U : State) : Prop := va_Nw (.methodLinkNest RX11 9 yX0_init "StormSlots") U ∧ va_Nw (.methodLinkNest RX11 21 yX8_init "StormSlots") U ∧ va_Nw (.methodLinkNest RX11 28 yX1_init "StormSlots") U ∧ va_Nw (.methodLinkNest RX11 35 yX9_init "StormSlots") U ∧ va_Nw (.methodLinkNest RX11 42 yX6_init "StormSlots") U ∧ va_Nw (.methodLinkNest RX11 49 yX5_init "StormSlots") U ∧ va_Nw (.methodLinkNest RX2 11 yX9_init "StormSlots") U ∧ va_Nw (.methodLinkNest RX2 27 yX10_init "StormSlots") U ∧ va_Nw (.methodLinkNest RX2 34 yX4_init "StormSlots") U ∧ va_Nw (.methodLinkNest RX2 41 yX3_init "StormSlots") U ∧ va_AO RX2 U
theorem NC.same {u U : State} (h : u.vm = U.vm) (k : NC u) : NC U := by
  obtain ⟨a1, a2, a3, a4, a5, a6, a7, a8, a9, a10, a11⟩ := k
  exact ⟨va_Nw.same rfl h a1, va_Nw.same rfl h a2, va_Nw.same rfl h a3, va_Nw.same rfl h a4, va_Nw.same rfl h a5, va_Nw.same rfl h a6, va_Nw.same rfl h a7, va_Nw.same rfl h a8, va_Nw.same rfl h a9, va_Nw.same rfl h a10, va_AO.moved (by rw [h]; exact Vm.Alike.refl _) a11⟩
theorem NC.warm {s U : State} (hW : s.WarmedH U.vm) (k : NC s) : NC U := by
  obtain ⟨a1, a2, a3, a4, a5, a6, a7, a8, a9, a10, a11⟩ := k
  exact ⟨va_Nw.warmM hW a1, va_Nw.warmM hW a2, va_Nw.warmM hW a3, va_Nw.warmM hW a4, va_Nw.warmM hW a5, va_Nw.warmM hW a6, va_Nw.warmM hW a7, va_Nw.warmM hW a8, va_Nw.warmM hW a9, va_Nw.warmM hW a10, va_AO.moved hW.alike a11⟩
def rnP (D : va_G) (cy : Nat → ClassId) (av : List Value) (ws : va_W) (sz : Nat) : Array Value → State → Prop := va_Pc av (fun U => U.heap.size = sz ∧ kN D cy U ∧ NC U ∧ va_P D vwCl ws U.heap ∧ va_D (fun _ => True) ws)
theorem rnP_blind {D : va_G} {cy : Nat → ClassId} {av : List Value} {ws : va_W} {sz : Nat} : FrameBlind (rnP D cy av ws sz) := fun a U g mk q => by
  obtain ⟨q0, q1, qK, qN, qP, qD⟩ := q
  exact ⟨q0, q1, qK.call, qN.same rfl, qP, qD⟩
/-- a constructor: of the blank cell at a it makes the world wf u -/
def RN (l : Launch) (y : MethodName) (b : ByteArray) (n d mc ms : Nat) (D : va_G) (cy : Nat → ClassId) (ci : Nat) (fs0 : List Value) (wf : (Nat → Nat) → va_W) : Prop :=
  ∀ a sz : Nat, Met l y (wl y b n none) (rmN d mc ms) (rnP D cy [.ref a] [(a, .inr (ci, fs0))] sz) (va_Qv (fun u : Nat → Nat => u 0 = a) (fun u t => va_P D vwCl (wf u) t.heap ∧ va_D (va_A [(a, .inr (ci, fs0))] sz) (wf u)) (va_A [(a, .inr (ci, fs0))] sz)) mc ms (va_A [(a, .inr (ci, fs0))] sz)
section RNS
variable {p : Program} {l : Launch} {e : Env} {R : Room} {s : State} {m : MethodId} {args : Array Value} {below : List Frame} {meth : Method} {c : Code} {H : Heap} {locs : List Loc} {cells slots : Nat} {Q : State → Prop}
variable {cc : ByteArray} {pc : Nat} {ls : Array Slot} {rest : List Value} {D : va_G} {A : Nat → Prop} {a : Nat} {cy : Nat → ClassId} {ws : va_W} {H0 : Heap}
abbrev qRN (D : va_G) (below : List Frame) (args : Array Value) (s : State) (mc ms : Nat) (A : Nat → Prop) (a : Nat) (wf : (Nat → Nat) → va_W) : State → Prop := MQ below (va_Qv (fun u : Nat → Nat => u 0 = a) (fun u t => va_P D vwCl (wf u) t.heap ∧ va_D A (wf u)) A) args s mc ms A
theorem RN_of {y : MethodName} {b : ByteArray} {n d mc ms ci : Nat} {fs0 : List Value} {wf : (Nat → Nat) → va_W} (own : String) (hy : y.cls = own) (hpn : plainName y.cls = true) (hi : y.name = "<init>") (hn : 1 ≤ n)
    (body : ∀ (p : Program) (e : Env) (s : State) (m : MethodId) (below : List Frame) (meth : Method) (c : Code) (a : Nat) (A : Nat → Prop), meth.name = "<init>" → cX own b none n p s m #[.ref a] meth c → kN D cy s → NC s → va_P D vwCl [(a, .inr (ci, fs0))] s.heap → va_D A [(a, .inr (ci, fs0))] → va_S A s.heap s.heap [] → (∀ q, s.heap.size ≤ q → A q) → ∀ ls : Array Slot, lv_has ls n [(0, .ref a)] → W p l e (rmN d mc ms) s m #[.ref a] below meth c s.heap [] 0 0 (qRN D below #[.ref a] s mc ms A a wf) (F0 m 0 ls [])) : RN l y b n d mc ms D cy ci fs0 wf := by
  intro a sz
  refine Met.ofW (cc := b) (maxL := n) (ret := none) hpn rfl ?_
  intro p e s m args below meth c s₁ B hml hv
  obtain ⟨rfl, rfl, hK, hN, hP, hD⟩ := hv
  have hin : meth.name = "<init>" := by rw [← hi]; exact (name_of_methodNamed B.named B.method).1
  rw [lg_entry_eq]
  exact body p e s m below meth c a _ hin (cX_of hy B hml) hK hN hP hD.self va_S.rf (fun _ h => Or.inr h) _ (lv_entry [.ref a] hn)
theorem e_RN {mc ms : Nat} {wf : (Nat → Nat) → va_W} (u : Nat → Nat) (hx : p.tables.exec = Jvm.exec) (hb : c.code = cc) (hr : meth.sig.returnType = none) (hk : meth.locks = false) (hu : u 0 = a) (hP : va_P D vwCl (wf u) H) (hD : va_D A (wf u)) (hS : va_S A s.heap H locs) (hc : cells ≤ mc ∧ slots ≤ ms) (hdg : decode cc pc = .ok (.return_, 1)) : W p l e R s m args below meth c H locs cells slots (qRN D below args s mc ms A a wf) (F0 m pc ls []) := by
  refine W.widen (k := mc) (n := ms) hc.1 hc.2 ?_
  exact W.vret (hlocks := hk) hx hb hr (fun t ht hW => ⟨⟨u, rfl, hu, by rw [ht]; exact hP, hD⟩, hS.F ht⟩) hS.2.2 hdg
/-- arrays made -/
theorem r_newI {n : Int32} {N' : Nat} (hx : p.tables.exec = Jvm.exec) (hb : c.code = cc) (harr : (Cond.arrayClass .int).before args s = true) (hK : kN D cy s) (hP : va_P D vwCl ws H) (hD : va_D A ws) (hS : va_S A H0 H locs) (hA : ∀ q, H0.size ≤ q → A q) (hn : ¬ n < 0) (hN : n.toNatClampNeg = N') (hbytes : N' * componentBytes .int ≤ 536870912) (hcells : cells + 1 ≤ R.cells) (hslots : slots + N' ≤ R.slots) (hdg : decode cc pc = .ok (.newarray .int, 2))
    (kk : ∀ (q : Nat) (H1 : Heap), va_P D vwCl (ws ++ [(q, .inl (cy 0, N', .inl (fun _ => 0)))]) H1 → va_D A (ws ++ [(q, .inl (cy 0, N', .inl (fun _ => 0)))]) → va_S A H0 H1 locs → W p l e R s m args below meth c H1 locs (cells + 1) (slots + N') Q (F0 m (pc + 2) ls (.ref q :: rest))) : W p l e R s m args below meth c H locs cells slots Q (F0 m pc ls (.int n :: rest)) := by
  refine va_newa (atype := .int) (ty := .int) (a0 := (N', .inl (fun _ => 0))) hx hb harr rfl hK.1 hP hD hS hA (fun cA => rfl) hn hN hbytes hcells hslots hdg (fun q cA H1 hK1 hP1 hD1 hS1 => ?_)
  have h1 : va_RA s cA .int := (hK1.2 3 (cA, .int) rfl).2
  have h0 : va_RA s (cy 0) .int := (hK.1.2 0 (cy 0, .int) rfl).2
  have e : cA = cy 0 := Option.some.inj ((show s.vm.findClass _ = some cA from h1).symm.trans h0)
  subst e
  exact kk q H1 hP1 hD1 hS1
theorem r_newB {n : Int32} {N' : Nat} (hx : p.tables.exec = Jvm.exec) (hb : c.code = cc) (harr : (Cond.arrayClass .byte).before args s = true) (hK : kN D cy s) (hP : va_P D vwCl ws H) (hD : va_D A ws) (hS : va_S A H0 H locs) (hA : ∀ q, H0.size ≤ q → A q) (hn : ¬ n < 0) (hN : n.toNatClampNeg = N') (hbytes : N' * componentBytes .byte ≤ 536870912) (hcells : cells + 1 ≤ R.cells) (hslots : slots + N' ≤ R.slots) (hdg : decode cc pc = .ok (.newarray .byte, 2))
    (kk : ∀ (q : Nat) (H1 : Heap), va_P D vwCl (ws ++ [(q, .inl (cy 1, N', .inl (fun _ => 0)))]) H1 → va_D A (ws ++ [(q, .inl (cy 1, N', .inl (fun _ => 0)))]) → va_S A H0 H1 locs → W p l e R s m args below meth c H1 locs (cells + 1) (slots + N') Q (F0 m (pc + 2) ls (.ref q :: rest))) : W p l e R s m args below meth c H locs cells slots Q (F0 m pc ls (.int n :: rest)) := by
  refine va_newa (atype := .byte) (ty := .byte) (a0 := (N', .inl (fun _ => 0))) hx hb harr rfl hK.1 hP hD hS hA (fun cA => rfl) hn hN hbytes hcells hslots hdg (fun q cA H1 hK1 hP1 hD1 hS1 => ?_)
  have h1 : va_RA s cA .byte := (hK1.2 3 (cA, .byte) rfl).2
  have h0 : va_RA s (cy 1) .byte := (hK.1.2 1 (cy 1, .byte) rfl).2
  have e : cA = cy 1 := Option.some.inj ((show s.vm.findClass _ = some cA from h1).symm.trans h0)
  subst e
  exact kk q H1 hP1 hD1 hS1
theorem r_newZ {n : Int32} {N' : Nat} (hx : p.tables.exec = Jvm.exec) (hb : c.code = cc) (harr : (Cond.arrayClass .boolean).before args s = true) (hK : kN D cy s) (hP : va_P D vwCl ws H) (hD : va_D A ws) (hS : va_S A H0 H locs) (hA : ∀ q, H0.size ≤ q → A q) (hn : ¬ n < 0) (hN : n.toNatClampNeg = N') (hbytes : N' * componentBytes .boolean ≤ 536870912) (hcells : cells + 1 ≤ R.cells) (hslots : slots + N' ≤ R.slots) (hdg : decode cc pc = .ok (.newarray .boolean, 2))
    (kk : ∀ (q : Nat) (H1 : Heap), va_P D vwCl (ws ++ [(q, .inl (cy 2, N', .inl (fun _ => 0)))]) H1 → va_D A (ws ++ [(q, .inl (cy 2, N', .inl (fun _ => 0)))]) → va_S A H0 H1 locs → W p l e R s m args below meth c H1 locs (cells + 1) (slots + N') Q (F0 m (pc + 2) ls (.ref q :: rest))) : W p l e R s m args below meth c H locs cells slots Q (F0 m pc ls (.int n :: rest)) := by
  refine va_newa (atype := .boolean) (ty := .boolean) (a0 := (N', .inl (fun _ => 0))) hx hb harr rfl hK.1 hP hD hS hA (fun cA => rfl) hn hN hbytes hcells hslots hdg (fun q cA H1 hK1 hP1 hD1 hS1 => ?_)
  have h1 : va_RA s cA .boolean := (hK1.2 3 (cA, .boolean) rfl).2
  have h0 : va_RA s (cy 2) .boolean := (hK.1.2 2 (cy 2, .boolean) rfl).2
  have e : cA = cy 2 := Option.some.inj ((show s.vm.findClass _ = some cA from h1).symm.trans h0)
  subst e
  exact kk q H1 hP1 hD1 hS1
/-- a world beside one that was made -/
theorem nw_join {ws w1 : va_W} {q ci : Nat} {fs0 : List Value} {H H1 : Heap} (hP : va_P D vwCl (ws ++ [(q, .inr (ci, fs0))]) H) (hD : va_D A (ws ++ [(q, .inr (ci, fs0))])) (hA : ∀ x, va_A [(q, .inr (ci, fs0))] H.size x → A x) (hk : ∀ x : Nat, x < H.size → ¬ va_A [(q, .inr (ci, fs0))] H.size x → H1[x]? = H[x]?) (hP1 : va_P D vwCl w1 H1) (hD1 : va_D (va_A [(q, .inr (ci, fs0))] H.size) w1) : va_P D vwCl (ws ++ w1) H1 ∧ va_D A (ws ++ w1) := by
  have hq : (ws ++ [(q, .inr (ci, fs0))])[ws.length]? = some (q, .inr (ci, fs0)) := by simp
  have at1 : ∀ (k : Nat) (z : Nat × va_E), ws[k]? = some z → (ws ++ [(q, .inr (ci, fs0))])[k]? = some z := fun k z h => by
    rw [List.getElem?_append_left (List.getElem?_eq_some_iff.mp h).1]; exact h
  have lt : ∀ (k : Nat) (z : Nat × va_E), ws[k]? = some z → z.1 < H.size ∧ ¬ va_A [(q, .inr (ci, fs0))] H.size z.1 := fun k z h => by
    have l1 := (hP k z (at1 k z h)).lt
    refine ⟨l1, fun w => ?_⟩
    rcases w with ⟨k2, e2, w⟩ | w
    · have hz : k2 < 1 := (List.getElem?_eq_some_iff.mp w).1
      rw [show k2 = 0 by omega] at w
      have w1 : (q, (.inr (ci, fs0) : va_E)) = (z.1, e2) := Option.some.inj w
      have w2 : q = z.1 := congrArg Prod.fst w1
      have e := hD.1 k ws.length z _ (at1 k z h) hq w2.symm
      have := (List.getElem?_eq_some_iff.mp h).1
      omega
    · omega
  have hPw : va_P D vwCl ws H := fun k z h => hP k z (at1 k z h)
  have hDw : va_D A ws := ⟨fun i j p' q' h1 h2 e => hD.1 i j p' q' (at1 i p' h1) (at1 j q' h2) e, fun k z h => hD.2 k z (at1 k z h)⟩
  refine ⟨(hPw.kept (fun k z h => hk z.1 (lt k z h).1 (lt k z h).2)).app hP1, hDw.app (hD1.weaken (fun _ z _ h => hA z.1 h)) (fun i j p' q' h1 h2 e => ?_)⟩
  have h3 := hD1.2 j q' h2
  rw [← e] at h3
  exact (lt i p' h1).2 h3
end RNS
