/-! keep and undo: the class's contracts -/
section KP2
variable {p : Program} {l : Launch} {e : Env} {R : Room} {s : State} {m : MethodId} {args : Array Value} {below : List Frame} {meth : Method} {c : Code} {H : Heap} {locs : List Loc} {cells slots : Nat} {Q : State → Prop}
variable {cc : ByteArray} {pc : Nat} {ls : Array Slot} {rest : List Value} {D : va_G} {A : Nat → Prop} {cy : Nat → ClassId} {ws : va_W}
abbrev qRG (D : va_G) (below : List Frame) (args : Array Value) (s : State) (mc ms : Nat) (A : Nat → Prop) (B : Int32 → va_W → Prop) : State → Prop := MQ below (va_Qi (fun r (w : va_W) => B r w) (fun w t => va_P D vwCl w t.heap ∧ va_D A w) A) args s mc ms A
theorem RG_of {y : MethodName} {b : ByteArray} {n d mc ms : Nat} {ck : ClassId} {av : List Value} {B : Int32 → va_W → Prop} (own : String) (hy : y.cls = own) (hpn : plainName y.cls = true) (hn : (lg_sl av).length ≤ n)
    (body : ∀ (p : Program) (e : Env) (s : State) (m : MethodId) (below : List Frame) (meth : Method) (c : Code) (A : Nat → Prop), cX own b (some .int) n p s m av.toArray meth c → kN D cy s → NC s → kQ D cy ck s → va_P D vwCl ws s.heap → va_D A ws → va_S A s.heap s.heap [] → (∀ q, s.heap.size ≤ q → A q) → ∀ ls : Array Slot, lv_has ls n (lv_args 0 av) → W p l e (rmN d mc ms) s m av.toArray below meth c s.heap [] 0 0 (qRG D below av.toArray s mc ms A B) (F0 m 0 ls [])) : RG l y b n d mc ms D cy ck av ws B := by
  intro sz
  refine Met.ofW (cc := b) (maxL := n) (ret := some .int) hpn rfl ?_
  intro p e s m args below meth c s₁ B0 hml hv
  obtain ⟨rfl, rfl, hK, hN, hQ, hP, hD⟩ := hv
  rw [lg_entry_eq]
  exact body p e s m below meth c _ (cX_of hy B0 hml) hK hN hQ hP hD.self va_S.rf (fun _ h => Or.inr h) _ (lv_entry av hn)
theorem e_RG {mc ms : Nat} {B : Int32 → va_W → Prop} {r : Int32} {w : va_W} (hx : p.tables.exec = Jvm.exec) (hb : c.code = cc) (hr : meth.sig.returnType = some .int) (hk : meth.locks = false) (hB : B r w) (hP : va_P D vwCl w H) (hD : va_D A w) (hS : va_S A s.heap H locs) (hc : cells ≤ mc ∧ slots ≤ ms) (hdg : decode cc pc = .ok (.ireturn, 1)) : W p l e R s m args below meth c H locs cells slots (qRG D below args s mc ms A B) (F0 m pc ls [.int r]) := by
  refine W.widen (k := mc) (n := ms) hc.1 hc.2 ?_
  exact W.iret (hlocks := hk) hx hb hr (fun t ht hW => ⟨⟨r, w, rfl, hB, by rw [ht]; exact hP, hD⟩, hS.F ht⟩) hS.2.2 hdg
variable {ck : ClassId} {u : Nat → Nat} {qk : Nat → Nat → Nat} {mk : Nat → Nat → Mem} {P k : Nat} {sm bsa bsb rd di rof pn se fo ro ra vc os li fot rot rat vct ost lit : Mem}
/-- eight are kept -/
theorem c_keepF (h8 : sm 10 0 = nI 8) : RO l yX11_keep cX11_keep 2 (some .int) 1 D cy [.ref (u 0)] (w_AU cy u sm bsa bsb rd di rof pn se fo ro ra vc os li fot rot rat vct ost lit) (-1) := by
  refine RO_of RX11 rfl (by decide) (Nat.le_of_ble_eq_true rfl) ?_
  intro p e s m below meth c C0 hK hP ls hl
  obtain ⟨hx, hb, hr, hml, hown, hts, hk⟩ := id C0
  have hl : lv_has ls 2 [(0, .ref (u 0))] := hl
  refine lv_aload_n hx hb dX11_keep_0 rfl (lv_at hl 0 rfl) ?_
  refine gf_X11_68 hx hb hts hown hK hP 0 rfl rfl dX11_keep_1 ?_
  refine lv_if_lt (tgt := 16) hx hb dX11_keep_4 (by decide) (fun c1 => ?_) (fun c1 => ?_)
  · rw [h8] at c1; exact absurd c1 (by decide)
  refine lv_aload_n hx hb dX11_keep_7 rfl (lv_at hl 0 rfl) ?_
  refine gf_X11_68 hx hb hts hown hK hP 0 rfl rfl dX11_keep_8 ?_
  refine lv_bipush (v := 8) hx hb dX11_keep_11 (by decide) ?_
  refine lv_icmp_lt (tgt := 18) hx hb dX11_keep_13 (by decide) (fun c2 => ?_) (fun c2 => ?_)
  · rw [h8] at c2; exact absurd c2 (by decide)
  refine lv_iconst (v := -1) hx hb dX11_keep_16 (by decide) ?_
  exact e_ROi hx hb hr hk dX11_keep_17 rfl
theorem c_undoF (h0 : sm 10 0 = nI 0) : RO l yX11_undo cX11_undo 3 (some .int) 1 D cy [.ref (u 0)] (w_AU cy u sm bsa bsb rd di rof pn se fo ro ra vc os li fot rot rat vct ost lit) (-1) := by
  refine RO_of RX11 rfl (by decide) (Nat.le_of_ble_eq_true rfl) ?_
  intro p e s m below meth c C0 hK hP ls hl
  obtain ⟨hx, hb, hr, hml, hown, hts, hk⟩ := id C0
  have hl : lv_has ls 3 [(0, .ref (u 0))] := hl
  refine lv_aload_n hx hb dX11_undo_0 rfl (lv_at hl 0 rfl) ?_
  refine gf_X11_68 hx hb hts hown hK hP 0 rfl rfl dX11_undo_1 ?_
  refine lv_iconst (v := 1) hx hb dX11_undo_4 (by decide) ?_
  refine lv_isub hx hb dX11_undo_5 ?_
  refine lv_istore_n (lv' := [(1, .int (sm 10 0 - 1)), (0, .ref (u 0))]) hx hb dX11_undo_6 rfl hl (by decide) rfl (fun ls hl => ?_)
  refine lv_iload_n hx hb dX11_undo_7 rfl (lv_at hl 0 rfl) ?_
  refine lv_if_lt (tgt := 17) hx hb dX11_undo_8 (by decide) (fun c1 => ?_) (fun c1 => ?_)
  · refine lv_iconst (v := -1) hx hb dX11_undo_17 (by decide) ?_
    exact e_ROi hx hb hr hk dX11_undo_18 rfl
  · rw [h0] at c1; exact absurd (show nI 0 - 1 < 0 by decide) c1
def upQ (qk : Nat → Nat → Nat) (k : Nat) (un : Nat → Nat) : Nat → Nat → Nat := fun j => if j = k then un else qk j
theorem upQ_s {un : Nat → Nat} : upQ qk k un k = un := if_pos rfl
theorem upQ_n {un : Nat → Nat} {j : Nat} (h : j ≠ k) : upQ qk k un j = qk j := if_neg h
/-- what keep leaves -/
def keB (cy : Nat → ClassId) (ck : ClassId) (u : Nat → Nat) (mk : Nat → Nat → Mem) (k : Nat) (sm bsa bsb rd di rof pn se fo ro ra vc os li fot rot rat vct ost lit : Mem) (r : Int32) (w : va_W) : Prop := r = nI (k + 1) ∧ ∃ qk' mk' P' a b c d e f, k + 1 ≤ P' ∧ P' ≤ 8 ∧ (∀ j, j < k → mk' j = mk j) ∧ mk' k = six a b c d e f ∧ CE fo ro ra vc os li a b c d e f ∧ w = KW cy u ck qk' mk' P' (upm sm 10 0 (nI (k + 1))) bsa bsb rd di rof pn se fo ro ra vc os li fot rot rat vct ost lit
theorem c_keepT (hk8 : k < 8) (hkP : k ≤ P) (hP8 : P ≤ 8) (hsm : sm 10 0 = nI k) (hfb : fo 10 0 = 0 ∨ fo 10 0 = 1) : RG l yX11_keep cX11_keep 2 4 23 289 D cy ck [.ref (u 0)] (KW cy u ck qk mk P sm bsa bsb rd di rof pn se fo ro ra vc os li fot rot rat vct ost lit) (keB cy ck u mk k sm bsa bsb rd di rof pn se fo ro ra vc os li fot rot rat vct ost lit) := by
  refine RG_of RX11 rfl (by decide) (Nat.le_of_ble_eq_true rfl) ?_
  intro p e s m below meth c A C0 hK hN hQ hP hD hS hA ls hl
  obtain ⟨hx, hb, hr, hml, hown, hts, hk⟩ := id C0
  have hl : lv_has ls 2 [(0, .ref (u 0))] := hl
  -- from 50 on
  have tail : ∀ (qk' : Nat → Nat → Nat) (mk' : Nat → Nat → Mem) (P' : Nat) (H : Heap) (locs : List Loc) (ls : Array Slot) (cells slots : Nat), k < P' → P' ≤ 8 → (∀ j, j < k → mk' j = mk j) → cells ≤ 23 → slots ≤ 289 → lv_has ls 2 [(1, .ref (qk' k 0)), (0, .ref (u 0))] → va_P D vwCl (KW cy u ck qk' mk' P' sm bsa bsb rd di rof pn se fo ro ra vc os li fot rot rat vct ost lit) H → va_D A (KW cy u ck qk' mk' P' sm bsa bsb rd di rof pn se fo ro ra vc os li fot rot rat vct ost lit) → va_S A s.heap H locs → W p l e (rmN 4 23 289) s m #[.ref (u 0)] below meth c H locs cells slots (qRG D below #[.ref (u 0)] s 23 289 A (keB cy ck u mk k sm bsa bsb rd di rof pn se fo ro ra vc os li fot rot rat vct ost lit)) (F0 m 50 ls []) := by
    intro qk' mk' P' H locs ls cells slots h1 h2 h3 h4 h5 hl hP hD hS
    refine lv_aload_n hx hb dX11_keep_50 rfl (lv_at hl 0 rfl) ?_
    refine lv_aload_n hx hb dX11_keep_51 rfl (lv_at hl 1 rfl) ?_
    refine gf_X11_57 hx hb hts hown hK hP 0 rfl rfl dX11_keep_52 ?_
    obtain ⟨a, b, c', d, e', f, o1, o2⟩ := Fi_copyFrom_e (fo := fo) (ro := ro) (ra := ra) (vc := vc) (os := os) (li := li) (fot := mk' k 0) (rot := mk' k 1) (rat := mk' k 2) (vct := mk' k 3) (ost := mk' k 4) (lit := mk' k 5) hfb
    refine k_RVV (As := [.ref (u 160)]) (rest := []) ⟨hx, hb, hml, hown, hts⟩ hK hP hD hS hA (FrS_in (a := a) (b := b) (c := c') (d := d) (e := e') (f := f) h1) (cw_X11_371 (d := 2) hts ⟨Nat.le_of_ble_eq_true rfl, Nat.le_of_ble_eq_true rfl⟩) 0 (ci := 2) rfl rfl rfl (c_X2_copyFrom l D cy (fun z => qk' k z) (fun z => qk' k (20 + z)) (fun z => qk' k (40 + z)) (fun z => qk' k (60 + z)) (fun z => qk' k (80 + z)) (fun z => qk' k (100 + z)) (fun z => u (160 + z)) (fun z => u (160 + (20 + z))) (fun z => u (160 + (40 + z))) (fun z => u (160 + (60 + z))) (fun z => u (160 + (80 + z))) (fun z => u (160 + (100 + z))) (mk' k 0) (mk' k 1) (mk' k 2) (mk' k 3) (mk' k 4) (mk' k 5) fo ro ra vc os li a b c' d e' f o1) rfl hl.1 (Nat.le_of_ble_eq_true rfl) ⟨by show cells + 0 ≤ 23; omega, by show slots + 0 ≤ 289; omega⟩ dX11_keep_55 (fun H locs hP hD hS => ?_)
    refine lv_aload_n hx hb dX11_keep_58 rfl (lv_at hl 1 rfl) ?_
    refine lv_dup hx hb dX11_keep_59 rfl ?_
    refine gf_X11_68 hx hb hts hown hK hP 0 rfl rfl dX11_keep_60 ?_
    refine lv_iconst (v := 1) hx hb dX11_keep_63 (by decide) ?_
    refine lv_iadd hx hb dX11_keep_64 ?_
    rw [hsm, nI_1]
    refine pf_X11_68 hx hb hts hown hK hP hD hS (wn := KW cy u ck qk' (upK mk' k (six a b c' d e' f)) P' (upm sm 10 0 (nI (k + 1))) bsa bsb rd di rof pn se fo ro ra vc os li fot rot rat vct ost lit) 0 rfl (Nat.le_of_ble_eq_true rfl) rfl dX11_keep_65 (fun H locs hP hD hS => ?_)
    refine lv_aload_n hx hb dX11_keep_68 rfl (lv_at hl 1 rfl) ?_
    refine gf_X11_68 hx hb hts hown hK hP 0 rfl rfl dX11_keep_69 ?_
    refine e_RG (r := nI (k + 1)) hx hb hr hk ⟨rfl, qk', upK mk' k (six a b c' d e' f), P', a, b, c', d, e', f, by omega, h2, fun j hj => ?_, ?_, o2, rfl⟩ hP hD hS ⟨h4, h5⟩ dX11_keep_72
    · unfold upK
      rw [if_neg (by omega)]
      exact h3 j hj
    · unfold upK
      rw [if_pos rfl]
  refine lv_aload_n hx hb dX11_keep_0 rfl (lv_at hl 0 rfl) ?_
  refine gf_X11_68 hx hb hts hown hK hP 0 rfl rfl dX11_keep_1 ?_
  rw [hsm]
  refine lv_if_lt (tgt := 16) hx hb dX11_keep_4 (by decide) (fun c1 => absurd c1 (nI_pos (by omega))) (fun _ => ?_)
  refine lv_aload_n hx hb dX11_keep_7 rfl (lv_at hl 0 rfl) ?_
  refine gf_X11_68 hx hb hts hown hK hP 0 rfl rfl dX11_keep_8 ?_
  rw [hsm]
  refine lv_bipush (v := 8) hx hb dX11_keep_11 (by decide) ?_
  refine lv_icmp_lt (tgt := 18) hx hb dX11_keep_13 (by decide) (fun _ => ?_) (fun c2 => absurd (show nI k < 8 from nI_lt (b := 8) (by omega) (by omega)) c2)
  refine lv_aload_n hx hb dX11_keep_18 rfl (lv_at hl 0 rfl) ?_
  refine gf_X11_64 hx hb hts hown hK hP 0 rfl rfl dX11_keep_19 ?_
  refine lv_aload_n hx hb dX11_keep_22 rfl (lv_at hl 0 rfl) ?_
  refine gf_X11_68 hx hb hts hown hK hP 0 rfl rfl dX11_keep_23 ?_
  rw [hsm]
  refine va_aldq (C := RX2) (f := fK qk P) hx hb hQ hP 66 3 rfl rfl (vin (n := 8) (by omega) (by omega)) dX11_keep_26 ?_
  rw [nI_clamp (by omega)]
  by_cases kP : k < P
  · have ef : fK qk P k = some (qk k 0) := if_pos kP
    rw [ef]
    refine lv_astore_n (x := qk k 0) (lv' := [(1, .ref (qk k 0)), (0, .ref (u 0))]) hx hb dX11_keep_27 rfl hl (by decide) rfl (fun ls hl => ?_)
    refine lv_aload_n hx hb dX11_keep_28 rfl (lv_at hl 0 rfl) ?_
    refine lv_ifnonnull (tgt := 50) hx hb dX11_keep_29 (by decide) ?_
    exact tail qk mk P s.heap [] ls 0 0 kP hP8 (fun _ _ => rfl) (by omega) (by omega) hl hP hD hS
  · have ef : fK qk P k = none := if_neg kP
    rw [ef]
    refine lv_astore_nN (lv' := [(1, .null), (0, .ref (u 0))]) hx hb dX11_keep_27 rfl hl (by decide) rfl (fun ls hl => ?_)
    refine lv_aload_nN hx hb dX11_keep_28 rfl (lv_at hl 0 rfl) ?_
    refine lv_ifnonnullN hx hb dX11_keep_29 ?_
    have kp : k = P := by omega
    subst kp
    refine k_new (C := RX2) (T := TX2) (N := 11) (ci := 2) (fs0 := [.null, .null, .null, .null, .null, .null, .null, .null, .int 0, .int 0, .int 0]) (rest := []) ⟨hx, hb, hml, hown, hts⟩ inX2 tyX2 tyX2_ok hx hb hts hown (hts _ mi_1_158) (hts _ mi_1_159) (hts _ mi_1_8) hK hN hP hD hS hA rfl (fun j hj => by rcases (show j = 0 ∨ j = 1 ∨ j = 2 ∨ j = 3 ∨ j = 4 ∨ j = 5 ∨ j = 6 ∨ j = 7 ∨ j = 8 ∨ j = 9 ∨ j = 10 by omega) with rfl | rfl | rfl | rfl | rfl | rfl | rfl | rfl | rfl | rfl | rfl <;> rfl) (n_X2 l D cy) ⟨callB_of 0 hts (wl_good mi_1_162) rfl rfl rfl (hts _ mi_1_8) (hts _ mi_1_160) (by decide +kernel) ⟨Nat.le_of_ble_eq_true rfl, Nat.le_of_ble_eq_true rfl⟩, rfl, hts _ mi_1_161⟩ hl.1 (Nat.le_of_ble_eq_true rfl) (Nat.le_of_ble_eq_true rfl) (Nat.le_of_ble_eq_true rfl) dX11_keep_32 dX11_keep_35 dX11_keep_36 (fun un H locs hP hD hS => ?_)
    refine lv_astore_n (x := un 0) (lv' := [(1, .ref (un 0)), (0, .ref (u 0))]) hx hb dX11_keep_39 rfl hl (by decide) rfl (fun ls hl => ?_)
    have asc : KW cy u ck qk mk k sm bsa bsb rd di rof pn se fo ro ra vc os li fot rot rat vct ost lit ++ w_FiU cy un (foI 20) zeM (raI 12) zeM zeM zeM = w_AU cy u sm bsa bsb rd di rof pn se fo ro ra vc os li fot rot rat vct ost lit ++ (w_kp ck (u 10) (fK qk k) ++ (cat (gK cy qk mk) 0 k ++ w_FiU cy un (foI 20) zeM (raI 12) zeM zeM zeM)) := by
      unfold KW wK
      rw [List.append_assoc, List.append_assoc]
    have hP1 : va_P D vwCl (w_AU cy u sm bsa bsb rd di rof pn se fo ro ra vc os li fot rot rat vct ost lit ++ (w_kp ck (u 10) (fK qk k) ++ (cat (gK cy qk mk) 0 k ++ w_FiU cy un (foI 20) zeM (raI 12) zeM zeM zeM))) H := by rw [← asc]; exact hP
    have hD1 : va_D A (w_AU cy u sm bsa bsb rd di rof pn se fo ro ra vc os li fot rot rat vct ost lit ++ (w_kp ck (u 10) (fK qk k) ++ (cat (gK cy qk mk) 0 k ++ w_FiU cy un (foI 20) zeM (raI 12) zeM zeM zeM))) := by rw [← asc]; exact hD
    refine lv_aload_n hx hb dX11_keep_40 rfl (lv_at hl 1 rfl) ?_
    refine gf_X11_64 hx hb hts hown hK hP1 0 rfl rfl dX11_keep_41 ?_
    refine lv_aload_n hx hb dX11_keep_44 rfl (lv_at hl 1 rfl) ?_
    refine gf_X11_68 hx hb hts hown hK hP1 0 rfl rfl dX11_keep_45 ?_
    rw [hsm]
    refine lv_aload_n hx hb dX11_keep_48 rfl (lv_at hl 0 rfl) ?_
    have atv : (w_AU cy u sm bsa bsb rd di rof pn se fo ro ra vc os li fot rot rat vct ost lit ++ (w_kp ck (u 10) (fK qk k) ++ (cat (gK cy qk mk) 0 k ++ w_FiU cy un (foI 20) zeM (raI 12) zeM zeM zeM)))[67 + (cat (gK cy qk mk) 0 k).length]? = some (un 0, .inr (2, [.ref (un (20 + 0)), .ref (un (40 + 0)), .ref (un (60 + 0)), .ref (un (80 + 0)), .ref (un (100 + 0)), .ref (un 6), .ref (un 7), .ref (un 8), .int (foI 20 8 0), .int (foI 20 9 0), .int (foI 20 10 0)])) := by
      rw [List.getElem?_append_right (by show 66 ≤ _; omega), List.getElem?_append_right (by show 1 ≤ 67 + _ - 66; omega), List.getElem?_append_right (by show _ ≤ 67 + (cat (gK cy qk mk) 0 k).length - 66 - 1; omega)]
      rw [show 67 + (cat (gK cy qk mk) 0 k).length - (w_AU cy u sm bsa bsb rd di rof pn se fo ro ra vc os li fot rot rat vct ost lit).length - (w_kp ck (u 10) (fK qk k)).length - (cat (gK cy qk mk) 0 k).length = 0 from by show 67 + (cat (gK cy qk mk) 0 k).length - 66 - 1 - _ = 0; omega]
      rfl
    refine va_astq (r := (RX2, TX2, 11)) hx hb hQ hP1 hD1 hS 66 3 (67 + (cat (gK cy qk mk) 0 k).length) 2 rfl rfl atv rfl (vin (n := 8) (by omega) (by omega)) dX11_keep_49 (fun H locs hP hD hS => ?_)
    rw [nI_clamp (by omega)] at hP hD
    have wn : w_AU cy u sm bsa bsb rd di rof pn se fo ro ra vc os li fot rot rat vct ost lit ++ (w_kp ck (u 10) (va_up (fK qk k) k (some (un 0))) ++ (cat (gK cy qk mk) 0 k ++ w_FiU cy un (foI 20) zeM (raI 12) zeM zeM zeM)) = KW cy u ck (upQ qk k un) (upK mk k (six (foI 20) zeM (raI 12) zeM zeM zeM)) (k + 1) sm bsa bsb rd di rof pn se fo ro ra vc os li fot rot rat vct ost lit := by
      unfold KW wK
      have e1 : va_up (fK qk k) k (some (un 0)) = fK (upQ qk k un) (k + 1) := funext (fun j => by
        unfold va_up fK
        by_cases z : j = k
        · subst z; rw [if_pos rfl, if_pos (by omega), upQ_s]
        · rw [if_neg z, upQ_n z]
          by_cases z2 : j < k
          · rw [if_pos z2, if_pos (by omega)]
          · rw [if_neg z2, if_neg (by omega)])
      have e2 : cat (gK cy (upQ qk k un) (upK mk k (six (foI 20) zeM (raI 12) zeM zeM zeM))) 0 (k + 1) = cat (gK cy qk mk) 0 k ++ w_FiU cy un (foI 20) zeM (raI 12) zeM zeM zeM := by
        rw [cat_add k 1 0, Nat.zero_add]
        congr 1
        · exact cat_congr k 0 (fun j _ h => by
            unfold gK upK
            rw [if_neg (by omega), upQ_n (by omega)])
        · show gK cy _ _ k ++ [] = _
          rw [List.append_nil]
          unfold gK upK
          rw [if_pos rfl, upQ_s]
          rfl
      rw [e1, e2]
    have hP2 : va_P D vwCl (KW cy u ck (upQ qk k un) (upK mk k (six (foI 20) zeM (raI 12) zeM zeM zeM)) (k + 1) sm bsa bsb rd di rof pn se fo ro ra vc os li fot rot rat vct ost lit) H := by rw [← wn]; exact hP
    have hD2 : va_D A (KW cy u ck (upQ qk k un) (upK mk k (six (foI 20) zeM (raI 12) zeM zeM zeM)) (k + 1) sm bsa bsb rd di rof pn se fo ro ra vc os li fot rot rat vct ost lit) := by rw [← wn]; exact hD
    exact tail (upQ qk k un) (upK mk k (six (foI 20) zeM (raI 12) zeM zeM zeM)) (k + 1) H locs ls _ _ (by omega) (by omega) (fun j hj => by
      unfold upK
      rw [if_neg (by omega)]) (Nat.le_of_ble_eq_true rfl) (Nat.le_of_ble_eq_true rfl) (by rw [upQ_s]; exact hl) hP2 hD2 hS
def unB (cy : Nat → ClassId) (ck : ClassId) (u : Nat → Nat) (qk : Nat → Nat → Nat) (mk : Nat → Nat → Mem) (P k : Nat) (sm bsa bsb rd di rof pn se fot rot rat vct ost lit : Mem) (r : Int32) (w : va_W) : Prop := r = nI k ∧ ∃ a b c d e f, CE (mk k 0) (mk k 1) (mk k 2) (mk k 3) (mk k 4) (mk k 5) a b c d e f ∧ w = KW cy u ck qk mk P (upm sm 10 0 (nI k)) bsa bsb rd di rof pn se a b c d e f fot rot rat vct ost lit
theorem c_undoT (hkP : k < P) (hP8 : P ≤ 8) (hsm : sm 10 0 = nI (k + 1)) (hfb : mk k 0 10 0 = 0 ∨ mk k 0 10 0 = 1) : RG l yX11_undo cX11_undo 3 4 0 0 D cy ck [.ref (u 0)] (KW cy u ck qk mk P sm bsa bsb rd di rof pn se fo ro ra vc os li fot rot rat vct ost lit) (unB cy ck u qk mk P k sm bsa bsb rd di rof pn se fot rot rat vct ost lit) := by
  refine RG_of RX11 rfl (by decide) (Nat.le_of_ble_eq_true rfl) ?_
  intro p e s m below meth c A C0 hK hN hQ hP hD hS hA ls hl
  obtain ⟨hx, hb, hr, hml, hown, hts, hk⟩ := id C0
  have hl : lv_has ls 3 [(0, .ref (u 0))] := hl
  refine lv_aload_n hx hb dX11_undo_0 rfl (lv_at hl 0 rfl) ?_
  refine gf_X11_68 hx hb hts hown hK hP 0 rfl rfl dX11_undo_1 ?_
  refine lv_iconst (v := 1) hx hb dX11_undo_4 (by decide) ?_
  refine lv_isub hx hb dX11_undo_5 ?_
  rw [show sm 10 0 - 1 = nI k from by rw [hsm]; exact pk_sub (a := k + 1) (b := 1) (by omega)]
  refine lv_istore_n (lv' := [(1, .int (nI k)), (0, .ref (u 0))]) hx hb dX11_undo_6 rfl hl (by decide) rfl (fun ls hl => ?_)
  refine lv_iload_n hx hb dX11_undo_7 rfl (lv_at hl 0 rfl) ?_
  refine lv_if_lt (tgt := 17) hx hb dX11_undo_8 (by decide) (fun c1 => absurd c1 (nI_pos (by omega))) (fun _ => ?_)
  refine lv_iload_n hx hb dX11_undo_11 rfl (lv_at hl 0 rfl) ?_
  refine lv_bipush (v := 8) hx hb dX11_undo_12 (by decide) ?_
  refine lv_icmp_lt (tgt := 19) hx hb dX11_undo_14 (by decide) (fun _ => ?_) (fun c2 => absurd (show nI k < 8 from nI_lt (b := 8) (by omega) (by omega)) c2)
  refine lv_aload_n hx hb dX11_undo_19 rfl (lv_at hl 1 rfl) ?_
  refine gf_X11_64 hx hb hts hown hK hP 0 rfl rfl dX11_undo_20 ?_
  refine lv_iload_n hx hb dX11_undo_23 rfl (lv_at hl 0 rfl) ?_
  refine va_aldq (C := RX2) (f := fK qk P) hx hb hQ hP 66 3 rfl rfl (vin (n := 8) (by omega) (by omega)) dX11_undo_24 ?_
  rw [nI_clamp (by omega)]
  have ef : fK qk P k = some (qk k 0) := if_pos hkP
  rw [ef]
  refine lv_astore_n (x := qk k 0) (lv' := [(2, .ref (qk k 0)), (1, .int (nI k)), (0, .ref (u 0))]) hx hb dX11_undo_25 rfl hl (by decide) rfl (fun ls hl => ?_)
  refine lv_aload_n hx hb dX11_undo_26 rfl (lv_at hl 0 rfl) ?_
  refine lv_ifnonnull (tgt := 32) hx hb dX11_undo_27 (by decide) ?_
  refine lv_aload_n hx hb dX11_undo_32 rfl (lv_at hl 2 rfl) ?_
  refine gf_X11_57 hx hb hts hown hK hP 0 rfl rfl dX11_undo_33 ?_
  refine lv_aload_n hx hb dX11_undo_36 rfl (lv_at hl 0 rfl) ?_
  obtain ⟨a, b, c', d, e', f, o1, o2⟩ := Fi_copyFrom_e (fo := mk k 0) (ro := mk k 1) (ra := mk k 2) (vc := mk k 3) (os := mk k 4) (li := mk k 5) (fot := fo) (rot := ro) (rat := ra) (vct := vc) (ost := os) (lit := li) hfb
  refine k_RVV (As := [.ref (qk k 0)]) (rest := []) ⟨hx, hb, hml, hown, hts⟩ hK hP hD hS hA (FrS_out (a := a) (b := b) (c := c') (d := d) (e := e') (f := f) hkP) (cw_X11_371 (d := 2) hts ⟨Nat.le_of_ble_eq_true rfl, Nat.le_of_ble_eq_true rfl⟩) 0 (ci := 2) rfl rfl rfl (c_X2_copyFrom l D cy (fun z => u (160 + z)) (fun z => u (160 + (20 + z))) (fun z => u (160 + (40 + z))) (fun z => u (160 + (60 + z))) (fun z => u (160 + (80 + z))) (fun z => u (160 + (100 + z))) (fun z => qk k z) (fun z => qk k (20 + z)) (fun z => qk k (40 + z)) (fun z => qk k (60 + z)) (fun z => qk k (80 + z)) (fun z => qk k (100 + z)) fo ro ra vc os li (mk k 0) (mk k 1) (mk k 2) (mk k 3) (mk k 4) (mk k 5) a b c' d e' f o1) rfl hl.1 (Nat.le_of_ble_eq_true rfl) ⟨Nat.le_refl _, Nat.le_refl _⟩ dX11_undo_37 (fun H locs hP hD hS => ?_)
  refine lv_aload_n hx hb dX11_undo_40 rfl (lv_at hl 2 rfl) ?_
  refine lv_iload_n hx hb dX11_undo_41 rfl (lv_at hl 1 rfl) ?_
  refine pf_X11_68 hx hb hts hown hK hP hD hS (wn := KW cy u ck qk mk P (upm sm 10 0 (nI k)) bsa bsb rd di rof pn se a b c' d e' f fot rot rat vct ost lit) 0 rfl (Nat.le_of_ble_eq_true rfl) rfl dX11_undo_42 (fun H locs hP hD hS => ?_)
  refine lv_aload_n hx hb dX11_undo_45 rfl (lv_at hl 2 rfl) ?_
  refine gf_X11_68 hx hb hts hown hK hP 0 rfl rfl dX11_undo_46 ?_
  exact e_RG (r := nI k) hx hb hr hk ⟨rfl, a, b, c', d, e', f, o2, rfl⟩ hP hD hS ⟨Nat.le_refl _, Nat.le_refl _⟩ dX11_undo_49
end KP2
