/-! my own rows: a uniform world, pure answers in Option, thin rows over the kit's -/
abbrev Mem : Type := Nat → Nat → Int32
def upm (M : Mem) (k i : Nat) (v : Int32) : Mem := fun k' => if k' = k then upd (M k) i v else M k'
def upA (M : Mem) (k : Nat) (g : Nat → Int32) : Mem := fun k' => if k' = k then g else M k'
def fl : Nat := 1000000
def ckI {α : Type} (i : Int32) (n : Nat) (x : Option α) : Option α := if (i < 0 ∨ n ≤ i.toNatClampNeg) then none else x
def ckD {α : Type} (y : Int32) (x : Option α) : Option α := if y = 0 then none else x
def ckB {α : Type} (y : Int32) (x : Option α) : Option α := if y = 0 ∨ y = 1 then x else none
def stk {α β : Type} (x : α) (f : α → β) : β := f x
def bn1 {α γ : Type} (x : Option α) (f : α → Option γ) : Option γ := match x with
  | some a => f a
  | none => none
def bn2 {α β γ : Type} (x : Option (α × β)) (f : α → β → Option γ) : Option γ := match x with
  | some (a, b) => f a b
  | none => none
def bn3 {α β δ γ : Type} (x : Option (α × β × δ)) (f : α → β → δ → Option γ) : Option γ := match x with
  | some (a, b, d) => f a b d
  | none => none
def bn4 {α β δ ε γ : Type} (x : Option (α × β × δ × ε)) (f : α → β → δ → ε → Option γ) : Option γ := match x with
  | some (a, b, d, e) => f a b d e
  | none => none
def bn5 {α β δ ε ζ γ : Type} (x : Option (α × β × δ × ε × ζ)) (f : α → β → δ → ε → ζ → Option γ) : Option γ := match x with
  | some (a, b, d, e, z) => f a b d e z
  | none => none
def bn6 {α β δ ε ζ η γ : Type} (x : Option (α × β × δ × ε × ζ × η)) (f : α → β → δ → ε → ζ → η → Option γ) : Option γ := match x with
  | some (a, b, d, e, z, y) => f a b d e z y
  | none => none
def bn7 {α β δ ε ζ η θ γ : Type} (x : Option (α × β × δ × ε × ζ × η × θ)) (f : α → β → δ → ε → ζ → η → θ → Option γ) : Option γ := match x with
  | some (a, b, d, e, z, y, t) => f a b d e z y t
  | none => none
theorem ckI_s {α : Type} {i : Int32} {n : Nat} {x : Option α} {r : α} (h : ckI i n x = some r) : vp_in i n ∧ x = some r := by
  unfold ckI at h
  split at h
  · cases h
  · rename_i q; exact ⟨q, h⟩
theorem ckI_ok {α : Type} {i : Int32} {n : Nat} (x : Option α) (h : vp_in i n) : ckI i n x = x := by unfold ckI; exact if_neg h
theorem ckD_s {α : Type} {y : Int32} {x : Option α} {r : α} (h : ckD y x = some r) : ¬ y = 0 ∧ x = some r := by
  unfold ckD at h
  split at h
  · cases h
  · rename_i q; exact ⟨q, h⟩
theorem ckD_ok {α : Type} {y : Int32} (x : Option α) (h : ¬ y = 0) : ckD y x = x := by unfold ckD; exact if_neg h
theorem ckB_s {α : Type} {y : Int32} {x : Option α} {r : α} (h : ckB y x = some r) : (y = 0 ∨ y = 1) ∧ x = some r := by
  unfold ckB at h
  split at h
  · rename_i q; exact ⟨q, h⟩
  · cases h
theorem ckB_ok {α : Type} {y : Int32} (x : Option α) (h : y = 0 ∨ y = 1) : ckB y x = x := by unfold ckB; exact if_pos h
theorem stk_e {α β : Type} {x y : α} {f : α → β} {r : β} (h : stk x f = r) (e : y = x) : f y = r := by rw [e]; exact h
theorem ite_p {α : Type} {c : Prop} [Decidable c] {A B r : α} (h : (if c then A else B) = r) (q : c) : A = r := by rw [if_pos q] at h; exact h
theorem ite_n {α : Type} {c : Prop} [Decidable c] {A B r : α} (h : (if c then A else B) = r) (q : ¬ c) : B = r := by rw [if_neg q] at h; exact h
theorem bn1_s {α γ : Type} {x : Option α} {f : α → Option γ} {r : γ} (h : bn1 x f = some r) : ∃ a, x = some a ∧ f a = some r := by
  cases x with
  | none => cases h
  | some a => exact ⟨a, rfl, h⟩
theorem bn2_s {α β γ : Type} {x : Option (α × β)} {f : α → β → Option γ} {r : γ} (h : bn2 x f = some r) : ∃ a b, x = some (a, b) ∧ f a b = some r := by
  cases x with
  | none => cases h
  | some a => exact ⟨a.1, a.2, rfl, h⟩
theorem bn3_s {α β δ γ : Type} {x : Option (α × β × δ)} {f : α → β → δ → Option γ} {r : γ} (h : bn3 x f = some r) : ∃ a b d, x = some (a, b, d) ∧ f a b d = some r := by
  cases x with
  | none => cases h
  | some a => exact ⟨a.1, a.2.1, a.2.2, rfl, h⟩
theorem bn4_s {α β δ ε γ : Type} {x : Option (α × β × δ × ε)} {f : α → β → δ → ε → Option γ} {r : γ} (h : bn4 x f = some r) : ∃ a b d e, x = some (a, b, d, e) ∧ f a b d e = some r := by
  cases x with
  | none => cases h
  | some a => exact ⟨a.1, a.2.1, a.2.2.1, a.2.2.2, rfl, h⟩
theorem bn5_s {α β δ ε ζ γ : Type} {x : Option (α × β × δ × ε × ζ)} {f : α → β → δ → ε → ζ → Option γ} {r : γ} (h : bn5 x f = some r) : ∃ a b d e z, x = some (a, b, d, e, z) ∧ f a b d e z = some r := by
  cases x with
  | none => cases h
  | some a => exact ⟨a.1, a.2.1, a.2.2.1, a.2.2.2.1, a.2.2.2.2, rfl, h⟩
theorem bn6_s {α β δ ε ζ η γ : Type} {x : Option (α × β × δ × ε × ζ × η)} {f : α → β → δ → ε → ζ → η → Option γ} {r : γ} (h : bn6 x f = some r) : ∃ a b d e z y, x = some (a, b, d, e, z, y) ∧ f a b d e z y = some r := by
  cases x with
  | none => cases h
  | some a => exact ⟨a.1, a.2.1, a.2.2.1, a.2.2.2.1, a.2.2.2.2.1, a.2.2.2.2.2, rfl, h⟩
theorem bn7_s {α β δ ε ζ η θ γ : Type} {x : Option (α × β × δ × ε × ζ × η × θ)} {f : α → β → δ → ε → ζ → η → θ → Option γ} {r : γ} (h : bn7 x f = some r) : ∃ a b d e z y t, x = some (a, b, d, e, z, y, t) ∧ f a b d e z y t = some r := by
  cases x with
  | none => cases h
  | some a => exact ⟨a.1, a.2.1, a.2.2.1, a.2.2.2.1, a.2.2.2.2.1, a.2.2.2.2.2.1, a.2.2.2.2.2.2, rfl, h⟩
theorem nar_b {v : Int32} (h : v = 0 ∨ v = 1) : narrow .boolean (.int v) = .int v := by
  rcases h with rfl | rfl <;> decide +kernel
theorem ne_toInt {x k : Int32} (h : ¬ x = k) : x.toInt ≠ k.toInt := fun e => h (Int32.toInt_inj.mp e)
/-! words, room, contracts -/
def wl (y : MethodName) (b : ByteArray) (n : Nat) (ret : Option FieldType) : List Cond := Cond.code y b n ret :: tb
/-- the two links to a nest mate's private method that methods need -/
def NW (U : State) : Prop := va_Nw (.methodLinkNest RX7 15 yX11_isHour "StormSlots") U ∧ va_Nw (.methodLinkNest RX6 140 yX11_isMinute "StormSlots") U
theorem NW.same {u U : State} (h : u.vm = U.vm) (k : NW u) : NW U := ⟨va_Nw.same rfl h k.1, va_Nw.same rfl h k.2⟩
theorem NW.warm {s U : State} (hW : s.WarmedH U.vm) (k : NW s) : NW U := ⟨va_Nw.warmM hW k.1, va_Nw.warmM hW k.2⟩
def rmD (d : Nat) : Room := { frames := d, cells := 0, slots := 0, locals := 40 * d }
abbrev tyL (cy : Nat → ClassId) : List (ClassId × FieldType) := [(cy 0, .int), (cy 1, .byte), (cy 2, .boolean)]
def kN (D : va_G) (cy : Nat → ClassId) (U : State) : Prop := va_K D vwCl (tyL cy) U ∧ NW U
theorem kN.warm {D : va_G} {cy : Nat → ClassId} {s U : State} (hW : s.WarmedH U.vm) (k : kN D cy s) : kN D cy U := ⟨va_K.moved hW.alike k.1, k.2.warm hW⟩
theorem kN.call {D : va_G} {cy : Nat → ClassId} {U : State} {g : JFrame} {mk : MethodId} {a : Array Value} (k : kN D cy U) : kN D cy (U.calling g mk a) := ⟨va_K.moved (u := U) (U := U.calling g mk a) (Vm.Alike.refl U.vm) k.1, k.2.same rfl⟩
def roP (D : va_G) (cy : Nat → ClassId) (av : List Value) (ws : va_W) : Array Value → State → Prop := va_Pc av (fun U => kN D cy U ∧ va_P D vwCl ws U.heap)
/-- a method that writes nothing: its answer is r -/
def RO (l : Launch) (y : MethodName) (b : ByteArray) (n : Nat) (ret : Option FieldType) (d : Nat) (D : va_G) (cy : Nat → ClassId) (av : List Value) (ws : va_W) (r : Int32) : Prop :=
  Met l y (wl y b n ret) (rmD d) (roP D cy av ws) (vp_Si (fun r' => r' = r)) 0 0 (fun _ => False)
def rwP (D : va_G) (cy : Nat → ClassId) (av : List Value) (ws : va_W) (sz : Nat) : Array Value → State → Prop := va_Pc av (fun U => U.heap.size = sz ∧ kN D cy U ∧ va_P D vwCl ws U.heap ∧ va_D (fun _ => True) ws)
def rwB (D : va_G) (ws' : va_W) (A : Nat → Prop) (_ : Unit) (t : State) : Prop := va_P D vwCl ws' t.heap ∧ va_D A ws'
/-- a method that writes: the world ws becomes ws', the answer is r -/
def RI (l : Launch) (y : MethodName) (b : ByteArray) (n : Nat) (ret : Option FieldType) (d : Nat) (D : va_G) (cy : Nat → ClassId) (av : List Value) (ws ws' : va_W) (r : Int32) : Prop :=
  ∀ sz : Nat, Met l y (wl y b n ret) (rmD d) (rwP D cy av ws sz) (va_Qi (fun r' _ => r' = r) (rwB D ws' (va_A ws sz)) (va_A ws sz)) 0 0 (va_A ws sz)
def RV (l : Launch) (y : MethodName) (b : ByteArray) (n : Nat) (d : Nat) (D : va_G) (cy : Nat → ClassId) (av : List Value) (ws ws' : va_W) : Prop :=
  ∀ sz : Nat, Met l y (wl y b n none) (rmD d) (rwP D cy av ws sz) (va_Qv (fun _ => True) (rwB D ws' (va_A ws sz)) (va_A ws sz)) 0 0 (va_A ws sz)
theorem roP_blind {D : va_G} {cy : Nat → ClassId} {av : List Value} {ws : va_W} : FrameBlind (roP D cy av ws) := fun a U g mk q => by
  obtain ⟨q0, qK, qP⟩ := q
  exact ⟨q0, qK.call, qP⟩
theorem rwP_blind {D : va_G} {cy : Nat → ClassId} {av : List Value} {ws : va_W} {sz : Nat} : FrameBlind (rwP D cy av ws sz) := fun a U g mk q => by
  obtain ⟨q0, q1, qK, qP, qD⟩ := q
  exact ⟨q0, q1, qK.call, qP, qD⟩
theorem wl_good {y : MethodName} {b : ByteArray} {n : Nat} {ret : Option FieldType} (h : Cond.code y b n ret ∈ tb) : GoodIn tb (wl y b n ret) := by
  intro w hw
  have hm : w ∈ tb := by
    rcases List.mem_cons.mp hw with e | h1
    · rw [e]; exact h
    · exact h1
  exact ⟨hm, good_of_word (tb_good hm)⟩
theorem wsV_good {own C : String} {idx : Nat} {y : MethodName} {b : ByteArray} {n : Nat} {ret : Option FieldType} (h1 : Cond.methodLink own idx y ∈ tb) (h2 : Cond.instanceMethod y ∈ tb) (h3 : Cond.selects C y y ∈ tb) (h4 : Cond.initialized C ∈ tb) (h : Cond.code y b n ret ∈ tb) : GoodIn tb (wsV own idx C y (wl y b n ret)) := by
  intro w hw
  rcases List.mem_append.mp hw with hw | hw
  · have hm : w ∈ tb := by
      simp only [List.mem_cons, List.not_mem_nil, or_false] at hw
      rcases hw with e | e | e | e <;> rw [e] <;> assumption
    exact ⟨hm, good_of_word (tb_good hm)⟩
  · exact wl_good h w hw
theorem wsS_good {own : String} {idx : Nat} {y : MethodName} {b : ByteArray} {n : Nat} {ret : Option FieldType} (h1 : Cond.methodLink own idx y ∈ tb) (h2 : Cond.static y ∈ tb) (h4 : Cond.initialized own ∈ tb) (h : Cond.code y b n ret ∈ tb) : GoodIn tb (wsS own idx y (wl y b n ret)) := by
  intro w hw
  rcases List.mem_append.mp hw with hw | hw
  · have hm : w ∈ tb := by
      simp only [List.mem_cons, List.not_mem_nil, or_false] at hw
      rcases hw with e | e | e <;> rw [e] <;> assumption
    exact ⟨hm, good_of_word (tb_good hm)⟩
  · exact wl_good h w hw
section RWS
variable {p : Program} {l : Launch} {e : Env} {R : Room} {s : State} {m : MethodId} {args : Array Value} {below : List Frame} {meth : Method} {c : Code} {H : Heap} {locs : List Loc} {cells slots : Nat} {Q : State → Prop}
variable {cc : ByteArray} {pc : Nat} {ls : Array Slot} {rest : List Value} {D : va_G} {A : Nat → Prop} {a : Nat} {cy : Nat → ClassId} {ws : va_W} {H0 : Heap}
/-- what a walk of a method's body stands on -/
def cX (own : String) (b : ByteArray) (ret : Option FieldType) (n : Nat) (p : Program) (s : State) (m : MethodId) (args : Array Value) (meth : Method) (c : Code) : Prop :=
  p.tables.exec = Jvm.exec ∧ c.code = b ∧ meth.sig.returnType = ret ∧ c.maxLocals = n ∧ s.vm.findClass own = some m.cls ∧ (∀ w ∈ tb, w.before args s = true) ∧ meth.locks = false
theorem cX_of {own : String} {y : MethodName} {b : ByteArray} {ret : Option FieldType} {n : Nat} {rm : Room} {s₁ : State} (hy : y.cls = own) (B : BodyLoose p l y (headSpec (wl y b n ret) rm) b n ret e s m args below meth c s₁) (hml : c.maxLocals = n) : cX own b ret n p s m args meth c :=
  ⟨B.exec, B.bytes, B.returns, hml, hy ▸ findClass_of_methodNamed B.named, fun w hw => atoms_spec (ws := wl y b n ret) B.pre w (List.mem_cons_of_mem _ hw), B.notSynchronized⟩
abbrev qRO (below : List Frame) (args : Array Value) (s : State) (r : Int32) : State → Prop := MQ below (vp_Si (fun r' => r' = r)) args s 0 0 (fun _ => False)
abbrev qRI (D : va_G) (below : List Frame) (args : Array Value) (s : State) (A : Nat → Prop) (ws' : va_W) (r : Int32) : State → Prop := MQ below (va_Qi (fun r' _ => r' = r) (rwB D ws' A) A) args s 0 0 A
abbrev qRV (D : va_G) (below : List Frame) (args : Array Value) (s : State) (A : Nat → Prop) (ws' : va_W) : State → Prop := MQ below (va_Qv (fun _ => True) (rwB D ws' A) A) args s 0 0 A
/-- contracts out of walks -/
theorem RO_of {y : MethodName} {b : ByteArray} {n d : Nat} {ret : Option FieldType} {av : List Value} {r : Int32} (own : String) (hy : y.cls = own) (hpn : plainName y.cls = true) (hn : (lg_sl av).length ≤ n)
    (body : ∀ (p : Program) (e : Env) (s : State) (m : MethodId) (below : List Frame) (meth : Method) (c : Code), cX own b ret n p s m av.toArray meth c → kN D cy s → va_P D vwCl ws s.heap → ∀ ls : Array Slot, lv_has ls n (lv_args 0 av) → W p l e (rmD d) s m av.toArray below meth c s.heap [] 0 0 (qRO below av.toArray s r) (F0 m 0 ls [])) : RO l y b n ret d D cy av ws r := by
  refine Met.ofW (cc := b) (maxL := n) (ret := ret) hpn rfl ?_
  intro p e s m args below meth c s₁ B hml hv
  obtain ⟨rfl, hK, hP⟩ := hv
  rw [lg_entry_eq]
  exact body p e s m below meth c (cX_of hy B hml) hK hP _ (lv_entry av hn)
theorem RI_of {y : MethodName} {b : ByteArray} {n d : Nat} {ret : Option FieldType} {av : List Value} {ws' : va_W} {r : Int32} (own : String) (hy : y.cls = own) (hpn : plainName y.cls = true) (hn : (lg_sl av).length ≤ n)
    (body : ∀ (p : Program) (e : Env) (s : State) (m : MethodId) (below : List Frame) (meth : Method) (c : Code) (A : Nat → Prop), cX own b ret n p s m av.toArray meth c → kN D cy s → va_P D vwCl ws s.heap → va_D A ws → va_S A s.heap s.heap [] → (∀ q, s.heap.size ≤ q → A q) → ∀ ls : Array Slot, lv_has ls n (lv_args 0 av) → W p l e (rmD d) s m av.toArray below meth c s.heap [] 0 0 (qRI D below av.toArray s A ws' r) (F0 m 0 ls [])) : RI l y b n ret d D cy av ws ws' r := by
  intro sz
  refine Met.ofW (cc := b) (maxL := n) (ret := ret) hpn rfl ?_
  intro p e s m args below meth c s₁ B hml hv
  obtain ⟨rfl, rfl, hK, hP, hD⟩ := hv
  rw [lg_entry_eq]
  exact body p e s m below meth c _ (cX_of hy B hml) hK hP hD.self va_S.rf (fun _ h => Or.inr h) _ (lv_entry av hn)
theorem RV_of {y : MethodName} {b : ByteArray} {n d : Nat} {av : List Value} {ws' : va_W} (own : String) (hy : y.cls = own) (hpn : plainName y.cls = true) (hn : (lg_sl av).length ≤ n)
    (body : ∀ (p : Program) (e : Env) (s : State) (m : MethodId) (below : List Frame) (meth : Method) (c : Code) (A : Nat → Prop), cX own b none n p s m av.toArray meth c → kN D cy s → va_P D vwCl ws s.heap → va_D A ws → va_S A s.heap s.heap [] → (∀ q, s.heap.size ≤ q → A q) → ∀ ls : Array Slot, lv_has ls n (lv_args 0 av) → W p l e (rmD d) s m av.toArray below meth c s.heap [] 0 0 (qRV D below av.toArray s A ws') (F0 m 0 ls [])) : RV l y b n d D cy av ws ws' := by
  intro sz
  refine Met.ofW (cc := b) (maxL := n) (ret := none) hpn rfl ?_
  intro p e s m args below meth c s₁ B hml hv
  obtain ⟨rfl, rfl, hK, hP, hD⟩ := hv
  rw [lg_entry_eq]
  exact body p e s m below meth c _ (cX_of hy B hml) hK hP hD.self va_S.rf (fun _ h => Or.inr h) _ (lv_entry av hn)
/-- ends -/
theorem e_ROi {r v : Int32} (hx : p.tables.exec = Jvm.exec) (hb : c.code = cc) (hr : meth.sig.returnType = some .int) (hk : meth.locks = false) (hdg : decode cc pc = .ok (.ireturn, 1)) (h : v = r) : W p l e R s m args below meth c s.heap [] 0 0 (qRO below args s r) (F0 m pc ls [.int v]) :=
  W.iret (hlocks := hk) hx hb hr (fun t ht _ => ⟨v, rfl, h, ht⟩) (fun _ q => by cases q) hdg
theorem e_ROz {r v : Int32} (hx : p.tables.exec = Jvm.exec) (hb : c.code = cc) (hr : meth.sig.returnType = some .boolean) (hk : meth.locks = false) (hz : v = 0 ∨ v = 1) (hdg : decode cc pc = .ok (.ireturn, 1)) (h : v = r) : W p l e R s m args below meth c s.heap [] 0 0 (qRO below args s r) (F0 m pc ls [.int v]) :=
  W.zret (hlocks := hk) hx hb hr (nar_b hz) (fun t ht _ => ⟨v, rfl, h, ht⟩) (fun _ q => by cases q) hdg
theorem e_RIi {r v : Int32} {ws' : va_W} (hx : p.tables.exec = Jvm.exec) (hb : c.code = cc) (hr : meth.sig.returnType = some .int) (hk : meth.locks = false) (hP : va_P D vwCl ws' H) (hD : va_D A ws') (hS : va_S A s.heap H locs) (hdg : decode cc pc = .ok (.ireturn, 1)) (h : v = r) : W p l e R s m args below meth c H locs 0 0 (qRI D below args s A ws' r) (F0 m pc ls [.int v]) :=
  W.iret (hlocks := hk) hx hb hr (fun t ht hW => ⟨⟨v, (), rfl, h, by rw [ht]; exact hP, hD⟩, hS.F ht⟩) hS.2.2 hdg
theorem e_RIz {r v : Int32} {ws' : va_W} (hx : p.tables.exec = Jvm.exec) (hb : c.code = cc) (hr : meth.sig.returnType = some .boolean) (hk : meth.locks = false) (hz : v = 0 ∨ v = 1) (hP : va_P D vwCl ws' H) (hD : va_D A ws') (hS : va_S A s.heap H locs) (hdg : decode cc pc = .ok (.ireturn, 1)) (h : v = r) : W p l e R s m args below meth c H locs 0 0 (qRI D below args s A ws' r) (F0 m pc ls [.int v]) :=
  W.zret (hlocks := hk) hx hb hr (nar_b hz) (fun t ht hW => ⟨⟨v, (), rfl, h, by rw [ht]; exact hP, hD⟩, hS.F ht⟩) hS.2.2 hdg
theorem e_RV {ws' : va_W} (hx : p.tables.exec = Jvm.exec) (hb : c.code = cc) (hr : meth.sig.returnType = none) (hk : meth.locks = false) (hP : va_P D vwCl ws' H) (hD : va_D A ws') (hS : va_S A s.heap H locs) (hdg : decode cc pc = .ok (.return_, 1)) : W p l e R s m args below meth c H locs 0 0 (qRV D below args s A ws') (F0 m pc ls []) :=
  W.vret (hlocks := hk) hx hb hr (fun t ht hW => ⟨⟨(), rfl, trivial, by rw [ht]; exact hP, hD⟩, hS.F ht⟩) hS.2.2 hdg
/-- stores -/
theorem r_ist {i x : Int32} {n : Nat} {f : Nat → Int32} {wn : va_W} (hx : p.tables.exec = Jvm.exec) (hb : c.code = cc) (hK : kN D cy s) (hP : va_P D vwCl ws H) (hD : va_D A ws) (hS : va_S A H0 H locs) (q0 : Nat) (ha : ws[q0]? = some (a, .inl (cy 0, n, .inl f))) (hin : vp_in i n) (hn : ws.set q0 (a, .inl (cy 0, n, .inl (upd f i.toNatClampNeg x))) = wn) (hdg : decode cc pc = .ok (.iastore, 1))
    (kk : ∀ (H1 : Heap) (locs1 : List Loc), va_P D vwCl wn H1 → va_D A wn → va_S A H0 H1 locs1 → W p l e R s m args below meth c H1 locs1 cells slots Q (F0 m (pc + 1) ls rest)) : W p l e R s m args below meth c H locs cells slots Q (F0 m pc ls (.int x :: .int i :: .ref a :: rest)) := by
  subst hn
  exact va_iast hx hb hK.1 hP hD hS q0 0 ha rfl hin hdg kk
theorem r_bst {i x : Int32} {n : Nat} {f : Nat → Int32} {wn : va_W} (hx : p.tables.exec = Jvm.exec) (hb : c.code = cc) (hK : kN D cy s) (hP : va_P D vwCl ws H) (hD : va_D A ws) (hS : va_S A H0 H locs) (q0 : Nat) (ha : ws[q0]? = some (a, .inl (cy 1, n, .inl f))) (hin : vp_in i n) (hn : ws.set q0 (a, .inl (cy 1, n, .inl (upd f i.toNatClampNeg (vp_nar .byte x)))) = wn) (hdg : decode cc pc = .ok (.bastore, 1))
    (kk : ∀ (H1 : Heap) (locs1 : List Loc), va_P D vwCl wn H1 → va_D A wn → va_S A H0 H1 locs1 → W p l e R s m args below meth c H1 locs1 cells slots Q (F0 m (pc + 1) ls rest)) : W p l e R s m args below meth c H locs cells slots Q (F0 m pc ls (.int x :: .int i :: .ref a :: rest)) := by
  subst hn
  exact va_bast hx hb hK.1 hP hD hS q0 1 ha rfl hin hdg kk
theorem r_zst {i x : Int32} {n : Nat} {f : Nat → Int32} {wn : va_W} (hx : p.tables.exec = Jvm.exec) (hb : c.code = cc) (hK : kN D cy s) (hP : va_P D vwCl ws H) (hD : va_D A ws) (hS : va_S A H0 H locs) (q0 : Nat) (ha : ws[q0]? = some (a, .inl (cy 2, n, .inl f))) (hin : vp_in i n) (hn : ws.set q0 (a, .inl (cy 2, n, .inl (upd f i.toNatClampNeg (vp_nar .boolean x)))) = wn) (hdg : decode cc pc = .ok (.bastore, 1))
    (kk : ∀ (H1 : Heap) (locs1 : List Loc), va_P D vwCl wn H1 → va_D A wn → va_S A H0 H1 locs1 → W p l e R s m args below meth c H1 locs1 cells slots Q (F0 m (pc + 1) ls rest)) : W p l e R s m args below meth c H locs cells slots Q (F0 m pc ls (.int x :: .int i :: .ref a :: rest)) := by
  subst hn
  exact va_zast hx hb hK.1 hP hD hS q0 2 ha rfl hin hdg kk
/-- field and array reads -/
theorem r_ild {i : Int32} {n : Nat} {f : Nat → Int32} (hx : p.tables.exec = Jvm.exec) (hb : c.code = cc) (hK : kN D cy s) (hP : va_P D vwCl ws H) (q0 : Nat) (ha : ws[q0]? = some (a, .inl (cy 0, n, .inl f))) (hin : vp_in i n) (hdg : decode cc pc = .ok (.iaload, 1))
    (kk : W p l e R s m args below meth c H locs cells slots Q (F0 m (pc + 1) ls (.int (f i.toNatClampNeg) :: rest))) : W p l e R s m args below meth c H locs cells slots Q (F0 m pc ls (.int i :: .ref a :: rest)) := va_iald hx hb hK.1 hP q0 0 ha rfl hin hdg kk
theorem r_bld {i : Int32} {n : Nat} {f : Nat → Int32} (hx : p.tables.exec = Jvm.exec) (hb : c.code = cc) (hK : kN D cy s) (hP : va_P D vwCl ws H) (q0 : Nat) (ha : ws[q0]? = some (a, .inl (cy 1, n, .inl f))) (hin : vp_in i n) (hdg : decode cc pc = .ok (.baload, 1))
    (kk : W p l e R s m args below meth c H locs cells slots Q (F0 m (pc + 1) ls (.int (f i.toNatClampNeg) :: rest))) : W p l e R s m args below meth c H locs cells slots Q (F0 m pc ls (.int i :: .ref a :: rest)) := va_bald hx hb hK.1 hP q0 1 ha rfl hin hdg kk
theorem r_zld {i : Int32} {n : Nat} {f : Nat → Int32} (hx : p.tables.exec = Jvm.exec) (hb : c.code = cc) (hK : kN D cy s) (hP : va_P D vwCl ws H) (q0 : Nat) (ha : ws[q0]? = some (a, .inl (cy 2, n, .inl f))) (hin : vp_in i n) (hdg : decode cc pc = .ok (.baload, 1))
    (kk : W p l e R s m args below meth c H locs cells slots Q (F0 m (pc + 1) ls (.int (f i.toNatClampNeg) :: rest))) : W p l e R s m args below meth c H locs cells slots Q (F0 m pc ls (.int i :: .ref a :: rest)) := va_zald hx hb hK.1 hP q0 2 ha rfl hin hdg kk
/-- a switch -/
theorem r_tab {dflt lo hi : Int} {offs : Array Int} {len : Nat} {x : Int32} {off : Int} {tgt : Nat} (k : Int32) (hx : p.tables.exec = Jvm.exec) (hb : c.code = cc) (hdg : decode cc pc = .ok (.tableswitch dflt lo hi offs, len)) (ex : x = k) (h : ¬ k.toInt < lo ∧ ¬ hi < k.toInt ∧ offs[(k.toInt - lo).toNat]? = some off) (ht : (pc : Int) + off = (tgt : Int))
    (kk : W p l e R s m args below meth c H locs cells slots Q (F0 m tgt ls rest)) : W p l e R s m args below meth c H locs cells slots Q (F0 m pc ls (.int x :: rest)) := by
  subst ex
  exact lv_tableIn hx hb hdg h.1 h.2.1 h.2.2 ht kk
/-- calls: one that writes nothing -/
theorem k_RO {r : Int32} {aa : Array Value} {st0 : List Value} (hr : va_Run p l e R s m args below meth c H locs cells slots 0 0 (F0 m pc ls st0) rest (vp_Si (fun r' => r' = r) aa) (fun _ => False))
    (kk : W p l e R s m args below meth c H locs cells slots Q (F0 m (pc + 3) ls (.int r :: rest))) : W p l e R s m args below meth c H locs cells slots Q (F0 m pc ls st0) := by
  intro T hT X
  obtain ⟨v, st₀, t, T', L, h0, X', hL, e1, -, ⟨r1, hv, hp, hh⟩, st⟩ := hr T hT X
  cases hv
  subst hp
  obtain ⟨t2, a1, b1⟩ := kk T' (by rw [e1, hh, h0]) (Stand.forget X' (fun q h => (hL q h).elim))
  exact ⟨t2, st t2 a1, b1⟩
variable {y : MethodName} {b : ByteArray} {n d nL na idx : Nat} {ret : Option FieldType} {own C host : String} {As : List Value} {r : Int32} {wc : va_W}
theorem k_ROV (S : CallFix p m c cc nL s args tb own) (hK : kN D cy s) (hP : va_P D vwCl wc H) (cw : CallW R s args own C idx y b n ret (wl y b n ret) (rmD d) 0 0 na) (q0 : Nat) {ci : Nat} {fs : List Value} {cq : vw_C} (hc : vwCl[ci]? = some cq) (hC : cq.1 = C) (he : wc[q0]? = some (a, .inr (ci, fs))) (hM : RO l y b n ret d D cy (.ref a :: As) wc r)
    (hn : As.length = na) (hls : ls.size = nL) (hrm : (rest.map fun v => v.category).sum ≤ 8) (hf : cells + 0 ≤ R.cells ∧ slots + 0 ≤ R.slots) (hdg : decode cc pc = .ok (.invokevirtual idx, 3))
    (kk : W p l e R s m args below meth c H locs cells slots Q (F0 m (pc + 3) ls (.int r :: rest))) : W p l e R s m args below meth c H locs cells slots Q (F0 m pc ls (As.reverse ++ .ref a :: rest)) := by
  subst hC
  exact k_RO (va_runV (g := F0 m pc ls (As.reverse ++ .ref a :: rest)) (b := a) (As := As) (rest := rest) S hM cw ⟨roP_blind, va_recv hK.1 hP hc he, fun U hU hW => ⟨rfl, hK.warm hW, by rw [hU]; exact hP⟩⟩ rfl hn hls rfl (lv_room (rest := As.reverse ++ .ref a :: rest) hrm) hdg hf) kk
theorem k_ROS (S : CallFix p m c cc nL s args tb own) (hK : kN D cy s) (hP : va_P D vwCl wc H) (cw : CallB R s args own idx y b n ret (wl y b n ret) (rmD d) 0 0 na ∧ (Cond.static y).before args s = true) (hM : RO l y b n ret d D cy As wc r)
    (hn : As.length = na) (hls : ls.size = nL) (hrm : (rest.map fun v => v.category).sum ≤ 8) (hf : cells + 0 ≤ R.cells ∧ slots + 0 ≤ R.slots) (hdg : decode cc pc = .ok (.invokestatic idx, 3))
    (kk : W p l e R s m args below meth c H locs cells slots Q (F0 m (pc + 3) ls (.int r :: rest))) : W p l e R s m args below meth c H locs cells slots Q (F0 m pc ls (As.reverse ++ rest)) :=
  k_RO (va_runS (g := F0 m pc ls (As.reverse ++ rest)) (As := As) (rest := rest) S hM cw ⟨roP_blind, fun U hU hW => ⟨rfl, hK.warm hW, by rw [hU]; exact hP⟩⟩ rfl hn hls rfl (lv_room (rest := As.reverse ++ rest) hrm) hdg hf) kk
theorem k_ROSN (S : CallFix p m c cc nL s args tb own) (hK : kN D cy s) (hP : va_P D vwCl wc H) (cw : va_CN R s args own idx y host b n ret (wl y b n ret) (rmD d) 0 0 na ∧ (Cond.static y).before args s = true ∧ True) (hM : RO l y b n ret d D cy As wc r)
    (hn : As.length = na) (hls : ls.size = nL) (hrm : (rest.map fun v => v.category).sum ≤ 8) (hf : cells + 0 ≤ R.cells ∧ slots + 0 ≤ R.slots) (hdg : decode cc pc = .ok (.invokestatic idx, 3))
    (kk : W p l e R s m args below meth c H locs cells slots Q (F0 m (pc + 3) ls (.int r :: rest))) : W p l e R s m args below meth c H locs cells slots Q (F0 m pc ls (As.reverse ++ rest)) :=
  k_RO (va_runSN (g := F0 m pc ls (As.reverse ++ rest)) (As := As) (rest := rest) S hM cw ⟨roP_blind, fun U hU hW => ⟨rfl, hK.warm hW, by rw [hU]; exact hP⟩⟩ rfl hn hls rfl (lv_room (rest := As.reverse ++ rest) hrm) hdg hf) kk
/-- calls: one that writes. The callee's cells wc lie at the places isC of ws, the rest wr at isR; behind it the world is wn, at the places isN of wr ++ w1 -/
def FrS (ws wc w1 wn : va_W) : Prop := (∀ (D : va_G) (H : Heap), va_P D vwCl ws H → va_P D vwCl wc H) ∧ (∀ A : Nat → Prop, va_D A ws → va_D A wc) ∧ (∀ (A : Nat → Prop) (z : Nat), va_D A ws → (∀ q, z ≤ q → A q) → ∀ q, va_A wc z q → A q) ∧
  ∀ (D : va_G) (A : Nat → Prop) (H H1 : Heap), va_P D vwCl ws H → va_D A ws → (∀ q, va_A wc H.size q → A q) → (∀ q : Nat, q < H.size → ¬ va_A wc H.size q → H1[q]? = H[q]?) → va_P D vwCl w1 H1 → va_D (va_A wc H.size) w1 → va_P D vwCl wn H1 ∧ va_D A wn
theorem fm_of_map {is : List Nat} {ws wc : va_W} (h : is.map (fun i => ws[i]?) = wc.map some) : is.filterMap (fun i => ws[i]?) = wc := by
  have h1 : is.filterMap (fun i => ws[i]?) = (is.map (fun i => ws[i]?)).filterMap id := by rw [List.filterMap_map]; rfl
  rw [h1, h, List.filterMap_map]
  exact List.filterMap_some
theorem FrS_rf {ws w1 : va_W} : FrS ws ws w1 w1 := by
  refine ⟨fun _ _ h => h, fun _ h => h, fun A z hD hA q h => ?_, fun D A H H1 hP hD hA _ hP1 hD1 => ⟨hP1, hD1.weaken (fun _ q _ h => hA q.1 h)⟩⟩
  rcases h with ⟨k, e, h⟩ | h
  · exact hD.2 k (q, e) h
  · exact hA q h
theorem FrS_of {ws wc w1 wn : va_W} (wr : va_W) (isC isR isN : List Nat) (f1 : isC.map (fun i => ws[i]?) = wc.map some) (f2 : isR.map (fun i => ws[i]?) = wr.map some) (f6 : isN.map (fun i => (wr ++ w1)[i]?) = wn.map some) (f3 : (va_nd isC && va_nd isR && va_nd isN && (isR.all fun i => !isC.contains i)) = true) : FrS ws wc w1 wn := by
  simp only [Bool.and_eq_true] at f3
  obtain ⟨⟨⟨f3, f4⟩, f7⟩, f5⟩ := f3
  refine ⟨fun D H h => h.sub isC (fm_of_map f1), fun A h => h.sub isC f3 f1, fun A z hD hA q h => ?_, fun D A H H1 hP hD hA hk hP1 hD1 => ?_⟩
  · rcases h with ⟨k, e, h⟩ | h
    · have h1 : (isC.map (fun i => ws[i]?))[k]? = some (some (q, e)) := by rw [f1, List.getElem?_map, h]; rfl
      rw [List.getElem?_map] at h1
      cases hi : isC[k]? with
      | none => rw [hi] at h1; cases h1
      | some i => rw [hi] at h1; exact hD.2 i (q, e) (Option.some.inj h1)
    · exact hA q h
  · obtain ⟨h1, h2⟩ := va_join hP hD isC isR f1 f2 f4 (fun i hi => by
      have h9 := List.all_eq_true.mp f5 i hi
      simpa using h9) hk hA hP1 hD1
    exact ⟨h1.sub isN (fm_of_map f6), h2.sub isN f7 f6⟩
variable {w1 wn : va_W}
theorem k_RI {aa : Array Value} {st0 : List Value} (hP : va_P D vwCl ws H) (hD : va_D A ws) (hS : va_S A s.heap H locs) (hA : ∀ q, s.heap.size ≤ q → A q) (hF : FrS ws wc w1 wn) (hr : va_Run p l e R s m args below meth c H locs cells slots 0 0 (F0 m pc ls st0) rest (va_Qi (fun r' _ => r' = r) (rwB D w1 (va_A wc H.size)) (va_A wc H.size) aa) (va_A wc H.size))
    (kk : ∀ (H1 : Heap) (locs1 : List Loc), va_P D vwCl wn H1 → va_D A wn → va_S A s.heap H1 locs1 → W p l e R s m args below meth c H1 locs1 cells slots Q (F0 m (pc + 3) ls (.int r :: rest))) : W p l e R s m args below meth c H locs cells slots Q (F0 m pc ls st0) := by
  have hFr := hF.2.2.1 A H.size hD (fun q h => hA q (Nat.le_trans hS.1 h))
  refine va_calli hr hS (fun q _ h => hFr q h) hFr (fun r1 u t H1 locs1 ht hvm hp hB hz hk hS1 => ?_)
  obtain ⟨hP1, hD1⟩ := hB
  rw [ht] at hP1
  obtain ⟨h1, h2⟩ := hF.2.2.2 D A H H1 hP hD hFr hk hP1 hD1
  subst hp
  exact kk H1 locs1 h1 h2 hS1
theorem k_RV {aa : Array Value} {st0 : List Value} (hP : va_P D vwCl ws H) (hD : va_D A ws) (hS : va_S A s.heap H locs) (hA : ∀ q, s.heap.size ≤ q → A q) (hF : FrS ws wc w1 wn) (hr : va_Run p l e R s m args below meth c H locs cells slots 0 0 (F0 m pc ls st0) rest (va_Qv (fun _ => True) (rwB D w1 (va_A wc H.size)) (va_A wc H.size) aa) (va_A wc H.size))
    (kk : ∀ (H1 : Heap) (locs1 : List Loc), va_P D vwCl wn H1 → va_D A wn → va_S A s.heap H1 locs1 → W p l e R s m args below meth c H1 locs1 cells slots Q (F0 m (pc + 3) ls rest)) : W p l e R s m args below meth c H locs cells slots Q (F0 m pc ls st0) := by
  have hFr := hF.2.2.1 A H.size hD (fun q h => hA q (Nat.le_trans hS.1 h))
  refine va_callv hr hS (fun q _ h => hFr q h) hFr (fun u t H1 locs1 ht hvm hp hB hz hk hS1 => ?_)
  obtain ⟨hP1, hD1⟩ := hB
  rw [ht] at hP1
  obtain ⟨h1, h2⟩ := hF.2.2.2 D A H H1 hP hD hFr hk hP1 hD1
  exact kk H1 locs1 h1 h2 hS1
theorem k_RIV (S : CallFix p m c cc nL s args tb own) (hK : kN D cy s) (hP : va_P D vwCl ws H) (hD : va_D A ws) (hS : va_S A s.heap H locs) (hA : ∀ q, s.heap.size ≤ q → A q) (hF : FrS ws wc w1 wn) (cw : CallW R s args own C idx y b n ret (wl y b n ret) (rmD d) 0 0 na) (q0 : Nat) {ci : Nat} {fs : List Value} {cq : vw_C} (hc : vwCl[ci]? = some cq) (hC : cq.1 = C) (he : wc[q0]? = some (a, .inr (ci, fs))) (hM : RI l y b n ret d D cy (.ref a :: As) wc w1 r)
    (hn : As.length = na) (hls : ls.size = nL) (hrm : (rest.map fun v => v.category).sum ≤ 8) (hf : cells + 0 ≤ R.cells ∧ slots + 0 ≤ R.slots) (hdg : decode cc pc = .ok (.invokevirtual idx, 3))
    (kk : ∀ (H1 : Heap) (locs1 : List Loc), va_P D vwCl wn H1 → va_D A wn → va_S A s.heap H1 locs1 → W p l e R s m args below meth c H1 locs1 cells slots Q (F0 m (pc + 3) ls (.int r :: rest))) : W p l e R s m args below meth c H locs cells slots Q (F0 m pc ls (As.reverse ++ .ref a :: rest)) := by
  subst hC
  have hPc := hF.1 D H hP
  exact k_RI hP hD hS hA hF (va_runV (g := F0 m pc ls (As.reverse ++ .ref a :: rest)) (b := a) (As := As) (rest := rest) S (hM H.size) cw ⟨rwP_blind, va_recv hK.1 hPc hc he, fun U hU hW => ⟨rfl, by rw [hU], hK.warm hW, by rw [hU]; exact hPc, (hF.2.1 A hD).weaken (fun _ _ _ _ => trivial)⟩⟩ rfl hn hls rfl (lv_room (rest := As.reverse ++ .ref a :: rest) hrm) hdg hf) kk
theorem k_RVV (S : CallFix p m c cc nL s args tb own) (hK : kN D cy s) (hP : va_P D vwCl ws H) (hD : va_D A ws) (hS : va_S A s.heap H locs) (hA : ∀ q, s.heap.size ≤ q → A q) (hF : FrS ws wc w1 wn) (cw : CallW R s args own C idx y b n none (wl y b n none) (rmD d) 0 0 na) (q0 : Nat) {ci : Nat} {fs : List Value} {cq : vw_C} (hc : vwCl[ci]? = some cq) (hC : cq.1 = C) (he : wc[q0]? = some (a, .inr (ci, fs))) (hM : RV l y b n d D cy (.ref a :: As) wc w1)
    (hn : As.length = na) (hls : ls.size = nL) (hrm : (rest.map fun v => v.category).sum ≤ 8) (hf : cells + 0 ≤ R.cells ∧ slots + 0 ≤ R.slots) (hdg : decode cc pc = .ok (.invokevirtual idx, 3))
    (kk : ∀ (H1 : Heap) (locs1 : List Loc), va_P D vwCl wn H1 → va_D A wn → va_S A s.heap H1 locs1 → W p l e R s m args below meth c H1 locs1 cells slots Q (F0 m (pc + 3) ls rest)) : W p l e R s m args below meth c H locs cells slots Q (F0 m pc ls (As.reverse ++ .ref a :: rest)) := by
  subst hC
  have hPc := hF.1 D H hP
  exact k_RV hP hD hS hA hF (va_runV (g := F0 m pc ls (As.reverse ++ .ref a :: rest)) (b := a) (As := As) (rest := rest) S (hM H.size) cw ⟨rwP_blind, va_recv hK.1 hPc hc he, fun U hU hW => ⟨rfl, by rw [hU], hK.warm hW, by rw [hU]; exact hPc, (hF.2.1 A hD).weaken (fun _ _ _ _ => trivial)⟩⟩ rfl hn hls rfl (lv_room (rest := As.reverse ++ .ref a :: rest) hrm) hdg hf) kk
theorem k_RVS (S : CallFix p m c cc nL s args tb own) (hK : kN D cy s) (hP : va_P D vwCl ws H) (hD : va_D A ws) (hS : va_S A s.heap H locs) (hA : ∀ q, s.heap.size ≤ q → A q) (hF : FrS ws wc w1 wn) (cw : CallB R s args own idx y b n none (wl y b n none) (rmD d) 0 0 na ∧ (Cond.static y).before args s = true) (hM : RV l y b n d D cy As wc w1)
    (hn : As.length = na) (hls : ls.size = nL) (hrm : (rest.map fun v => v.category).sum ≤ 8) (hf : cells + 0 ≤ R.cells ∧ slots + 0 ≤ R.slots) (hdg : decode cc pc = .ok (.invokestatic idx, 3))
    (kk : ∀ (H1 : Heap) (locs1 : List Loc), va_P D vwCl wn H1 → va_D A wn → va_S A s.heap H1 locs1 → W p l e R s m args below meth c H1 locs1 cells slots Q (F0 m (pc + 3) ls rest)) : W p l e R s m args below meth c H locs cells slots Q (F0 m pc ls (As.reverse ++ rest)) := by
  have hPc := hF.1 D H hP
  exact k_RV hP hD hS hA hF (va_runS (g := F0 m pc ls (As.reverse ++ rest)) (As := As) (rest := rest) S (hM H.size) cw ⟨rwP_blind, fun U hU hW => ⟨rfl, by rw [hU], hK.warm hW, by rw [hU]; exact hPc, (hF.2.1 A hD).weaken (fun _ _ _ _ => trivial)⟩⟩ rfl hn hls rfl (lv_room (rest := As.reverse ++ rest) hrm) hdg hf) kk
end RWS
