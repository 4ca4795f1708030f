/-! states kept, and taken back: the class -/
section KP1
def gK (cy : Nat → ClassId) (qk : Nat → Nat → Nat) (mk : Nat → Nat → Mem) (j : Nat) : va_W := w_FiU cy (qk j) (mk j 0) (mk j 1) (mk j 2) (mk j 3) (mk j 4) (mk j 5)
def fK (qk : Nat → Nat → Nat) (P : Nat) : Nat → Option Nat := fun j => if j < P then some (qk j 0) else none
def wK (cy : Nat → ClassId) (ck : ClassId) (qa : Nat) (qk : Nat → Nat → Nat) (mk : Nat → Nat → Mem) (P : Nat) : va_W := w_kp ck qa (fK qk P) ++ cat (gK cy qk mk) 0 P
/-- all that the class has -/
def KW (cy : Nat → ClassId) (u : Nat → Nat) (ck : ClassId) (qk : Nat → Nat → Nat) (mk : Nat → Nat → Mem) (P : Nat) (sm bsa bsb rd di rof pn se fo ro ra vc os li fot rot rat vct ost lit : Mem) : va_W := w_AU cy u sm bsa bsb rd di rof pn se fo ro ra vc os li fot rot rat vct ost lit ++ wK cy ck (u 10) qk mk P
def kQ (D : va_G) (cy : Nat → ClassId) (ck : ClassId) (U : State) : Prop := va_K D vwCl (tyL cy ++ [(ck, .object RX2)]) U
theorem kQ.moved {D : va_G} {cy : Nat → ClassId} {ck : ClassId} {u U : State} (h : u.vm.Alike U.vm) (k : kQ D cy ck u) : kQ D cy ck U := va_K.moved h k
def kpP (D : va_G) (cy : Nat → ClassId) (ck : ClassId) (av : List Value) (ws : va_W) (sz : Nat) : Array Value → State → Prop := va_Pc av (fun U => U.heap.size = sz ∧ kN D cy U ∧ NC U ∧ kQ D cy ck U ∧ va_P D vwCl ws U.heap ∧ va_D (fun _ => True) ws)
theorem kpP_blind {D : va_G} {cy : Nat → ClassId} {ck : ClassId} {av : List Value} {ws : va_W} {sz : Nat} : FrameBlind (kpP D cy ck av ws sz) := fun a U g mk q => by
  obtain ⟨q0, q1, qK, qN, qQ, qP, qD⟩ := q
  exact ⟨q0, q1, qK.call, qN.same rfl, kQ.moved (u := U) (U := U.calling g mk a) (Vm.Alike.refl U.vm) qQ, qP, qD⟩
/-- makes at most mc cells; what comes is of the sort B -/
def RG (l : Launch) (y : MethodName) (b : ByteArray) (n d mc ms : Nat) (D : va_G) (cy : Nat → ClassId) (ck : ClassId) (av : List Value) (ws : va_W) (B : Int32 → va_W → Prop) : Prop :=
  ∀ sz : Nat, Met l y (wl y b n (some .int)) (rmN d mc ms) (kpP D cy ck av ws sz) (va_Qi (fun r (w : va_W) => B r w) (fun w t => va_P D vwCl w t.heap ∧ va_D (va_A ws sz) w) (va_A ws sz)) mc ms (va_A ws sz)
theorem pm_x {α : Type} (a f b k c1 x c2 : List α) : ((a ++ (f ++ b)) ++ (k ++ (c1 ++ (x ++ c2)))).Perm ((x ++ f) ++ (a ++ (b ++ (k ++ (c1 ++ c2))))) := by
  have h1 : (k ++ (c1 ++ (x ++ c2))).Perm (x ++ (k ++ (c1 ++ c2))) := ((List.perm_append_comm_assoc c1 x c2).append_left k).trans (List.perm_append_comm_assoc k x (c1 ++ c2))
  have h2 : ((a ++ (f ++ b)) ++ (k ++ (c1 ++ (x ++ c2)))).Perm ((a ++ (f ++ b)) ++ (x ++ (k ++ (c1 ++ c2)))) := h1.append_left _
  have h3 := List.perm_append_comm_assoc (a ++ (f ++ b)) x (k ++ (c1 ++ c2))
  have h4 : ((a ++ (f ++ b)) ++ (k ++ (c1 ++ c2))).Perm (f ++ (a ++ (b ++ (k ++ (c1 ++ c2))))) := by
    rw [List.append_assoc, List.append_assoc]
    exact List.perm_append_comm_assoc a f _
  rw [List.append_assoc x f]
  exact (h2.trans h3).trans (h4.append_left x)
theorem pm_f {α : Type} (a f b k c1 x c2 : List α) : ((a ++ (f ++ b)) ++ (k ++ (c1 ++ (x ++ c2)))).Perm ((f ++ x) ++ (a ++ (b ++ (k ++ (c1 ++ c2))))) := (pm_x a f b k c1 x c2).trans (List.perm_append_comm.append_right _)
variable {l : Launch} {D : va_G} {cy : Nat → ClassId} {ck : ClassId} {u : Nat → Nat} {qk : Nat → Nat → Nat} {mk : Nat → Nat → Mem} {P k : Nat} {sm bsa bsb rd di rof pn se fo ro ra vc os li fot rot rat vct ost lit : Mem}
/-- the class's cells but its field's -/
abbrev auA (cy : Nat → ClassId) (u : Nat → Nat) (sm bsa bsb rd di rof pn se : Mem) : va_W := (w_AU cy u sm bsa bsb rd di rof pn se zeM zeM zeM zeM zeM zeM zeM zeM zeM zeM zeM zeM).take 20
abbrev auB (cy : Nat → ClassId) (u : Nat → Nat) (fot rot rat vct ost lit : Mem) : va_W := w_FiU cy (fun z => u (280 + z)) fot rot rat vct ost lit
theorem AU_cut : w_AU cy u sm bsa bsb rd di rof pn se fo ro ra vc os li fot rot rat vct ost lit = auA cy u sm bsa bsb rd di rof pn se ++ (w_FiU cy (fun z => u (160 + z)) fo ro ra vc os li ++ auB cy u fot rot rat vct ost lit) := rfl
theorem KW_cut (h : k < P) : KW cy u ck qk mk P sm bsa bsb rd di rof pn se fo ro ra vc os li fot rot rat vct ost lit = (auA cy u sm bsa bsb rd di rof pn se ++ (w_FiU cy (fun z => u (160 + z)) fo ro ra vc os li ++ auB cy u fot rot rat vct ost lit)) ++ (w_kp ck (u 10) (fK qk P) ++ (cat (gK cy qk mk) 0 k ++ (gK cy qk mk k ++ cat (gK cy qk mk) (k + 1) (P - (k + 1))))) := by
  unfold KW wK
  rw [AU_cut, cat_at h]
def upK (mk : Nat → Nat → Mem) (k : Nat) (g : Nat → Mem) : Nat → Nat → Mem := fun j => if j = k then g else mk j
def six (a b c d e f : Mem) : Nat → Mem := fun i => match i with | 0 => a | 1 => b | 2 => c | 3 => d | 4 => e | _ => f
theorem cat_up {g : Nat → Mem} : cat (gK cy qk (upK mk k g)) 0 k = cat (gK cy qk mk) 0 k ∧ ∀ r, cat (gK cy qk (upK mk k g)) (k + 1) r = cat (gK cy qk mk) (k + 1) r := by
  have e : ∀ j, j ≠ k → gK cy qk (upK mk k g) j = gK cy qk mk j := fun j hj => by
    unfold gK upK
    rw [if_neg hj]
  exact ⟨cat_congr k 0 (fun j _ h => e j (by omega)), fun r => cat_congr r (k + 1) (fun j h _ => e j (by omega))⟩
/-- into a kept state -/
theorem FrS_in {a b c d e f : Mem} (h : k < P) : FrS (KW cy u ck qk mk P sm bsa bsb rd di rof pn se fo ro ra vc os li fot rot rat vct ost lit) (gK cy qk mk k ++ w_FiU cy (fun z => u (160 + z)) fo ro ra vc os li) (w_FiU cy (qk k) a b c d e f ++ w_FiU cy (fun z => u (160 + z)) fo ro ra vc os li) (KW cy u ck qk (upK mk k (six a b c d e f)) P sm bsa bsb rd di rof pn se fo ro ra vc os li fot rot rat vct ost lit) := by
  have e1 := KW_cut (cy := cy) (u := u) (ck := ck) (qk := qk) (mk := mk) (sm := sm) (bsa := bsa) (bsb := bsb) (rd := rd) (di := di) (rof := rof) (pn := pn) (se := se) (fo := fo) (ro := ro) (ra := ra) (vc := vc) (os := os) (li := li) (fot := fot) (rot := rot) (rat := rat) (vct := vct) (ost := ost) (lit := lit) h
  have e2 := KW_cut (cy := cy) (u := u) (ck := ck) (qk := qk) (mk := upK mk k (six a b c d e f)) (sm := sm) (bsa := bsa) (bsb := bsb) (rd := rd) (di := di) (rof := rof) (pn := pn) (se := se) (fo := fo) (ro := ro) (ra := ra) (vc := vc) (os := os) (li := li) (fot := fot) (rot := rot) (rat := rat) (vct := vct) (ost := ost) (lit := lit) h
  have gk : gK cy qk (upK mk k (six a b c d e f)) k = w_FiU cy (qk k) a b c d e f := by
    unfold gK upK
    rw [if_pos rfl]
    rfl
  rw [cat_up.1, cat_up.2, gk] at e2
  rw [e1, e2]
  exact FrS_perm (FrS_pre rfl) (pm_x _ _ _ _ _ _ _) (pm_x _ _ _ _ _ _ _).symm
/-- out of a kept state -/
theorem FrS_out {a b c d e f : Mem} (h : k < P) : FrS (KW cy u ck qk mk P sm bsa bsb rd di rof pn se fo ro ra vc os li fot rot rat vct ost lit) (w_FiU cy (fun z => u (160 + z)) fo ro ra vc os li ++ gK cy qk mk k) (w_FiU cy (fun z => u (160 + z)) a b c d e f ++ gK cy qk mk k) (KW cy u ck qk mk P sm bsa bsb rd di rof pn se a b c d e f fot rot rat vct ost lit) := by
  rw [KW_cut h, KW_cut h]
  exact FrS_perm (FrS_pre rfl) (pm_f _ _ _ _ _ _ _) (pm_f _ _ _ _ _ _ _).symm
end KP1
