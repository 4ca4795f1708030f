/-! the law: what holds in it; one call after the other -/
section LA
theorem FrS_c {wc w1 b d : va_W} (hf : w1.map Prod.fst = wc.map Prod.fst) : FrS ((wc ++ b) ++ d) wc w1 ((w1 ++ b) ++ d) := by
  rw [List.append_assoc, List.append_assoc]
  exact FrS_pre hf
theorem FrS_m {a wc w1 : va_W} (hf : w1.map Prod.fst = wc.map Prod.fst) : FrS (a ++ wc) wc w1 (a ++ w1) := by
  have h := FrS_mid (a := a) (b := []) hf
  rw [List.append_nil, List.append_nil] at h
  exact h
theorem vin2 {i L : Nat} (t : Nat) (h : i + t < L) (hL : L < 2 ^ 31) : vp_in (nI i + nI t) L := by rw [nI_add]; exact vin h hL
abbrev AA (s : State) : Nat → Prop := fun q => s.heap.size ≤ q
def LW (cy : Nat → ClassId) (u : Nat → Nat) (ck : ClassId) (qk : Nat → Nat → Nat) (mk : Nat → Nat → Mem) (P : Nat) (qm : Nat → Nat) (sm bsa bsb rd di rof pn se fo ro ra vc os li fot rot rat vct ost lit mo : Mem) : va_W := KW cy u ck qk mk P sm bsa bsb rd di rof pn se fo ro ra vc os li fot rot rat vct ost lit ++ w_Mo cy qm mo
def LB (p : Program) (s : State) (m : MethodId) (meth : Method) (c : Code) (b L : Nat) (xs : Nat → Int32) (D : va_G) (cy : Nat → ClassId) (ck : ClassId) : Prop := p.tables.exec = Jvm.exec ∧ c.code = cL_law ∧ c.maxLocals = 4 ∧ s.vm.findClass RL = some m.cls ∧ (∀ w ∈ tb, w.before #[Value.ref b] s = true) ∧ va_X b L xs s s.heap ∧ b < s.heap.size ∧ kN D cy s ∧ NC s ∧ kQ D cy ck s
variable {p : Program} {l : Launch} {e : Env} {s : State} {m : MethodId} {below : List Frame} {meth : Method} {c : Code} {b L : Nat} {xs : Nat → Int32} {D : va_G} {cy : Nat → ClassId} {ck : ClassId} {u qm : Nat → Nat} {Q : State → Prop} {H : Heap} {locs : List Loc} {cells slots : Nat} {ls : Array Slot} {N k P i : Nat} {qk : Nat → Nat → Nat} {mk : Nat → Nat → Mem} {sm bsa bsb rd di rof pn se fo ro ra vc os li fot rot rat vct ost lit mo : Mem}
theorem P_c (hP : va_P D vwCl (LW cy u ck qk mk P qm sm bsa bsb rd di rof pn se fo ro ra vc os li fot rot rat vct ost lit mo) H) : va_P D vwCl (w_AU cy u sm bsa bsb rd di rof pn se fo ro ra vc os li fot rot rat vct ost lit) H := P_mem.mpr (fun q hq => P_mem.mp hP q (List.mem_append.mpr (Or.inl (List.mem_append.mpr (Or.inl hq)))))
theorem P_m (hP : va_P D vwCl (LW cy u ck qk mk P qm sm bsa bsb rd di rof pn se fo ro ra vc os li fot rot rat vct ost lit mo) H) : va_P D vwCl (w_Mo cy qm mo) H := P_mem.mpr (fun q hq => P_mem.mp hP q (List.mem_append.mpr (Or.inr hq)))
def LK (p : Program) (l : Launch) (e : Env) (s : State) (m : MethodId) (below : List Frame) (meth : Method) (c : Code) (b : Nat) (D : va_G) (cy : Nat → ClassId) (ck : ClassId) (u qm : Nat → Nat) (Q : State → Prop) (cells slots : Nat) (ls : Array Slot) (N : Nat) : Prop := ∀ (H : Heap) (locs : List Loc) (cells' slots' : Nat) (qk : Nat → Nat → Nat) (mk : Nat → Nat → Mem) (P k : Nat) (sm bsa bsb rd di rof pn se fo ro ra vc os li fot rot rat vct ost lit mo : Mem), cells' ≤ cells + 23 → slots' ≤ slots + 289 → LI (N + 1) k P mk sm bsa pn fo ro ra vc os li mo → va_P D vwCl (LW cy u ck qk mk P qm sm bsa bsb rd di rof pn se fo ro ra vc os li fot rot rat vct ost lit mo) H → va_D (AA s) (LW cy u ck qk mk P qm sm bsa bsb rd di rof pn se fo ro ra vc os li fot rot rat vct ost lit mo) → va_S (AA s) s.heap H locs → W p l e room_1 s m #[Value.ref b] below meth c H locs cells' slots' Q (F0 m 1620 ls [])
end LA
