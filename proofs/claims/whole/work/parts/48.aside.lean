/-! rows laid aside, and taken back; a field copied -/
section AS
variable {n v : Nat} {fo ro ra vc os li mo : Mem} {x y : Int32} {s s' : Nat → Int32}
def layF (r s : Nat → Int32) (k j : Nat) : Int32 := if 1452 * k ≤ j ∧ j < 1452 * k + 1452 then s (j - 1452 * k) else r j
def takF (s r : Nat → Int32) (k i : Nat) : Int32 := if i < 1452 then r (1452 * k + i) else s i
theorem Mo_lays_l {k : Nat} (hk : k < 9) : ∀ (r i N : Nat), i + r = 1452 → r < N → Mo_lays_b2 (nI k) N (upA mo 1 (fun j => if 1452 * k ≤ j ∧ j < 1452 * k + i then mo 0 (j - 1452 * k) else mo 1 j)) (nI i) = some (upA mo 1 (layF (mo 1) (mo 0) k))
  | 0, i, N + 1, hi, _ => by
    have e : i = 1452 := by omega
    subst e
    show Mo_lays_b2B (nI k) (Mo_lays_b2 (nI k) N) _ (nI 1452) = _
    unfold Mo_lays_b2B
    rw [if_pos (by decide)]
    rfl
  | r + 1, i, N + 1, hi, hN => by
    show Mo_lays_b2B (nI k) (Mo_lays_b2 (nI k) N) _ (nI i) = _
    unfold Mo_lays_b2B
    rw [if_neg (show ¬ 1452 ≤ nI i from nI_ge (b := 1452) (by omega) (by omega)), ckI_nI _ (by omega) (by omega), show (1452 : Int32) = nI 1452 from rfl, pk_mul, nI_add, ckI_nI _ (by omega) (by omega), nI_clamp (by omega), nI_clamp (by omega), stk_r, stk_r, nI_1, upm_A, upA_A, upA_0, upA_n _ _ (show (0 : Nat) ≠ 1 by omega)]
    rw [← Mo_lays_l hk r (i + 1) N (by omega) (by omega)]
    congr 2
    funext j
    by_cases e : j = 1452 * k + i
    · subst e
      rw [pk_us, if_pos (by omega), show 1452 * k + i - 1452 * k = i by omega]
    · rw [pk_un e]
      by_cases q : 1452 * k ≤ j ∧ j < 1452 * k + i
      · rw [if_pos q, if_pos (by omega)]
      · rw [if_neg q, if_neg (by omega)]
theorem Mo_lays_s {k : Nat} (hk : k < 9) : Mo_lays mo (nI k) = some (upA mo 1 (layF (mo 1) (mo 0) k)) := by
  unfold Mo_lays
  have e := Mo_lays_l (mo := mo) hk 1452 0 fl (by omega) (by rw [fl_v]; omega)
  rw [show (fun j => if 1452 * k ≤ j ∧ j < 1452 * k + 0 then mo 0 (j - 1452 * k) else mo 1 j) = mo 1 from funext (fun j => if_neg (by omega)), upA_id] at e
  exact e
theorem Mo_takes_l {k : Nat} (hk : k < 9) : ∀ (r i N : Nat), i + r = 1452 → r < N → Mo_takes_b2 (nI k) N (upA mo 0 (fun j => if j < i then mo 1 (1452 * k + j) else mo 0 j)) (nI i) = some (upA mo 0 (takF (mo 0) (mo 1) k))
  | 0, i, N + 1, hi, _ => by
    have e : i = 1452 := by omega
    subst e
    show Mo_takes_b2B (nI k) (Mo_takes_b2 (nI k) N) _ (nI 1452) = _
    unfold Mo_takes_b2B
    rw [if_pos (by decide)]
    rfl
  | r + 1, i, N + 1, hi, hN => by
    show Mo_takes_b2B (nI k) (Mo_takes_b2 (nI k) N) _ (nI i) = _
    unfold Mo_takes_b2B
    rw [if_neg (show ¬ 1452 ≤ nI i from nI_ge (b := 1452) (by omega) (by omega)), ckI_nI (i := i) _ (by omega) (by omega), show (1452 : Int32) = nI 1452 from rfl, pk_mul, nI_add, ckI_nI _ (by omega) (by omega), nI_clamp (by omega), nI_clamp (by omega), stk_r, stk_r, nI_1, upm_A, upA_A, upA_0, upA_n _ _ (show (1 : Nat) ≠ 0 by omega)]
    rw [← Mo_takes_l hk r (i + 1) N (by omega) (by omega)]
    congr 2
    funext j
    by_cases e : j = i
    · subst e
      rw [pk_us, if_pos (by omega)]
    · rw [pk_un e]
      by_cases q : j < i
      · rw [if_pos q, if_pos (by omega)]
      · rw [if_neg q, if_neg (by omega)]
theorem Mo_takes_s {k : Nat} (hk : k < 9) : Mo_takes mo (nI k) = some (upA mo 0 (takF (mo 0) (mo 1) k)) := by
  unfold Mo_takes
  have e := Mo_takes_l (mo := mo) hk 1452 0 fl (by omega) (by rw [fl_v]; omega)
  rw [show (fun j => if j < 0 then mo 1 (1452 * k + j) else mo 0 j) = mo 0 from funext (fun j => if_neg (by omega)), upA_id] at e
  exact e
/-- what a call leaves of the reference, but its row -/
def KP (mo mo' : Mem) : Prop := mo' 2 = mo 2 ∧ mo' 3 = mo 3 ∧ mo' 21 = mo 21 ∧ ∀ j, j < 11616 → mo' 1 j = mo 1 j
theorem KP.rf : KP mo mo := ⟨rfl, rfl, rfl, fun _ _ => rfl⟩
theorem KP.tr {m1 m2 m3 : Mem} (h : KP m1 m2) (g : KP m2 m3) : KP m1 m3 := ⟨g.1.trans h.1, g.2.1.trans h.2.1, g.2.2.1.trans h.2.2.1, fun j hj => (g.2.2.2 j hj).trans (h.2.2.2 j hj)⟩
theorem KP.up {k : Nat} {g : Nat → Int32} (h : k ≠ 1 ∧ k ≠ 2 ∧ k ≠ 3 ∧ k ≠ 21) : KP mo (upA mo k g) := ⟨upA_n _ _ (by omega), upA_n _ _ (by omega), upA_n _ _ (by omega), fun j _ => by rw [upA_n _ _ (by omega)]⟩
theorem KP.um {k i : Nat} {w : Int32} (h : k ≠ 1 ∧ k ≠ 2 ∧ k ≠ 3 ∧ k ≠ 21) : KP mo (upm mo k i w) := KP.up h
theorem KP.lay : KP mo (upA mo 1 (layF (mo 1) s 8)) := ⟨upA_n _ _ (by omega), upA_n _ _ (by omega), upA_n _ _ (by omega), fun j hj => by rw [upA_0]; exact if_neg (by omega)⟩
/-- taken back -/
theorem lay_tak {m : Mem} (e : m 1 = layF (mo 1) s 8) : ∃ m', Mo_takes m 8 = some m' ∧ ag s (m' 0) 0 1452 ∧ KP m m' ∧ m' = upA m 0 (m' 0) := by
  refine ⟨_, Mo_takes_s (k := 8) (by omega), fun i h1 h2 => ?_, KP.up (by omega), by rw [upA_0]⟩
  rw [upA_0, e]
  unfold takF layF
  rw [if_pos h2, if_pos (by omega), show 1452 * 8 + i - 1452 * 8 = i by omega]
theorem Mo_lays_8 : Mo_lays mo 8 = some (upA mo 1 (layF (mo 1) (mo 0) 8)) := Mo_lays_s (k := 8) (by omega)
theorem ag.lo {a b c d : Nat} (e : ag s s' a b) (h1 : a ≤ c) (h2 : d ≤ b) : ag s s' c d := fun i h3 h4 => e i (by omega) (by omega)
theorem RF.cg (h : RF n v fo ro ra vc os li s) (e : ag s s' 0 1452) : RF n v fo ro ra vc os li s' := by
  have hn := h.1.n20
  obtain ⟨hF, hr, hb, hv, ho, hl, jt, jf, jg, jp, jd, jv, jr, jo, jl⟩ := id h
  have e1 : ag s s' 0 160 := e.lo (by omega) (by omega)
  have e2 : ag s s' 160 172 := e.lo (by omega) (by omega)
  have e3 : ag s s' 176 216 := e.lo (by omega) (by omega)
  have e4 : ag s s' 216 252 := e.lo (by omega) (by omega)
  have e5 : ag s s' 252 1452 := e.lo (by omega) (by omega)
  have q : ∀ i, i < 1452 → s' i = s i := fun i hi => e i (by omega) hi
  exact ⟨hF.cg e1 (q _ (by omega)) (q _ (by omega)), hr.cg e2, hb.cg hn e1 (q _ (by omega)), hv.cg hn e1 e5, ho.cg e3, hl.cg (q _ (by omega)) e4, jt.cg (q _ (by omega)) (q _ (by omega)), jf.cg hn e1, jg.cg hn e1, jp.cg hn e1 (q _ (by omega)), jd.cg hn e1, jv.cg hn e1 e5, jr.cg e2, jo.cg hn e1 e3, jl.cg (q _ (by omega)) e4⟩
/-- the class's memories agree where the field reaches -/
def CE (fo ro ra vc os li fo' ro' ra' vc' os' li' : Mem) : Prop := (∀ i, i < 20 → fo' 5 i = fo 5 i ∧ fo' 6 i = fo 6 i ∧ fo' 7 i = fo 7 i) ∧ (fo' 8 0 = fo 8 0 ∧ fo' 9 0 = fo 9 0 ∧ fo' 10 0 = fo 10 0) ∧ (∀ i, i < 20 → ro' 0 i = ro 0 i ∧ ro' 1 i = ro 1 i ∧ ro' 2 i = ro 2 i ∧ ro' 3 i = ro 3 i) ∧ ro' 4 0 = ro 4 0 ∧ (∀ i, i < 12 → ra' 0 i = ra 0 i) ∧ (∀ i, i < 20 → vc' 0 i = vc 0 i ∧ vc' 1 i = vc 1 i) ∧ vc' 2 0 = vc 2 0 ∧ (∀ i, i < 8 → os' 0 i = os 0 i ∧ os' 1 i = os 1 i ∧ os' 2 i = os 2 i ∧ os' 3 i = os 3 i) ∧ os' 4 0 = os 4 0 ∧ (∀ i, i < 12 → li' 0 i = li 0 i ∧ li' 1 i = li 1 i ∧ li' 2 i = li 2 i) ∧ li' 3 0 = li 3 0
theorem RF.cc {fo' ro' ra' vc' os' li' : Mem} (h : RF n v fo ro ra vc os li s) (e : CE fo ro ra vc os li fo' ro' ra' vc' os' li') : RF n v fo' ro' ra' vc' os' li' s := by
  have hn := h.1.n20
  obtain ⟨⟨f1, f2, f3, f4, f5, f6, f7⟩, hr, hb, hv, ho, hl, j⟩ := id h
  have hv20 := hv.v20 hn
  obtain ⟨c1, ⟨c2, c3, c4⟩, c5, c6, c7, c8, c9, c10, c11, c12, c13⟩ := e
  refine ⟨⟨f1, by rw [c6]; exact f2, f3, by rw [c3]; exact f4, fun f hf => ?_, fun f hf => ?_, fun f h1 h2 => ?_⟩, fun k hk => by rw [c7 k hk]; exact hr k hk, ⟨by rw [c4]; exact hb.1, by rw [c2]; exact hb.2⟩, ?_, ⟨by rw [c11]; exact ho.1, fun i hi hz => ?_⟩, ⟨by rw [c13]; exact hl.1, fun L i h1 h2 h3 => ?_⟩, j⟩
  · rw [(c5 f (by omega)).1, (c5 f (by omega)).2.1, (c5 f (by omega)).2.2.1, (c5 f (by omega)).2.2.2]; exact f5 f hf
  · rw [(c1 f (by omega)).1, (c1 f (by omega)).2.1, (c1 f (by omega)).2.2]; exact f6 f hf
  · rw [(c1 f (by omega)).1, (c1 f (by omega)).2.1, (c1 f (by omega)).2.2]; exact f7 f h1 h2
  · obtain ⟨q1, q2, mm, kk, q3, q4, q5⟩ := hv
    refine ⟨q1, by rw [c9]; exact q2, mm, kk, fun i hi => ?_, q4, q5⟩
    rw [(c8 i (by omega)).1, (c8 i (by omega)).2]
    exact q3 i hi
  · rw [(c10 i hi).1, (c10 i hi).2.1, (c10 i hi).2.2.1, (c10 i hi).2.2.2]; exact ho.2 i hi hz
  · rw [(c12 i (by omega)).1, (c12 i (by omega)).2.1, (c12 i (by omega)).2.2]; exact hl.2 L i h1 h2 h3
theorem cp20 {f g : Nat → Int32} {i : Nat} (h : i < 20) : va_cpy f g (0 : Int32).toNatClampNeg (0 : Int32).toNatClampNeg (20 : Int32).toNatClampNeg i = f i := sb_cpy0 (n := 20) h
theorem cp12 {f g : Nat → Int32} {i : Nat} (h : i < 12) : va_cpy f g (0 : Int32).toNatClampNeg (0 : Int32).toNatClampNeg (12 : Int32).toNatClampNeg i = f i := sb_cpy0 (n := 12) h
theorem cp8 {f g : Nat → Int32} {i : Nat} (h : i < 8) : va_cpy f g (0 : Int32).toNatClampNeg (0 : Int32).toNatClampNeg (8 : Int32).toNatClampNeg i = f i := sb_cpy0 (n := 8) h
theorem upm_x (M : Mem) (k i : Nat) (w : Int32) (k' : Nat) : upm M k i w k' = if k' = k then upd (M k) i w else M k' := rfl
theorem upA_x (M : Mem) (k : Nat) (g : Nat → Int32) (k' : Nat) : upA M k g k' = if k' = k then g else M k' := rfl
theorem Fi_copyFrom_e {fot rot rat vct ost lit : Mem} (hb : fo 10 0 = 0 ∨ fo 10 0 = 1) : ∃ fo' ro' ra' vc' os' li', Fi_copyFrom fot rot rat vct ost lit fo ro ra vc os li = some (fo', ro', ra', vc', os', li') ∧ CE fo ro ra vc os li fo' ro' ra' vc' os' li' := by
  unfold Fi_copyFrom Ro_copyFrom Ra_copyFrom Va_copyFrom Of_copyFrom Li_copyFrom
  simp only [bn1_r, stk_r, ckB_ok _ hb]
  refine ⟨_, _, _, _, _, _, rfl, fun i hi => ⟨?_, ?_, ?_⟩, ⟨?_, ?_, ?_⟩, fun i hi => ⟨?_, ?_, ?_, ?_⟩, ?_, fun i hi => ?_, fun i hi => ⟨?_, ?_⟩, ?_, fun i hi => ⟨?_, ?_, ?_, ?_⟩, ?_, fun i hi => ⟨?_, ?_, ?_⟩, ?_⟩
  all_goals (first | (simp only [upm_x, upA_x, pk_us, reduceIte, Nat.reduceEqDiff, Nat.zero_ne_one, Nat.one_ne_zero]; done) | (simp only [upm_x, upA_x, pk_us, reduceIte, Nat.reduceEqDiff, Nat.zero_ne_one, Nat.one_ne_zero]; first | exact cp20 hi | exact cp12 hi | exact cp8 hi))
theorem RF_copy {fot rot rat vct ost lit : Mem} (h : RF n v fo ro ra vc os li s) : ∃ fo' ro' ra' vc' os' li', Fi_copyFrom fot rot rat vct ost lit fo ro ra vc os li = some (fo', ro', ra', vc', os', li') ∧ RF n v fo' ro' ra' vc' os' li' s := by
  obtain ⟨a, b, c, d, e, f, h1, h2⟩ := Fi_copyFrom_e (fo := fo) (ro := ro) (ra := ra) (vc := vc) (os := os) (li := li) (fot := fot) (rot := rot) (rat := rat) (vct := vct) (ost := ost) (lit := lit) (by rw [h.2.2.1.1]; exact h.2.2.2.2.2.2.1.2)
  exact ⟨a, b, c, d, e, f, h1, h.cc h2⟩
end AS
