/-! a plan anew: those on the ground, by a rule; in turn -/
section TU
variable {n v m k c f : Nat} {fo ro ra vc os li mo pn mo0 : Mem} {x y sort ord : Int32} {s s' s1 : Nat → Int32} {U D D0 S : Nat → Bool} {K e : Nat → Nat} {kd : Bool}
def REST (p : Int32) (mo : Mem) : Option Mem := if p = 2 then bn1 (Mo_turns mo) (fun m => Mo_plansBy_b112 p m) else Mo_plansBy_b112 p mo
theorem hIg (hn : n ≤ 20) (h7 : ∀ f, f < n → S f = true → s1 (8 * f + 7) = 0) : ∀ D mo f k, IA n s1 D mo → f < n → D f = false → S f = true → k < 1196 → IA n s1 (orD D f) (stM mo k f (gvS (mo 0) f (nI k))) := fun D mo f k h hf hd hS hk => h.step hn hf hd (h7 f hf hS) (fun i a b c => gv_un ⟨a, b, c⟩) (by rw [gv_4]; exact nI_pos' (by omega))
theorem gp01 {p : Int32} {fo0 : Nat → Int32} (hp : p = 0 ∨ p = 1) (h : PSt true n U D0 c pn fo ro ra mo) (hI : IA n s1 D0 mo) (j : Jf n s1) (h7 : ∀ f, f < n → s1 (8 * f + 7) = 0) (hq : QS 20 (Cq n D0 (S1 s1)) K m e pn) (hK : ∀ f, f < n → K f = if p = 1 then wtN s1 f else etN s1 f) (hKb : ∀ f, f < 20 → K f < 10000) (hc : c + m ≤ 35) (hm : m ≤ 20) (hfo : ∀ f, f < n → D0 f = false → fo 5 f = fo0 f) : ∃ pn' fo' mo' x', Pl_seatGrounded pn fo ro ra = some (x', pn', fo') ∧ REST p mo = finP mo' ∧ GE true n ro ra mo fo0 (IA n s1) (Dq D0 e m) (c + m) pn fo 0 pn' fo' mo' x' := by
  have hn := h.n20
  have hF : ∀ D mo, IA n s1 D mo → (∀ f, f < 20 → mo 14 f = if D f then 1 else 0) → mo 0 173 = nI n → Mo_firstOf mo 1 p (-1) = some (bk (fun f => !D f && S1 s1 f) K n) := by
    rcases hp with rfl | rfl
    · exact hF1 hn j (fun f hf => by rw [hK f hf, if_neg (by decide)]) (by decide) (by decide)
    · exact hF1w hn j (fun f hf => by rw [hK f hf, if_pos rfl])
  obtain ⟨pn', fo', mo', x', o1, o2, o3⟩ := ground_loop (kd := true) (ro := ro) (ra := ra) (L := Mo_plansBy_b120 p) (FIN := finP) (sort := 1) (ord := p) (S := S1 s1) (I := IA n s1) (fo0 := fo0) (n := n) (K := K) (D0 := D0) (m := m) (e := e) (pq := pn) (fun N mo x => b120_s N mo x) (hIg hn (fun f hf _ => h7 f hf)) hF (fun D mo f hI hf hd _ => by rw [(hI.1 f hf).1 7 (by omega)]; exact h7 f hf) hn hq hKb hm m 0 fl fl c pn fo mo 0 U (by omega) (by rw [fl_v]; omega) (by rw [fl_v]; omega) hc hq.1 (by rw [Dq_0]; exact h) (by rw [Dq_0]; exact hI) (by rw [Dq_0]; exact hfo)
  refine ⟨pn', fo', mo', x', o1, ?_, o3⟩
  unfold REST Mo_plansBy_b112
  have np : ¬ p = 2 := by rcases hp with rfl | rfl <;> decide
  have pk := q_pick hn hq (show 0 ≤ m by omega)
  rw [Dq_0] at pk
  rw [if_neg np, hF D0 mo hI h.2.2.1 h.sn, bn1_r, pk]
  exact o2
/-! in turn -/
def lnN (s : Nat → Int32) (f : Nat) : Nat := (s (8 * f)).toNatClampNeg
def ahB (n : Nat) (s1 : Nat → Int32) (f g : Nat) : Bool := decide (g < n ∧ S1 s1 g = true ∧ s1 (8 * g) = s1 (8 * f) ∧ 32 * etN s1 g + g < 32 * etN s1 f + f)
def tuN (n : Nat) (s1 : Nat → Int32) (f : Nat) : Nat := cn (ahB n s1 f) 20
theorem ln_v (j : Jf n s) (hf : f < n) : s (8 * f) = nI (lnN s f) ∧ lnN s f < 5 := by
  obtain ⟨a, b, c, d, e, h, -⟩ := j f hf
  unfold lnN
  rw [e, nI_clamp (by omega)]
  exact ⟨rfl, h⟩
theorem Pl_turnOf_s {sx : Nat → Int32} (h : Rf n fo ro sx) (j : Jf n s1) (c9 : fo 9 0 = s1 172) (co : ∀ f, f < n → offS sx f = offS s1 f) (cl : ∀ f, f < n → sx (8 * f) = s1 (8 * f)) (ce : ∀ f, f < n → sx (8 * f + 1) = s1 (8 * f + 1)) (hf : f < n) : Pl_turnOf fo ro (nI f) = some (nI (tuN n s1 f)) := by
  have hn := h.n20
  obtain ⟨e1, e2⟩ := et_v j hf
  have l : ∀ (r g N : Nat), g + r = 20 → r < N → Pl_turnOf_b16 fo ro (nI f) N (nI (etN s1 f)) (nI (cn (ahB n s1 f) g)) (nI g) = some (nI (tuN n s1 f)) := by
    intro r
    induction r with
    | zero =>
      intro g N hg hN
      obtain ⟨N, rfl⟩ : ∃ q, N = q + 1 := ⟨N - 1, by omega⟩
      have e : g = 20 := by omega
      subst e
      show Pl_turnOf_b16B fo ro (nI f) (Pl_turnOf_b16 fo ro (nI f) N) _ _ (nI 20) = _
      unfold Pl_turnOf_b16B
      rw [if_pos (by decide)]
      rfl
    | succ r ih =>
      intro g N hg hN
      obtain ⟨N, rfl⟩ : ∃ q, N = q + 1 := ⟨N - 1, by omega⟩
      have ih' := ih (g + 1) N (by omega) (by omega)
      have cg := cn_le (ahB n s1 f) g
      have cu : cn (ahB n s1 f) (g + 1) = cn (ahB n s1 f) g + (if ahB n s1 f g = true then 1 else 0) := rfl
      rw [cu] at ih'
      show Pl_turnOf_b16B fo ro (nI f) (Pl_turnOf_b16 fo ro (nI f) N) _ _ (nI g) = _
      unfold Pl_turnOf_b16B
      rw [if_neg (show ¬ 20 ≤ nI g from nI_ge (b := 20) (by omega) (by omega)), Ro_sameLine_s h (by omega) (by omega), bn1_r, bI_z]
      simp only [stk_r, nI_1]
      have no : ahB n s1 f g = false → Pl_turnOf_b16 fo ro (nI f) N (nI (etN s1 f)) (nI (cn (ahB n s1 f) g)) (nI (g + 1)) = some (nI (tuN n s1 f)) := fun z => by
        rw [z] at ih'; exact ih'
      have ys : ahB n s1 f g = true → Pl_turnOf_b16 fo ro (nI f) N (nI (etN s1 f)) (nI (cn (ahB n s1 f) g + 1)) (nI (g + 1)) = some (nI (tuN n s1 f)) := fun z => by
        rw [z] at ih'; exact ih'
      by_cases q : f < n ∧ g < n ∧ sx (8 * f) = sx (8 * g)
      · rw [if_pos q, Fi_off_s h q.2.1, bn1_r, c9, co g q.2.1]
        have ql : s1 (8 * g) = s1 (8 * f) := by rw [← cl g q.2.1, ← cl f hf]; exact q.2.2.symm
        obtain ⟨g1, g2⟩ := et_v j q.2.1
        by_cases q2 : offS s1 g ≤ s1 172
        · rw [if_neg (Int32.not_lt.mpr q2)]
          exact no (decide_eq_false (fun z => (of_decide_eq_true z.2.1 : ¬ offS s1 g ≤ s1 172) q2))
        · have sg : S1 s1 g = true := decide_eq_true q2
          rw [if_pos (Int32.not_le.mp q2), ckI_nI _ (by omega) (by omega), nI_clamp (by omega), h.et q.2.1, ce g q.2.1, g1]
          by_cases q3 : etN s1 g < etN s1 f
          · rw [if_pos (nI_lt q3 (by omega))]
            exact ys (decide_eq_true ⟨q.2.1, sg, ql, by omega⟩)
          · rw [if_neg (nI_nlt (by omega) (by omega))]
            by_cases q4 : etN s1 g = etN s1 f
            · rw [if_pos (by rw [q4])]
              by_cases q5 : f ≤ g
              · rw [if_pos (nI_le q5 (by omega))]
                exact no (decide_eq_false (fun z => by have := z.2.2.2; omega))
              · rw [if_neg (nI_ge (by omega) (by omega))]
                exact ys (decide_eq_true ⟨q.2.1, sg, ql, by omega⟩)
            · rw [if_neg (fun z => q4 ((nI_eq (by omega) (by omega)).mp z))]
              exact no (decide_eq_false (fun z => by have := z.2.2.2; omega))
      · rw [if_neg q]
        exact no (decide_eq_false (fun z => q ⟨hf, z.1, by rw [cl f hf, cl g z.1]; exact z.2.2.1.symm⟩))
  unfold Pl_turnOf
  rw [ckI_nI _ (by omega) (by omega), nI_clamp (by omega), stk_r, h.et hf, ce f hf, e1]
  exact l 20 0 fl (by omega) (by rw [fl_v]; omega)
theorem cn_lt_cn {P Q : Nat → Bool} {a : Nat} : ∀ {k : Nat}, (∀ i, i < k → P i = true → Q i = true) → a < k → Q a = true → P a = false → cn P k < cn Q k
  | 0, _, h, _, _ => by omega
  | k + 1, h, ha, hq, hp => by
    have h1 := cn_le_cn (P := P) (Q := Q) (k := k) (fun i hi => h i (by omega))
    show cn P k + (if P k = true then 1 else 0) < cn Q k + (if Q k = true then 1 else 0)
    by_cases e : a = k
    · subst e; rw [hp, hq]; show cn P a + 0 < cn Q a + 1; omega
    · have h2 := cn_lt_cn (P := P) (Q := Q) (a := a) (k := k) (fun i hi => h i (by omega)) (by omega) hq hp
      by_cases p : P k = true
      · rw [if_pos p, if_pos (h k (by omega) p)]; omega
      · rw [if_neg p]; omega
theorem tu_lt (hn : n ≤ 20) {g : Nat} (hf : f < n) (hg : g < n) (sf : S1 s1 f = true) (hl : s1 (8 * f) = s1 (8 * g)) (he : 32 * etN s1 f + f < 32 * etN s1 g + g) : tuN n s1 f < tuN n s1 g := by
  refine cn_lt_cn (a := f) (fun i hi z => ?_) (by omega) (decide_eq_true ⟨hf, sf, hl, he⟩) (decide_eq_false (fun z => by have := z.2.2.2; omega))
  have z' := of_decide_eq_true z
  exact decide_eq_true ⟨z'.1, z'.2.1, by rw [z'.2.2.1]; exact hl, by omega⟩
theorem tu_inj (hn : n ≤ 20) {g : Nat} (hf : f < n) (hg : g < n) (sf : S1 s1 f = true) (sg : S1 s1 g = true) (hl : s1 (8 * f) = s1 (8 * g)) (he : tuN n s1 f = tuN n s1 g) : f = g := by
  by_cases q : 32 * etN s1 f + f < 32 * etN s1 g + g
  · have := tu_lt hn hf hg sf hl q; omega
  · by_cases q2 : 32 * etN s1 g + g < 32 * etN s1 f + f
    · have := tu_lt hn hg hf sg hl.symm q2; omega
    · omega
theorem cn_at1 {P : Nat → Bool} : ∀ {k : Nat}, (∀ i j, i < k → j < k → P i = true → P j = true → i = j) → cn P k ≤ 1
  | 0, _ => by show 0 ≤ 1; omega
  | k + 1, h => by
    show cn P k + (if P k = true then 1 else 0) ≤ 1
    by_cases p : P k = true
    · rw [if_pos p]
      have : cn P k = 0 := Nat.le_zero.mp (Nat.le_of_not_lt (fun z => by
        obtain ⟨i, hi, e⟩ := cn_pos z
        have := h i k (by omega) (by omega) e p
        omega))
      omega
    · rw [if_neg p]
      exact cn_at1 (fun i j hi hj => h i j (by omega) (by omega))
theorem cn_orx {P Q : Nat → Bool} : ∀ k, cn (fun i => P i || Q i) k ≤ cn P k + cn Q k
  | 0 => by show 0 ≤ 0 + 0; omega
  | k + 1 => by
    have := cn_orx (P := P) (Q := Q) k
    show cn (fun i => P i || Q i) k + (if (P k || Q k) = true then 1 else 0) ≤ cn P k + (if P k = true then 1 else 0) + (cn Q k + (if Q k = true then 1 else 0))
    cases P k <;> cases Q k <;> simp <;> omega
theorem cn_rank {P : Nat → Bool} {T : Nat → Nat} {k : Nat} (inj : ∀ i j, i < k → j < k → P i = true → P j = true → T i = T j → i = j) : ∀ t, cn (fun i => P i && decide (T i < t)) k ≤ t
  | 0 => by
    have : ∀ q, cn (fun i => P i && decide (T i < 0)) q = 0 := by
      intro q
      induction q with
      | zero => rfl
      | succ q ih =>
        show cn (fun i => P i && decide (T i < 0)) q + (if (P q && decide (T q < 0)) = true then 1 else 0) = 0
        rw [ih, decide_eq_false (Nat.not_lt_zero _), Bool.and_false]
        rfl
    rw [this]; omega
  | t + 1 => by
    have h1 := cn_rank inj t
    have h2 : cn (fun i => P i && decide (T i = t)) k ≤ 1 := cn_at1 (fun i j hi hj a b => by
      have a' : P i = true ∧ decide (T i = t) = true := Bool.and_eq_true _ _ ▸ a
      have b' : P j = true ∧ decide (T j = t) = true := Bool.and_eq_true _ _ ▸ b
      exact inj i j hi hj a'.1 b'.1 (by rw [of_decide_eq_true a'.2, of_decide_eq_true b'.2]))
    have h3 := cn_orx (P := fun i => P i && decide (T i < t)) (Q := fun i => P i && decide (T i = t)) k
    have h4 : cn (fun i => P i && decide (T i < t + 1)) k ≤ cn (fun i => (P i && decide (T i < t)) || (P i && decide (T i = t))) k := cn_le_cn (fun i hi a => by
      have a' : P i = true ∧ decide (T i < t + 1) = true := Bool.and_eq_true _ _ ▸ a
      have lt := of_decide_eq_true a'.2
      show ((P i && decide (T i < t)) || (P i && decide (T i = t))) = true
      rw [a'.1]
      by_cases q : T i < t
      · rw [decide_eq_true q]; rfl
      · rw [decide_eq_true (show T i = t by omega), decide_eq_false q]; rfl)
    omega
/-- of a line, the reference's next -/
theorem hFl {l : Nat} (hn : n ≤ 20) (j : Jf n s1) (hl : l < 5) (hI : IA n s1 D mo) (hd : ∀ f, f < 20 → mo 14 f = if D f then 1 else 0) (hs : mo 0 173 = nI n) : Mo_firstOf mo 1 0 (nI l) = some (bk (fun f => !D f && (decide (lnN s1 f = l) && S1 s1 f)) (etN s1) n) := by
  refine firstOf_g hn hs (fun f hf k6 x4 => ?_) (fun f g hf hg _ _ => ?_)
  · obtain ⟨l1, l2⟩ := ln_v j hf
    unfold Mo_firstOf_b6B
    rw [n173 (mo := mo), k173, hs, if_neg (nI_ge hf (by omega)), ckI_nI _ (by omega) (by omega), nI_clamp (by omega), hd f (by omega), stk_r, nI_1, if_neg (show ¬ nI l = -1 from fun z => by rw [nI_eqm (by omega)] at z; exact z), Mo_of_0 (by omega), bn1_r, show mo 0 (8 * f) = s1 (8 * f) from (hI.1 f hf).1 0 (by omega), l1, h48_1 (by omega), hI.off hf, hI.n172]
    cases q : D f with
    | false =>
      rw [if_neg (show ¬ false = true by decide), if_pos rfl]
      by_cases q2 : lnN s1 f = l
      · rw [if_pos (by rw [q2]), decide_eq_true q2]
        rfl
      · rw [if_neg (fun z => q2 ((nI_eq (by omega) (by omega)).mp z)), decide_eq_false q2]
        rfl
    | true =>
      rw [if_pos rfl, if_neg (by decide)]
      rfl
  · rw [ah_0 hn (hI.jf j) (by decide) (by decide) f g hf hg, hI.et hf, hI.et hg]
/-- what comes at a key -/
theorem turn_pick {i κ : Nat} {pq : Mem} (hn : n ≤ 20) (j : Jf n s1) (hq : QS 20 (Cq n D0 (S1 s1)) K m e pq) (hK : ∀ f, f < n → K f = 5 * tuN n s1 f + lnN s1 f) (hD0 : ∀ f, f < n → S1 s1 f = true → D0 f = false) (him : i ≤ m) (lo : ∀ q, q < i → e q / 32 < κ) (hi : ∀ q, i ≤ q → q < m → κ ≤ e q / 32) : bk (fun f => !Dq D0 e i f && (decide (lnN s1 f = κ % 5) && S1 s1 f)) (etN s1) n = if i < m ∧ e i / 32 = κ then nI (e i % 32) else -1 := by
  have inv : ∀ q, q < m → ∃ f, f < n ∧ S1 s1 f = true ∧ e q / 32 = K f ∧ e q % 32 = f ∧ e q = 32 * K f + f := fun q hq' => by
    obtain ⟨f, a1, a2, a3⟩ := hq.2.2.2.1 q hq'
    obtain ⟨b1, b2, b3⟩ := cq_t a2
    exact ⟨f, b1, b3, by omega, by omega, a3⟩
  have dn : ∀ f, f < n → S1 s1 f = true → (Dq D0 e i f = true ↔ K f < κ) := fun f hf hs => by
    constructor
    · intro z
      have : D0 f = true ∨ anyN (fun q => e q % 32) i f = true := Bool.or_eq_true _ _ ▸ z
      rcases this with z | z
      · rw [hD0 f hf hs] at z; exact Bool.noConfusion z
      · obtain ⟨q, q1, q2⟩ := any_ex z
        have q2 : e q % 32 = f := q2
        obtain ⟨f', c1, c2, c3, c4, c5⟩ := inv q (by omega)
        have : f' = f := by omega
        subst this
        have := lo q q1
        omega
    · intro z
      obtain ⟨q, q1, q2⟩ := hq.2.2.2.2 f (by omega) (cq_of hf (hD0 f hf hs) hs)
      have qi : q < i := Nat.lt_of_not_le (fun z2 => by have := hi q z2 q1; omega)
      have := any_in (g := fun q => e q % 32) (i := q) (k := i) qi
      have e3 : (fun q => e q % 32) q = f := by show e q % 32 = f; omega
      show (D0 f || anyN (fun q => e q % 32) i f) = true
      rw [← e3, this, Bool.or_true]
  have K5 : ∀ f, f < n → K f % 5 = lnN s1 f ∧ K f / 5 = tuN n s1 f := fun f hf => by
    have := (ln_v j hf).2
    rw [hK f hf]
    omega
  have leq : ∀ f g, f < n → g < n → lnN s1 f = lnN s1 g → s1 (8 * f) = s1 (8 * g) := fun f g hf hg e => by rw [(ln_v j hf).1, (ln_v j hg).1, e]
  rcases bk_spec (c := fun f => !Dq D0 e i f && (decide (lnN s1 f = κ % 5) && S1 s1 f)) (K := etN s1) n hn with ⟨e1, no⟩ | ⟨g, hg, e1, cg, mn⟩
  · by_cases q : i < m ∧ e i / 32 = κ
    · exfalso
      obtain ⟨f, c1, c2, c3, c4, c5⟩ := inv i q.1
      have h1 := no f c1
      have h2 : Dq D0 e i f = false := by
        cases z : Dq D0 e i f with
        | false => rfl
        | true => have := (dn f c1 c2).mp z; omega
      have h3 : lnN s1 f = κ % 5 := by rw [← (K5 f c1).1]; omega
      have h1' : (!Dq D0 e i f && (decide (lnN s1 f = κ % 5) && S1 s1 f)) = false := h1
      rw [h2, decide_eq_true h3, c2] at h1'
      exact Bool.noConfusion h1'
    · rw [if_neg q]; exact e1
  · have cg' : (!Dq D0 e i g && (decide (lnN s1 g = κ % 5) && S1 s1 g)) = true := cg
    have d1 : (!Dq D0 e i g) = true ∧ (decide (lnN s1 g = κ % 5) && S1 s1 g) = true := Bool.and_eq_true _ _ ▸ cg'
    have d2 : decide (lnN s1 g = κ % 5) = true ∧ S1 s1 g = true := Bool.and_eq_true _ _ ▸ d1.2
    have gl := of_decide_eq_true d2.1
    have gs := d2.2
    have nd : ¬ K g < κ := fun z => by
      have := (dn g hg gs).mpr z
      rw [this] at d1
      exact Bool.noConfusion d1.1
    have t1 : κ / 5 ≤ tuN n s1 g := by
      have := (K5 g hg).1
      have := (K5 g hg).2
      omega
    have t2 : tuN n s1 g ≤ κ / 5 := by
      have r := cn_rank (P := fun h => decide (h < n ∧ S1 s1 h = true ∧ s1 (8 * h) = s1 (8 * g))) (T := tuN n s1) (k := 20) (fun a b _ _ ha hb he => by
        have ha' := of_decide_eq_true ha
        have hb' := of_decide_eq_true hb
        exact tu_inj hn ha'.1 hb'.1 ha'.2.1 hb'.2.1 (by rw [ha'.2.2, hb'.2.2]) he) (κ / 5)
      refine Nat.le_trans (cn_le_cn (fun h _ z => ?_)) r
      have z' := of_decide_eq_true z
      show (decide (h < n ∧ S1 s1 h = true ∧ s1 (8 * h) = s1 (8 * g)) && decide (tuN n s1 h < κ / 5)) = true
      have dh : Dq D0 e i h = true := by
        cases q : Dq D0 e i h with
        | true => rfl
        | false =>
          exfalso
          have hl : lnN s1 h = κ % 5 := by
            rw [← gl]
            have e2 := z'.2.2.1
            rw [(ln_v j z'.1).1, (ln_v j hg).1] at e2
            exact (nI_eq (by have := (ln_v j z'.1).2; omega) (by have := (ln_v j hg).2; omega)).mp e2
          have cc : (!Dq D0 e i h && (decide (lnN s1 h = κ % 5) && S1 s1 h)) = true := by rw [q, decide_eq_true hl, z'.2.1]; rfl
          have := mn h z'.1 cc
          omega
      have kh := (dn h z'.1 z'.2.1).mp dh
      have h5 := K5 h z'.1
      have hl : lnN s1 h = κ % 5 := by
        rw [← gl]
        have e2 := z'.2.2.1
        rw [(ln_v j z'.1).1, (ln_v j hg).1] at e2
        exact (nI_eq (by have := (ln_v j z'.1).2; omega) (by have := (ln_v j hg).2; omega)).mp e2
      rw [decide_eq_true ⟨z'.1, z'.2.1, z'.2.2.1⟩, decide_eq_true (show tuN n s1 h < κ / 5 by omega)]
      rfl
    have kg : K g = κ := by
      have := (K5 g hg).1
      have := (K5 g hg).2
      omega
    obtain ⟨q, q1, q2⟩ := hq.2.2.2.2 g (by omega) (cq_of hg (hD0 g hg gs) gs)
    have iq : i ≤ q := Nat.le_of_not_lt (fun z => by have := lo q z; omega)
    have im : i < m := by omega
    obtain ⟨f, c1, c2, c3, c4, c5⟩ := inv i im
    have ek : e i / 32 = κ := by
      have h1 := hi i (Nat.le_refl _) im
      by_cases z : i = q
      · subst z; omega
      · have := hq.2.2.1 i q (by omega) q1; omega
    have fg : f = g := by
      have f5 := K5 f c1
      have g5 := K5 g hg
      exact tu_inj hn c1 hg c2 gs (leq f g c1 hg (by omega)) (by omega)
    rw [if_pos ⟨im, ek⟩, e1, c4, fg]
end TU
