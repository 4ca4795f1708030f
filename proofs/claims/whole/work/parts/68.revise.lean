/-! a plan revised: who has landed, who is in the air -/
section RV
variable {n v m k c f : Nat} {fo ro ra vc os li mo pn : Mem} {x y : Int32} {s s' s1 : Nat → Int32} {U D D0 S : Nat → Bool} {K e : Nat → Nat} {kd : Bool}
def hoN (s : Nat → Int32) (f : Nat) : Nat := (s (8 * f + 5)).toNatClampNeg
def SA (s : Nat → Int32) (f : Nat) : Bool := decide (Air s f)
def lB (n : Nat) (s : Nat → Int32) (f : Nat) : Bool := decide (f < n ∧ Air s f ∧ s (8 * f + 4) ≤ s 172)
def dR (n : Nat) (s : Nat → Int32) (f : Nat) : Bool := decide (f < n ∧ s (8 * f + 7) = 1) || lB n s f
def kR (n : Nat) (s : Nat → Int32) (f : Nat) : Nat := if f < n ∧ Air s f then etN s f + hoN s f else 0
def luN (n : Nat) (s : Nat → Int32) : Nat → Nat → Bool
  | 0, _ => false
  | k + 1, m => luN n s k m || (lB n s k && decide (s (8 * k + 4) = nI m))
theorem air_v (j : J n s) (hf : f < n) (ha : Air s f) : s (8 * f + 1) = nI (etN s f) ∧ etN s f < 720 ∧ s (8 * f + 5) = nI (hoN s f) ∧ etN s f + hoN s f ≤ 1019 ∧ s (8 * f + 4) = nI (slN s f) ∧ slN s f < 1200 ∧ s (8 * f + 7) = 0 ∧ ∀ t cc, s 172 = nI t → t < 720 → s (8 * f + 2) = nI cc → cc ≤ 300 → etN s f + hoN s f ≤ t + cc := by
  obtain ⟨b, c, t, m, hh, k, e1, e2, e3, e4, e5, e6, hm, em, -, hb, hc, ht⟩ := j.2.2.2.1 f hf ha.1
  have eg : goS s f = nI (b + hh) - nI c := by
    show s (8 * f + 1) - s (8 * f + 2) + s (8 * f + 5) = _
    rw [e1, e2, e5, ← nI_add]
    rw [Int32.sub_eq_add_neg, Int32.sub_eq_add_neg, Int32.add_assoc, Int32.add_comm (-nI c), ← Int32.add_assoc]
  have ga := ha.2
  have ti : (nI (b + hh) - nI c).toInt = ((b + hh : Nat) : Int) - (c : Int) := pk_sub_toInt (by omega) (by omega)
  rw [eg, e3, Int32.le_iff_toInt_le, ti, nI_toInt (by omega)] at ga
  have x1 : etN s f = b := by unfold etN; rw [e1, nI_clamp (by omega)]
  have x2 : hoN s f = hh := by unfold hoN; rw [e5, nI_clamp (by omega)]
  have x3 : slN s f = m := by unfold slN; rw [e4, nI_clamp (by omega)]
  rw [x1, x2, x3]
  refine ⟨e1, hb, e5, by omega, e4, hm, ha.1.2, fun t' cc a1 a2 a3 a4 => ?_⟩
  have q1 := (nI_eq (by omega) (by omega)).mp (e3.symm.trans a1)
  have q2 := (nI_eq (by omega) (by omega)).mp (e2.symm.trans a3)
  omega
theorem cn_le1 {P : Nat → Bool} : ∀ k, cn P k ≤ cn P (k + 1) := fun k => by
  show cn P k ≤ cn P k + _
  omega
theorem lu_cn (j : J n s) : ∀ k, cn (luN n s k) 1200 ≤ cn (lB n s) k
  | 0 => by
    show cn (fun _ => false) 1200 ≤ 0
    rw [cn_f]; omega
  | k + 1 => by
    have ih := lu_cn j k
    have h3 := cn_orx (P := luN n s k) (Q := fun m => lB n s k && decide (s (8 * k + 4) = nI m)) 1200
    have h4 : cn (luN n s (k + 1)) 1200 = cn (fun i => luN n s k i || (lB n s k && decide (s (8 * k + 4) = nI i))) 1200 := rfl
    show _ ≤ cn (lB n s) k + (if lB n s k = true then 1 else 0)
    by_cases q : lB n s k = true
    · rw [if_pos q]
      have h5 : cn (fun m => lB n s k && decide (s (8 * k + 4) = nI m)) 1200 ≤ 1 := cn_at1 (fun a b ha hb e1 e2 => by
        have e1' : lB n s k = true ∧ decide (s (8 * k + 4) = nI a) = true := Bool.and_eq_true _ _ ▸ e1
        have e2' : lB n s k = true ∧ decide (s (8 * k + 4) = nI b) = true := Bool.and_eq_true _ _ ▸ e2
        exact (nI_eq (by omega) (by omega)).mp ((of_decide_eq_true e1'.2).symm.trans (of_decide_eq_true e2'.2)))
      omega
    · rw [if_neg q]
      have h5 : cn (fun m => lB n s k && decide (s (8 * k + 4) = nI m)) 1200 = 0 := by
        rw [Bool.not_eq_true] at q
        rw [q]
        exact cn_f 1200
      omega
theorem lu_in : ∀ {k f : Nat} {m : Nat}, f < k → lB n s f = true → s (8 * f + 4) = nI m → luN n s k m = true
  | k + 1, f, m, h, hl, he => by
    show (luN n s k m || (lB n s k && decide (s (8 * k + 4) = nI m))) = true
    by_cases q : f = k
    · subst q; rw [hl, decide_eq_true he]; exact Bool.or_true _
    · rw [lu_in (k := k) (f := f) (by omega) hl he]; rfl
theorem QS.mk2 {C : Nat → Bool} {j : Nat} {z : Int32} (h : QS k C K m e pn) : QS k C K m e (upm pn 2 j z) := ⟨h.1.mk2, h.2⟩
/-- the class: takes the slots of those that have landed, lays the queue of those in the air -/
theorem rv_cl (h : Rf n fo ro s) (j : J n s) : ∀ (r k N m : Nat) (e : Nat → Nat) (pn : Mem), k + r = 20 → r < N → QS k (Cq n (dR n s) (SA s)) (kR n s) m e pn → (∀ i, i < 1200 → (pn 2 i = pn 3 0 ↔ luN n s k i = true)) → ∃ m' e' pn', Pl_planOn_b17 ro ra N pn fo vc os (nI k) = bn3 (Pl_seatAirborne pn' fo ro ra ((fo 9 0) + 1)) (fun r_5 pn_6 fo_7 => stk (upm pn_6 1 0 0) (fun pn_8 => Pl_planOn_b106 ro ra fl pn_8 fo_7 vc os r_5 0)) ∧ QS 20 (Cq n (dR n s) (SA s)) (kR n s) m' e' pn' ∧ (∀ i, i < 1200 → (pn' 2 i = pn' 3 0 ↔ luN n s 20 i = true)) ∧ pn' 3 = pn 3 ∧ ∀ i, i < 1200 → pn' 2 i = pn 2 i ∨ pn' 2 i = pn 3 0
  | 0, k, N + 1, m, e, pn, hk, _, hq, hu => by
    have e1 : k = 20 := by omega
    subst e1
    refine ⟨m, e, pn, ?_, hq, hu, rfl, fun i _ => Or.inl rfl⟩
    show Pl_planOn_b17B ro ra (Pl_planOn_b17 ro ra N) pn fo vc os (nI 20) = _
    unfold Pl_planOn_b17B
    rw [if_pos (by decide)]
  | r + 1, k, N + 1, m, e, pn, hk, hN, hq, hu => by
    have hn := h.n20
    have Kb : ∀ f, f < 20 → kR n s f < 10000 := fun f hf => by
      unfold kR
      by_cases q : f < n ∧ Air s f
      · rw [if_pos q]; have := (air_v j q.1 q.2).2.2.2.1; omega
      · rw [if_neg q]; omega
    show ∃ m' e' pn', Pl_planOn_b17B ro ra (Pl_planOn_b17 ro ra N) pn fo vc os (nI k) = _ ∧ _
    unfold Pl_planOn_b17B
    rw [if_neg (show ¬ 20 ≤ nI k from nI_ge (b := 20) (by omega) (by omega)), Fi_isAloft_s h (by omega), bn1_r, bI_z]
    have lu1 : ∀ i, luN n s (k + 1) i = (luN n s k i || (lB n s k && decide (s (8 * k + 4) = nI i))) := fun _ => rfl
    by_cases q : k < n ∧ Air s k
    · obtain ⟨v1, v2, v3, v4, v5, v6, v7, v8⟩ := air_v j q.1 q.2
      obtain ⟨d5, d6, d7⟩ := h.pd q.1 q.2.1
      rw [if_pos q, ckI_nI _ (by omega) (by omega), nI_clamp (by omega), h.ck, d5, d6, h.et q.1]
      by_cases q2 : s (8 * k + 4) ≤ s 172
      · have lk : lB n s k = true := decide_eq_true ⟨q.1, q.2, q2⟩
        have cc : Cq n (dR n s) (SA s) k = false := by
          show (decide (k < n) && (!dR n s k && SA s k)) = false
          have : dR n s k = true := by show (_ || lB n s k) = true; rw [lk, Bool.or_true]
          rw [this]
          exact Bool.and_false _
        obtain ⟨m2, e2, pn2, b1, b2, b3, b4, b5⟩ := rv_cl h j r (k + 1) N m e (upm pn 2 (slN s k) (pn 3 0)) (by omega) (by omega) (hq.no cc).mk2 (fun i hi => by
          rw [upm_0, upm_n _ _ _ (show (3 : Nat) ≠ 2 by omega), lu1, lk]
          by_cases z : i = slN s k
          · subst z
            rw [pk_us, decide_eq_true v5]
            exact ⟨fun _ => Bool.or_true _, fun _ => rfl⟩
          · rw [pk_un z, decide_eq_false (fun z2 => z ((nI_eq (by omega) (by omega)).mp (v5.symm.trans z2)).symm), Bool.and_false, Bool.or_false]
            exact hu i hi)
        refine ⟨m2, e2, pn2, ?_, b2, b3, by rw [b4, upm_n _ _ _ (by omega)], fun i hi => ?_⟩
        · rw [if_neg (Int32.not_lt.mpr q2), v5]
          unfold Pl_take
          rw [St_isMinute_s, bn1_r, bI_z, if_pos (in0_nI v6 (by omega)), ckI_nI _ v6 (by omega), nI_clamp (by omega), stk_r, bn1_r, stk_r, nI_1, ← h.ck]
          exact b1
        · rcases b5 i hi with z | z
          · rw [upm_0] at z
            by_cases zz : i = slN s k
            · subst zz; rw [pk_us] at z; exact Or.inr z
            · rw [pk_un zz] at z; exact Or.inl z
          · rw [upm_n _ _ _ (by omega)] at z; exact Or.inr z
      · have lk : lB n s k = false := decide_eq_false (fun z => q2 z.2.2)
        have cc : Cq n (dR n s) (SA s) k = true := cq_of q.1 (by
          show (decide (k < n ∧ s (8 * k + 7) = 1) || lB n s k) = false
          rw [lk, decide_eq_false (fun z => by have := z.2; rw [v7] at this; exact absurd this (by decide))]; rfl) (decide_eq_true q.2)
        obtain ⟨e', pn', a1, a2, a3, a4⟩ := hq.add cc (by omega) Kb
        obtain ⟨m2, e2, pn2, b1, b2, b3, b4, b5⟩ := rv_cl h j r (k + 1) N (m + 1) e' pn' (by omega) (by omega) a2 (fun i hi => by
          rw [a3, a4, lu1, lk, Bool.false_and, Bool.or_false]
          exact hu i hi)
        refine ⟨m2, e2, pn2, ?_, b2, b3, by rw [b4, a4], fun i hi => by rw [← a3, ← a4]; exact b5 i hi⟩
        have ek : kR n s k = etN s k + hoN s k := if_pos q
        rw [if_pos (Int32.not_le.mp q2), v1, v3, nI_add, ← ek, a1, bn1_r, stk_r, nI_1, ← h.ck]
        exact b1
    · have lk : lB n s k = false := decide_eq_false (fun z => q ⟨z.1, z.2.1⟩)
      have cc : Cq n (dR n s) (SA s) k = false := by
        show (decide (k < n) && (!dR n s k && SA s k)) = false
        by_cases z : k < n
        · have : SA s k = false := decide_eq_false (fun z2 => q ⟨z, z2⟩)
          rw [this, Bool.and_false, Bool.and_false]
        · rw [decide_eq_false z]; rfl
      obtain ⟨m2, e2, pn2, b1, b2, b3, b4, b5⟩ := rv_cl h j r (k + 1) N m e pn (by omega) (by omega) (hq.no cc) (fun i hi => by
        rw [lu1, lk, Bool.false_and, Bool.or_false]
        exact hu i hi)
      refine ⟨m2, e2, pn2, ?_, b2, b3, b4, b5⟩
      rw [if_neg q, stk_r, nI_1]
      exact b1
/-- the reference: what was, who is done, what is used -/
def waP (s : Nat → Int32) (f : Nat) : Int32 := if Pd s f then s (8 * f + 4) else -1
theorem rv_mo (hn : n ≤ 20) (hs : s 173 = nI n) (j : J n s) : ∀ (r k N : Nat) (mo : Mem), k + r = n → r < N → mo 0 = s → (∀ f, f < k → mo 15 f = waP s f) → (∀ f, f < 20 → mo 14 f = if decide (f < k) && dR n s f then 1 else 0) → (∀ i, i < 1200 → mo 13 i = if luN n s k i then 1 else 0) → ∃ mo', Mo_revises_b6 N mo (nI k) = bn1 (Mo_firstOf mo' 2 3 (-1)) (fun r => Mo_revises_b125 fl mo' r) ∧ mo' 0 = s ∧ (∀ f, f < n → mo' 15 f = waP s f) ∧ (∀ f, f < 20 → mo' 14 f = if decide (f < n) && dR n s f then 1 else 0) ∧ (∀ i, i < 1200 → mo' 13 i = if luN n s n i then 1 else 0) ∧ KP mo mo' ∧ mo' 1 = mo 1
  | 0, k, N + 1, mo, hk, _, h0, h15, h14, h13 => by
    have e1 : k = n := by omega
    subst e1
    refine ⟨mo, ?_, h0, h15, h14, h13, KP.rf, rfl⟩
    show Mo_revises_b6B (Mo_revises_b6 N) mo (nI k) = _
    unfold Mo_revises_b6B
    rw [n173 (mo := mo), k173, h0, hs, if_pos (nI_le (Nat.le_refl _) (by omega))]
  | r + 1, k, N + 1, mo, hk, hN, h0, h15, h14, h13 => by
    have kn : k < n := by omega
    have lu1 : ∀ i, luN n s (k + 1) i = (luN n s k i || (lB n s k && decide (s (8 * k + 4) = nI i))) := fun _ => rfl
    -- after the first two words
    obtain ⟨g, hg, eg⟩ : ∃ g : Int32, (g = 0 ∨ g = 1) ∧ (if s (8 * k + 7) = 1 then (1 : Int32) else 0) = g := ⟨_, by split <;> simp, rfl⟩
    have un : Mo_revises_b6 (N + 1) mo (nI k) = Mo_revises_b63 (Mo_revises_b6 N) (upm mo 15 k (waP s k)) (nI k) (nI k) g := by
      show Mo_revises_b6B (Mo_revises_b6 N) mo (nI k) = _
      unfold Mo_revises_b6B Mo_revises_b41
      have e7 : Mo_of (upm mo 15 k (waP s k)) (nI k) 7 = some (s (8 * k + 7)) := by rw [Mo_of_7 (by omega), upm_n _ _ _ (by omega), h0]
      have fin : (if s (8 * k + 7) = 1 then Mo_revises_b63 (Mo_revises_b6 N) (upm mo 15 k (waP s k)) (nI k) (nI k) 1 else Mo_revises_b63 (Mo_revises_b6 N) (upm mo 15 k (waP s k)) (nI k) (nI k) 0) = Mo_revises_b63 (Mo_revises_b6 N) (upm mo 15 k (waP s k)) (nI k) (nI k) g := by
        by_cases z : s (8 * k + 7) = 1
        · rw [if_pos z] at eg ⊢; rw [eg]
        · rw [if_neg z] at eg ⊢; rw [eg]
      rw [n173 (mo := mo), k173, h0, hs, if_neg (nI_ge kn (by omega)), Mo_isPlanned_s (by omega), bn1_r, bI_z, h0, Mo_of_4 (by omega), bn1_r, h0]
      simp only [ckI_nI _ (show k < 20 by omega) (show (20 : Nat) < 2 ^ 31 by omega), nI_clamp (show k < 2 ^ 31 by omega), stk_r]
      by_cases q : Pd s k
      · have ew : waP s k = s (8 * k + 4) := if_pos q
        rw [if_pos q, ← ew, e7, bn1_r]
        exact fin
      · have ew : waP s k = -1 := if_neg q
        rw [if_neg q, ← ew, e7, bn1_r]
        exact fin
    rw [un]
    unfold Mo_revises_b63
    have nb : vp_nar .boolean g = g := by rcases hg with rfl | rfl <;> rfl
    rw [ckI_nI _ (by omega) (by omega), nI_clamp (by omega), stk_r, nb]
    generalize hA : upm (upm mo 15 k (waP s k)) 14 k g = mA
    have A0 : mA 0 = s := by rw [← hA, upm_n _ _ _ (by omega), upm_n _ _ _ (by omega)]; exact h0
    have A15 : ∀ f, f < k + 1 → mA 15 f = waP s f := fun f hf => by
      rw [← hA, upm_n _ _ _ (by omega), upm_0]
      by_cases z : f = k
      · subst z; rw [pk_us]
      · rw [pk_un z]; exact h15 f (by omega)
    have A14 : ∀ f, f < 20 → mA 14 f = if f = k then g else if decide (f < k) && dR n s f then 1 else 0 := fun f hf => by
      rw [← hA, upm_0, upm_n _ _ _ (by omega)]
      by_cases z : f = k
      · subst z; rw [pk_us, if_pos rfl]
      · rw [pk_un z, if_neg z]; exact h14 f hf
    have A13 : mA 13 = mo 13 := by rw [← hA, upm_n _ _ _ (by omega), upm_n _ _ _ (by omega)]
    have A1 : mA 1 = mo 1 := by rw [← hA, upm_n _ _ _ (by omega), upm_n _ _ _ (by omega)]
    have AK : KP mo mA := by rw [← hA]; exact (KP.um (by omega)).tr (KP.um (by omega))
    rw [Mo_isAir_s (by omega), bn1_r, bI_z, A0]
    have d14 : ∀ f, f < 20 → f ≠ k → (if decide (f < k + 1) && dR n s f then (1 : Int32) else 0) = if decide (f < k) && dR n s f then 1 else 0 := fun f hf z => by
      by_cases zz : f < k
      · rw [decide_eq_true zz, decide_eq_true (show f < k + 1 by omega)]
      · rw [decide_eq_false zz, decide_eq_false (show ¬ f < k + 1 by omega)]
    have gd : lB n s k = false → g = if decide (k < k + 1) && dR n s k then 1 else 0 := fun lk => by
      have : dR n s k = decide (s (8 * k + 7) = 1) := by
        show (decide (k < n ∧ s (8 * k + 7) = 1) || lB n s k) = _
        rw [lk, Bool.or_false]
        by_cases z : s (8 * k + 7) = 1
        · rw [decide_eq_true z, decide_eq_true ⟨kn, z⟩]
        · rw [decide_eq_false z, decide_eq_false (fun zz => z zz.2)]
      rw [this, decide_eq_true (show k < k + 1 by omega), Bool.true_and, ← eg]
      by_cases z : s (8 * k + 7) = 1
      · rw [if_pos z, decide_eq_true z]; rfl
      · rw [if_neg z, decide_eq_false z]; rfl
    have go : lB n s k = false → ∃ mo', Mo_revises_b6 N mA (nI (k + 1)) = bn1 (Mo_firstOf mo' 2 3 (-1)) (fun r => Mo_revises_b125 fl mo' r) ∧ mo' 0 = s ∧ (∀ f, f < n → mo' 15 f = waP s f) ∧ (∀ f, f < 20 → mo' 14 f = if decide (f < n) && dR n s f then 1 else 0) ∧ (∀ i, i < 1200 → mo' 13 i = if luN n s n i then 1 else 0) ∧ KP mo mo' ∧ mo' 1 = mo 1 := fun lk => by
      obtain ⟨mo', b1, b2, b3, b4, b5, b6, b7⟩ := rv_mo hn hs j r (k + 1) N mA (by omega) (by omega) A0 A15 (fun f hf => by
        rw [A14 f hf]
        by_cases z : f = k
        · subst z; rw [if_pos rfl]; exact gd lk
        · rw [if_neg z, d14 f hf z]) (fun i hi => by rw [A13, h13 i hi, lu1, lk, Bool.false_and, Bool.or_false])
      exact ⟨mo', b1, b2, b3, b4, b5, AK.tr b6, by rw [b7, A1]⟩
    by_cases q : Air s k
    · obtain ⟨v1, v2, v3, v4, v5, v6, v7, v8⟩ := air_v j kn q
      rw [if_pos q, Mo_of_4 (by omega), bn1_r, n172 (mo := mo), k172, A0]
      by_cases q2 : s (8 * k + 4) ≤ s 172
      · have lk : lB n s k = true := decide_eq_true ⟨kn, q, q2⟩
        have e4 : Mo_of (upm mA 14 k (vp_nar .boolean 1)) (nI k) 4 = some (nI (slN s k)) := by rw [Mo_of_4 (by omega), upm_n _ _ _ (by omega), A0, v5]
        rw [if_pos q2, ckI_nI _ (by omega) (by omega), stk_r, e4, bn1_r, ckI_nI _ v6 (by omega), nI_clamp (by omega), stk_r, stk_r, nI_1]
        obtain ⟨mo', b1, b2, b3, b4, b5, b6, b7⟩ := rv_mo hn hs j r (k + 1) N (upm (upm mA 14 k (vp_nar .boolean 1)) 13 (slN s k) (vp_nar .boolean 1)) (by omega) (by omega) (by rw [upm_n _ _ _ (by omega), upm_n _ _ _ (by omega)]; exact A0) (fun f hf => by rw [upm_n _ _ _ (by omega), upm_n _ _ _ (by omega)]; exact A15 f hf) (fun f hf => by
          rw [upm_n _ _ _ (by omega), upm_0]
          by_cases z : f = k
          · subst z
            have : dR n s f = true := by show (_ || lB n s f) = true; rw [lk, Bool.or_true]
            rw [pk_us, this, decide_eq_true (show f < f + 1 by omega)]; rfl
          · rw [pk_un z, A14 f hf, if_neg z, d14 f hf z]) (fun i hi => by
          rw [upm_0, upm_n _ _ _ (by omega), lu1, lk]
          by_cases z : i = slN s k
          · subst z
            rw [pk_us, decide_eq_true v5, Bool.true_and, Bool.or_true]; rfl
          · rw [pk_un z, decide_eq_false (fun z2 => z ((nI_eq (by omega) (by omega)).mp (v5.symm.trans z2)).symm), Bool.and_false, Bool.or_false, A13]
            exact h13 i hi)
        exact ⟨mo', b1, b2, b3, b4, b5, (AK.tr ((KP.um (by omega)).tr (KP.um (by omega)))).tr b6, by rw [b7, upm_n _ _ _ (by omega), upm_n _ _ _ (by omega), A1]⟩
      · rw [if_neg q2, stk_r, nI_1]
        exact go (decide_eq_false (fun z => q2 z.2.2))
    · rw [if_neg q, stk_r, nI_1]
      exact go (decide_eq_false (fun z => q z.2.1))
end RV
