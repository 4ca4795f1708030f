/-! plan, by rule, would, rate for -/
section WI
variable {n v m k c f : Nat} {fo ro ra vc os li mo pn fot rot rat vct ost lit : Mem} {x y z w : Int32} {s s' : Nat → Int32}
theorem nI_z {a : Nat} (h : a < 2 ^ 31) : (nI a = 0) ↔ a = 0 := nI_eq (b := 0) h (by omega)
theorem q_plan {M : Nat} (h : RF n v fo ro ra vc os li (mo 0)) (hM : PM M pn) (hMb : M < 2 ^ 30) : ∃ r pn' fo' vc' os' mo' v', St_plan pn fo ro ra vc os = some (r, pn', fo', vc', os') ∧ Mo_plan mo = some (r, mo') ∧ RF n v' fo' ro ra vc' os' li (mo' 0) ∧ KP mo mo' ∧ ∃ M', M' ≤ M + 13 ∧ PM M' pn' := by
  have hn := h.f.n20
  unfold St_plan Mo_plan
  rw [n173 (mo := mo), k173, h.f.rn, h.f.sn]
  by_cases q : nI n = 0
  · rw [if_pos q, if_pos q]
    exact ⟨_, _, _, _, _, _, v, rfl, rfl, h, KP.rf, M, by omega, hM⟩
  · rw [if_neg q, if_neg q]
    obtain ⟨pn', fo', vc', os', mo', o1, o2, o3, o4, o5, -, -⟩ := planAnew_s (p := 0) (vc := vc) (os := os) h.rp hM hMb (by omega)
    have o1' : Pl_planAnew pn fo ro ra vc os 0 = _ := o1
    have o2' : Mo_plansBy mo 0 = _ := o2
    rw [o1', o2', bn4_r, bn1_r, Fi_countWaiting_s o3.f, bn1_r, Mo_plan_b23_s hn o3.f.sn]
    exact ⟨_, _, _, _, _, _, 0, rfl, rfl, o3, o4, M + 1, by omega, o5⟩
theorem q_byRule {M : Nat} (h : RF n v fo ro ra vc os li (mo 0)) (hM : PM M pn) (hMb : M < 2 ^ 30) : ∃ r pn' a1 a2 a3 a4 a5 a6 mo', St_byRule pn fo ro ra vc os li fot rot rat vct ost lit x y = some (r, pn', a1, a2, a3, a4, a5, a6) ∧ Mo_byRule mo x y = some (r, mo') ∧ RF n v fo ro ra vc os li (mo' 0) ∧ KP mo mo' ∧ ∃ M', M' ≤ M + 13 ∧ PM M' pn' := by
  have hn := h.f.n20
  have same : ∀ t : Int32, ∃ r pn' a1 a2 a3 a4 a5 a6 mo', some (t, pn, fot, rot, rat, vct, ost, lit) = some (r, pn', a1, a2, a3, a4, a5, a6) ∧ some (t, mo) = some (r, mo') ∧ RF n v fo ro ra vc os li (mo' 0) ∧ KP mo mo' ∧ ∃ M', M' ≤ M + 13 ∧ PM M' pn' := fun t => ⟨_, _, _, _, _, _, _, _, mo, rfl, rfl, h, KP.rf, M, by omega, hM⟩
  unfold St_byRule Mo_byRule
  rw [show (2 : Int32) = nI 2 from rfl, show (3 : Int32) = nI 3 from rfl, Mo_in0 2 (by omega), Mo_in0 3 (by omega)]
  simp only [bn1_r, bI_z]
  by_cases hx : in0 x 3
  · rw [if_pos hx]
    obtain ⟨p, hp, rfl⟩ := in0_of hx (by omega)
    have hx' := (in0_le (x := nI p) (k := 2) (by omega)).mpr hx
    rw [if_neg hx.1, if_neg hx'.2]
    by_cases hy : in0 y 4
    · have hy' := (in0_le (x := y) (k := 3) (by omega)).mpr hy
      rw [if_pos hy, if_neg hy.1, if_pos (Int32.not_lt.mp hy'.2), n173 (mo := mo), k173, h.f.rn, h.f.sn]
      by_cases q : nI n = 0
      · rw [if_pos q, if_pos q]; exact same _
      · rw [if_neg q, if_neg q]
        obtain ⟨a1, a2, a3, a4, a5, a6, c1, c2⟩ := RF_copy (fot := fot) (rot := rot) (rat := rat) (vct := vct) (ost := ost) (lit := lit) h
        rw [c1, bn6_r, Mo_lays_8, bn1_r]
        have c3 : RP n a1 a2 a3 a6 (upA mo 1 (layF (mo 1) (mo 0) 8) 0) := by rw [upA_n _ _ (by omega)]; exact c2.rp
        obtain ⟨pn', fo', vc', os', m, o1, o2, o3, o4, o5, o6, -⟩ := planAnew_s (p := p) (vc := a4) (os := a5) c3 hM hMb (by omega)
        rw [upA_0] at o6
        obtain ⟨m', t1, t2, t3, -⟩ := lay_tak (mo := mo) (s := mo 0) o6
        rw [o1, o2, bn4_r, bn1_r]
        have fin : ∀ t, ∃ r pn'_1 b1 b2 b3 b4 b5 b6 mo', some (t, pn', fo', a2, a3, vc', os', a6) = some (r, pn'_1, b1, b2, b3, b4, b5, b6) ∧ Mo_byRule_b85 (nI p) y m t = some (r, mo') ∧ RF n v fo ro ra vc os li (mo' 0) ∧ KP mo mo' ∧ ∃ M', M' ≤ M + 13 ∧ PM M' pn'_1 := fun t => by
          refine ⟨_, _, _, _, _, _, _, _, m', rfl, ?_, h.cg t2, (KP.lay.tr o4).tr t3, M + 1, by omega, o5⟩
          unfold Mo_byRule_b85
          rw [t1, bn1_r]
        by_cases y0 : y = 0
        · rw [if_pos y0, if_pos y0, Fi_totalCost_s o3.f o3.j.2.1, Mo_allCost_s hn o3.f.sn, bn1_r, bn1_r]; exact fin _
        · rw [if_neg y0, if_neg y0]
          by_cases y1 : y = 1
          · rw [if_pos y1, if_pos y1, Fi_totalHold_s o3.f, show (5 : Int32) = nI 5 from rfl, Mo_allOf_s 5 (by omega) hn o3.f.sn, bn1_r, bn1_r]; exact fin _
          · rw [if_neg y1, if_neg y1]
            by_cases y2 : y = nI 2
            · rw [if_pos y2, if_pos y2, Fi_longestWait_s o3, Mo_longest_s hn o3.f.sn, bn1_r, bn1_r]; exact fin _
            · obtain ⟨t, e⟩ : ∃ t, unf n (m 0) = some t := by unfold unf; split <;> exact ⟨_, rfl⟩
              rw [if_neg y2, if_neg y2, Fi_unfairness_s o3.f o3.j, Mo_unfairNow_s hn o3.f.sn o3.j, e, bn1_r, bn1_r]; exact fin _
    · rw [if_neg hy]
      by_cases h1 : y < 0
      · rw [if_pos h1]; exact same _
      · rw [if_neg h1, if_neg (fun q => hy ((in0_le (k := 3) (by omega)).mp ⟨h1, Int32.not_lt.mpr q⟩))]; exact same _
  · rw [if_neg hx]
    by_cases h1 : x < 0
    · rw [if_pos h1]; exact same _
    · rw [if_neg h1, if_pos (Classical.byContradiction (fun q => hx ((in0_le (k := 2) (by omega)).mp ⟨h1, q⟩)))]; exact same _
theorem q_would {M : Nat} (h : RF n v fo ro ra vc os li (mo 0)) (hM : PM M pn) (hMb : M < 2 ^ 30) : ∃ r pn' a1 a2 a3 a4 a5 a6 mo', St_would pn fo ro ra vc os li fot rot rat vct ost lit x y z w = some (r, pn', a1, a2, a3, a4, a5, a6) ∧ Mo_would mo x y z w = some (r, mo') ∧ RF n v fo ro ra vc os li (mo' 0) ∧ KP mo mo' ∧ ∃ M', M' ≤ M + 13 ∧ PM M' pn' := by
  have hn := h.f.n20
  have same : ∀ t : Int32, ∃ r pn' a1 a2 a3 a4 a5 a6 mo', some (t, pn, fot, rot, rat, vct, ost, lit) = some (r, pn', a1, a2, a3, a4, a5, a6) ∧ some (t, mo) = some (r, mo') ∧ RF n v fo ro ra vc os li (mo' 0) ∧ KP mo mo' ∧ ∃ M', M' ≤ M + 13 ∧ PM M' pn' := fun t => ⟨_, _, _, _, _, _, _, _, mo, rfl, rfl, h, KP.rf, M, by omega, hM⟩
  unfold St_would Mo_would
  rw [St_isRate_s, St_areHours_s, Mo_areHours_s, show (2 : Int32) = nI 2 from rfl, show (12 : Int32) = nI 12 from rfl, Mo_in0 2 (by omega), Mo_in0 12 (by omega)]
  simp only [bn1_r, bI_z]
  by_cases hx : in0 x 13
  · rw [if_pos hx, if_pos hx]
    by_cases hyz : in0 y 12 ∧ in0 z 12 ∧ y ≤ z
    · rw [if_pos hyz, if_pos hyz]
      obtain ⟨r, hr, rfl⟩ := in0_of hx (by omega)
      obtain ⟨X, hX, rfl⟩ := in0_of hyz.1 (by omega)
      obtain ⟨Y, hY, rfl⟩ := in0_of hyz.2.1 (by omega)
      have le := (nI_leI (by omega) (by omega)).mp hyz.2.2
      by_cases hw : in0 w 3
      · have hw' := (in0_le (x := w) (k := 2) (by omega)).mpr hw
        rw [if_pos hw, if_neg hw.1, if_pos (Int32.not_lt.mp hw'.2), n173 (mo := mo), k173, h.f.rn, h.f.sn]
        by_cases q : nI n = 0
        · rw [if_pos q, if_pos q]; exact same _
        · rw [if_neg q, if_neg q]
          obtain ⟨a1, a2, a3, a4, a5, a6, c1, c2⟩ := RF_copy (fot := fot) (rot := rot) (rat := rat) (vct := vct) (ost := ost) (lit := lit) h
          rw [c1, bn6_r, Mo_lays_8, bn1_r, Ra_putAll_s le hY, bn1_r, Mo_rates_s le hY, bn1_r]
          have c3 : RP n a1 a2 (upA a3 0 (ptR X (Y + 1) (nI r) (a3 0))) a6 (upA (upA mo 1 (layF (mo 1) (mo 0) 8)) 0 (ptR (160 + X) (160 + (Y + 1)) (nI r) (upA mo 1 (layF (mo 1) (mo 0) 8) 0)) 0) := by
            rw [upA_0, upA_n _ _ (by omega)]
            exact c2.rp.rates hY (by omega) (fun _ _ _ => rfl)
          obtain ⟨pn', fo', vc', os', m, o1, o2, o3, o4, o5, o6, -⟩ := planAnew_s (p := 0) (vc := a4) (os := a5) c3 hM hMb (by omega)
          have o1' : Pl_planAnew pn a1 a2 _ a4 a5 0 = _ := o1
          have o2' : Mo_plansBy _ 0 = _ := o2
          rw [upA_n _ _ (by omega), upA_0] at o6
          obtain ⟨m', t1, t2, t3, -⟩ := lay_tak (mo := mo) (s := mo 0) o6
          rw [o1', o2', bn4_r, bn1_r]
          have fin : ∀ t, ∃ r' pn'_1 b1 b2 b3 b4 b5 b6 mo', some (t, pn', fo', a2, upA a3 0 (ptR X (Y + 1) (nI r) (a3 0)), vc', os', a6) = some (r', pn'_1, b1, b2, b3, b4, b5, b6) ∧ Mo_would_b94 (nI r) (nI X) (nI Y) w m t = some (r', mo') ∧ RF n v fo ro ra vc os li (mo' 0) ∧ KP mo mo' ∧ ∃ M', M' ≤ M + 13 ∧ PM M' pn'_1 := fun t => by
            refine ⟨_, _, _, _, _, _, _, _, m', rfl, ?_, h.cg t2, (((KP.lay (mo := mo) (s := mo 0)).tr (KP.up (by omega))).tr o4).tr t3, M + 1, by omega, o5⟩
            unfold Mo_would_b94
            rw [t1, bn1_r]
          by_cases y0 : w = 0
          · rw [if_pos y0, if_pos y0, Fi_totalHold_s o3.f, show (5 : Int32) = nI 5 from rfl, Mo_allOf_s 5 (by omega) hn o3.f.sn, bn1_r, bn1_r]; exact fin _
          · rw [if_neg y0, if_neg y0]
            by_cases y1 : w = 1
            · rw [if_pos y1, if_pos y1, Fi_totalCircles_s o3.f, show (6 : Int32) = nI 6 from rfl, Mo_allOf_s 6 (by omega) hn o3.f.sn, bn1_r, bn1_r]; exact fin _
            · rw [if_neg y1, if_neg y1, Fi_lastSlot_s o3.f o3.j, Mo_lastSlot_s hn o3.f.sn, bn1_r, bn1_r]; exact fin _
      · rw [if_neg hw]
        by_cases h1 : w < 0
        · rw [if_pos h1]; exact same _
        · rw [if_neg h1, if_neg (fun q => hw ((in0_le (k := 2) (by omega)).mp ⟨h1, Int32.not_lt.mpr q⟩))]; exact same _
    · rw [if_neg hyz, if_neg hyz]; exact same _
  · rw [if_neg hx, if_neg hx]; exact same _
theorem rateFor_l {X Y : Nat} {p3 : Int32} (le : X ≤ Y) (hY : Y < 12) (h : RF n v fo ro ra vc os li s) : ∀ (q r N N' M : Nat) (pn fot rat vct ost mo : Mem), r + q = 13 → q < N → q < N' → RP n fot rot ra lit s → (∀ h, h < 12 → ¬ (X ≤ h ∧ h < Y + 1) → rat 0 h = ra 0 h) → ag s (mo 0) 0 1452 → PM M pn → M + q < 2 ^ 30 → ∃ t pn' a1 a2 a3 a4 a5 a6 mo', St_rateFor_b51 fo ro ra vc os li (nI X) (nI Y) p3 N pn fot rot rat vct ost lit (nI r) = some (t, pn', a1, a2, a3, a4, a5, a6) ∧ Mo_rateFor_b38 (nI X) (nI Y) p3 N' mo (nI r) = some (t, mo') ∧ RF n v fo ro ra vc os li (mo' 0) ∧ KP mo mo' ∧ ∃ M', M' ≤ M + q ∧ PM M' pn' := by
  have hn := h.1.n20
  intro q
  induction q with
  | zero =>
    intro r N N' M pn fot rat vct ost mo hr hN hN' hP e hs hM hMb
    obtain ⟨N, rfl⟩ : ∃ q, N = q + 1 := ⟨N - 1, by omega⟩
    obtain ⟨N', rfl⟩ : ∃ q, N' = q + 1 := ⟨N' - 1, by omega⟩
    have : r = 13 := by omega
    subst this
    refine ⟨-2, pn, fot, rot, rat, vct, ost, lit, mo, ?_, ?_, h.cg hs, KP.rf, M, by omega, hM⟩
    · show St_rateFor_b51B _ _ _ _ _ _ _ _ _ (St_rateFor_b51 _ _ _ _ _ _ _ _ _ N) _ _ _ _ _ _ _ _ = _
      unfold St_rateFor_b51B
      rw [if_pos (by decide)]
    · show Mo_rateFor_b38B _ _ _ (Mo_rateFor_b38 _ _ _ N') _ _ = _
      unfold Mo_rateFor_b38B
      rw [if_pos (by decide)]
  | succ q ih =>
    intro r N N' M pn fot rat vct ost mo hr hN hN' hP e hs hM hMb
    obtain ⟨N, rfl⟩ : ∃ q, N = q + 1 := ⟨N - 1, by omega⟩
    obtain ⟨N', rfl⟩ : ∃ q, N' = q + 1 := ⟨N' - 1, by omega⟩
    have g12 : ¬ (12 : Int32) < nI r := nI_nlt (a := 12) (by omega) (by omega)
    have c3 : RP n fot rot (upA rat 0 (ptR X (Y + 1) (nI r) (rat 0))) lit (upA (upA mo 1 (layF (mo 1) (mo 0) 8)) 0 (ptR (160 + X) (160 + (Y + 1)) (nI r) (upA mo 1 (layF (mo 1) (mo 0) 8) 0)) 0) := by
      rw [upA_0, upA_n _ _ (by omega)]
      exact (hP.cg hs).rates hY (by omega) e
    obtain ⟨pn', fo', vc', os', m, o1, o2, o3, o4, o5, o6, o7⟩ := planAnew_s (p := 0) (vc := vct) (os := ost) c3 hM (by omega) (by omega)
    have o1' : Pl_planAnew pn fot rot _ vct ost 0 = _ := o1
    have o2' : Mo_plansBy _ 0 = _ := o2
    rw [upA_n _ _ (by omega), upA_0] at o6
    obtain ⟨m', t1, t2, t3, -⟩ := lay_tak (mo := mo) (s := mo 0) o6
    have hs' : ag s (m' 0) 0 1452 := fun i h1 h2 => by rw [t2 i h1 h2]; exact hs i h1 h2
    have kp : KP mo m' := (((KP.lay (mo := mo) (s := mo 0)).tr (KP.up (by omega))).tr o4).tr t3
    have u1 : St_rateFor_b51 fo ro ra vc os li (nI X) (nI Y) p3 (N + 1) pn fot rot rat vct ost lit (nI r) = if p3 < gr (waS (m 0)) n then St_rateFor_b51 fo ro ra vc os li (nI X) (nI Y) p3 N pn' fo' rot (upA rat 0 (ptR X (Y + 1) (nI r) (rat 0))) vc' os' lit (nI (r + 1)) else some (nI r, pn', fo', rot, upA rat 0 (ptR X (Y + 1) (nI r) (rat 0)), vc', os', lit) := by
      show St_rateFor_b51B _ _ _ _ _ _ _ _ _ (St_rateFor_b51 _ _ _ _ _ _ _ _ _ N) _ _ _ _ _ _ _ _ = _
      unfold St_rateFor_b51B
      rw [if_neg g12, Ra_putAll_s le hY, bn1_r, o1', bn4_r, Fi_longestWait_s o3, bn1_r, stk_r, nI_1]
    have u2 : Mo_rateFor_b38 (nI X) (nI Y) p3 (N' + 1) mo (nI r) = if p3 < gr (waS (m 0)) n then Mo_rateFor_b38 (nI X) (nI Y) p3 N' m' (nI (r + 1)) else some (nI r, m') := by
      show Mo_rateFor_b38B _ _ _ (Mo_rateFor_b38 _ _ _ N') _ _ = _
      unfold Mo_rateFor_b38B
      rw [if_neg g12, Mo_lays_8, bn1_r, Mo_rates_s le hY, bn1_r, o2', bn1_r, Mo_longest_s hn o3.f.sn, bn1_r, t1, bn1_r, stk_r, nI_1]
    rw [u1, u2]
    by_cases z : p3 < gr (waS (m 0)) n
    · rw [if_pos z, if_pos z]
      have hP' : RP n fo' rot ra lit s := by
        obtain ⟨⟨a1, a2, a3, a4, a5⟩, b⟩ := hP
        exact ⟨⟨a1, a2, a3, by rw [o7]; exact a4, a5⟩, b⟩
      obtain ⟨t, p', a1, a2, a3, a4, a5, a6, mo', i1, i2, i3, i4, M', i5, i6⟩ := ih (r + 1) N N' (M + 1) pn' fo' (upA rat 0 (ptR X (Y + 1) (nI r) (rat 0))) vc' os' m' (by omega) (by omega) (by omega) hP' (fun k hk hz => by
        rw [upA_0]
        unfold ptR
        rw [if_neg hz]
        exact e k hk hz) hs' o5 (by omega)
      exact ⟨t, p', a1, a2, a3, a4, a5, a6, mo', i1, i2, i3, kp.tr i4, M', by omega, i6⟩
    · rw [if_neg z, if_neg z]
      exact ⟨_, _, _, _, _, _, _, _, _, rfl, rfl, h.cg hs', kp, M + 1, by omega, o5⟩
theorem q_rateFor {M : Nat} (h : RF n v fo ro ra vc os li (mo 0)) (hM : PM M pn) (hMb : M < 2 ^ 29) : ∃ r pn' a1 a2 a3 a4 a5 a6 mo', St_rateFor pn fo ro ra vc os li fot rot rat vct ost lit x y z = some (r, pn', a1, a2, a3, a4, a5, a6) ∧ Mo_rateFor mo x y z = some (r, mo') ∧ RF n v fo ro ra vc os li (mo' 0) ∧ KP mo mo' ∧ ∃ M', M' ≤ M + 13 ∧ PM M' pn' := by
  have hn := h.f.n20
  have same : ∀ t : Int32, ∃ r pn' a1 a2 a3 a4 a5 a6 mo', some (t, pn, fot, rot, rat, vct, ost, lit) = some (r, pn', a1, a2, a3, a4, a5, a6) ∧ some (t, mo) = some (r, mo') ∧ RF n v fo ro ra vc os li (mo' 0) ∧ KP mo mo' ∧ ∃ M', M' ≤ M + 13 ∧ PM M' pn' := fun t => ⟨_, _, _, _, _, _, _, _, mo, rfl, rfl, h, KP.rf, M, by omega, hM⟩
  unfold St_rateFor Mo_rateFor
  rw [St_areHours_s, Mo_areHours_s, show (1200 : Int32) = nI 1200 from rfl, Mo_in0 1200 (by omega)]
  simp only [bn1_r, bI_z]
  by_cases hyz : in0 x 12 ∧ in0 y 12 ∧ x ≤ y
  · rw [if_pos hyz, if_pos hyz]
    obtain ⟨X, hX, rfl⟩ := in0_of hyz.1 (by omega)
    obtain ⟨Y, hY, rfl⟩ := in0_of hyz.2.1 (by omega)
    have le := (nI_leI (by omega) (by omega)).mp hyz.2.2
    by_cases hw : in0 z 1201
    · have hw' := (in0_le (x := z) (k := 1200) (by omega)).mpr hw
      rw [if_pos hw, if_neg hw.1, if_pos (Int32.not_lt.mp hw'.2), n173 (mo := mo), k173, h.f.rn, h.f.sn]
      by_cases q : nI n = 0
      · rw [if_pos q, if_pos q]; exact same _
      · rw [if_neg q, if_neg q]
        obtain ⟨a1, a2, a3, a4, a5, a6, c1, c2⟩ := Fi_copyFrom_e (fo := fo) (ro := ro) (ra := ra) (vc := vc) (os := os) (li := li) (fot := fot) (rot := rot) (rat := rat) (vct := vct) (ost := ost) (lit := lit) (by rw [h.2.2.1.1]; exact h.2.2.2.2.2.2.1.2)
        have hc := (h.cc c2).rp
        have hP : RP n a1 a2 ra a6 (mo 0) := ⟨hc.1, h.rp.2.1, hc.2.2⟩
        rw [c1, bn6_r]
        exact rateFor_l (v := v) le hY h 13 0 fl fl M pn a1 a3 a4 a5 mo (by omega) (by rw [fl_v]; omega) (by rw [fl_v]; omega) hP (fun k hk _ => c2.2.2.2.2.1 k hk) (fun i _ _ => rfl) hM (by omega)
    · rw [if_neg hw]
      by_cases h1 : z < 0
      · rw [if_pos h1]; exact same _
      · rw [if_neg h1, if_neg (fun q => hw ((in0_le (k := 1200) (by omega)).mp ⟨h1, Int32.not_lt.mpr q⟩))]; exact same _
  · rw [if_neg hyz, if_neg hyz]; exact same _
end WI
