/-! order; best order: the calls -/
section O3
variable {n v K k f : Nat} {fo ro ra vc os li mo se : Mem} {x y l : Int32} {s : Nat → Int32} {tr b : Nat → Nat}
theorem seat_l (j : J n s) (ob : OB n s l K tr b) (h2 : se 2 0 = nI K) (h01 : ∀ i, i < K → se 0 i = nI (tr i) ∧ se 1 i = nI (b i)) : ∀ (r k N : Nat) (fo : Mem), k + r = K → r < N → Rf n fo ro (gS s tr b k) → ∃ fo', St_order_b23 ro l N se fo (nI k) = some (se 6 0 - se 7 0, se, fo') ∧ Rf n fo' ro (gS s tr b K) ∧ ∀ q, q ≠ 5 → q ≠ 6 → q ≠ 7 → fo' q = fo q
  | 0, k, N + 1, fo, hk, _, h => by
    have e : k = K := by omega
    subst e
    have k6 := ob.1
    refine ⟨fo, ?_, h, fun _ _ _ _ => rfl⟩
    show St_order_b23B ro l (St_order_b23 ro l N) se fo (nI k) = _
    unfold St_order_b23B St_order_b71 Se_gain
    rw [h2, if_pos (nI_le (Nat.le_refl _) (by omega)), bn1_r]
  | r + 1, k, N + 1, fo, hk, hN, h => by
    have k6 := ob.1
    obtain ⟨o1, o2, o3, o4, o5, o6⟩ := id ob
    obtain ⟨tn, tl, tg⟩ := o2 k (by omega)
    have hb : b k < 1200 := by
      obtain ⟨jj, j1, j2⟩ := o4 k (by omega)
      have := (sl_v j (o2 jj j1).1 (o2 jj j1).2.2.1).2
      omega
    have e7 : gS s tr b k (8 * tr k + 7) = 0 := by rw [gS_o (by omega)]; exact tg.1.2
    have g1 := Rf_give (x := nI (b k)) h tn e7 (nI_pos' (by omega))
    obtain ⟨fo', a1, a2, a3⟩ := seat_l j ob h2 h01 r (k + 1) N _ (by omega) (by omega) (show Rf n _ ro (gS s tr b (k + 1)) from g1)
    refine ⟨fo', ?_, a2, fun q q1 q2 q3 => by rw [a3 q q1 q2 q3, sg_n ⟨q1, q2, q3⟩]⟩
    show St_order_b23B ro l (St_order_b23 ro l N) se fo (nI k) = _
    unfold St_order_b23B
    rw [h2, if_neg (nI_ge (by omega) (by omega)), if_neg (show ¬ 6 ≤ nI k from nI_ge (b := 6) (by omega) (by omega)), ckI_nI _ (by omega) (by omega), nI_clamp (by omega), (h01 k (by omega)).1, (h01 k (by omega)).2, Fi_seatOnGround_s h tn (fun z => by rw [nI_eqm (by omega)] at z; exact z), bn1_r, stk_r, nI_1]
    exact a1
/-- the reference's row has it too, for its own sums -/
theorem ord_rf (h : RF n v fo ro ra vc os li s) (ob : OB n s l K tr b) : ∃ fo', RF n v fo' ro ra vc os li (gS s tr b K) := by
  have j := h.2.2.2.2.2.2
  obtain ⟨o1, o2, o3, o4, o5, o6⟩ := id ob
  have lp : ∀ (r k : Nat) (fo : Mem), k + r = K → Rf n fo ro (gS s tr b k) → ∃ fo', Rf n fo' ro (gS s tr b K) ∧ ∀ q, q ≠ 5 → q ≠ 6 → q ≠ 7 → fo' q = fo q := by
    intro r
    induction r with
    | zero =>
      intro k fo hk hh
      have e : k = K := by omega
      subst e
      exact ⟨fo, hh, fun _ _ _ _ => rfl⟩
    | succ r ih =>
      intro k fo hk hh
      obtain ⟨tn, tl, tg⟩ := o2 k (by omega)
      have hb : b k < 1200 := by
        obtain ⟨jj, j1, j2⟩ := o4 k (by omega)
        have := (sl_v j (o2 jj j1).1 (o2 jj j1).2.2.1).2
        omega
      have g1 := Rf_give (x := nI (b k)) hh tn (by rw [gS_o (by omega)]; exact tg.1.2) (nI_pos' (by omega))
      obtain ⟨fo', a1, a2⟩ := ih (k + 1) _ (by omega) (show Rf n _ ro (gS s tr b (k + 1)) from g1)
      exact ⟨fo', a1, fun q q1 q2 q3 => by rw [a2 q q1 q2 q3, sg_n ⟨q1, q2, q3⟩]⟩
  obtain ⟨fo', a1, a2⟩ := lp K 0 fo (by omega) h.1
  exact ⟨fo', RF_ord h ob a1 (a2 10 (by omega) (by omega) (by omega)) (a2 8 (by omega) (by omega) (by omega))⟩
theorem q_order (h : RF n v fo ro ra vc os li (mo 0)) : ∃ r se' fo' mo', St_order se fo ro x = some (r, se', fo') ∧ Mo_order mo x = some (r, mo') ∧ RF n v fo' ro ra vc os li (mo' 0) ∧ KP mo mo' := by
  have hn := h.f.n20
  unfold St_order Mo_order
  rw [St_isLine_s, Mo_isLine_s, bn1_r, bn1_r, bI_z, bI_z]
  by_cases hx : in0 x 5
  · rw [if_pos hx, if_pos hx]
    obtain ⟨K, tr, b, c, mo1, se', o1, o2, o3, o4, o5, o6, o7, o8, o9, o10⟩ := ord_s (se := se) (l := x) h
    obtain ⟨fo', a1, a2, a3⟩ := seat_l (l := x) (ro := ro) h.j o3 o6 o7 K 0 fl fo (by omega) (by have := o3.1; rw [fl_v]; omega) h.f
    have a1' : St_order_b23 ro x fl se' fo 0 = _ := a1
    have rf := RF_ord h o3 a2 (a3 10 (by omega) (by omega) (by omega)) (a3 8 (by omega) (by omega) (by omega))
    have lc := lc_gS hn h.j o3 K (Nat.le_refl K)
    rw [sm_sub] at lc
    refine ⟨se' 6 0 - se' 7 0, se', fo', upA mo1 0 (gS (mo 0) tr b K), ?_, ?_, by rw [upA_0]; exact rf, o4.tr (KP.up (by omega))⟩
    · rw [o1, bn1_r, a1']
    · rw [Mo_lineCost_s _ hn h.f.sn, bn1_r, o2, bn1_r, Mo_lineCost_s _ hn (by rw [upA_0]; exact rf.1.sn), bn1_r, upA_0, lc, o8, o9, o10]
      congr 2
      grind
  · rw [if_neg hx, if_neg hx]
    exact ⟨_, _, _, _, rfl, rfl, h, KP.rf⟩
theorem mf_l (k6 : K ≤ 6) (inj : ∀ i j, i < j → j < K → tr i < tr j) (t20 : ∀ i, i < K → tr i < 20) (hf : f < 20) (h2 : se 2 0 = nI K) (h01 : ∀ i, i < K → se 0 i = nI (tr i) ∧ se 1 i = nI (b i)) : ∀ (r k N : Nat), k + r = K → r < N → (∀ i, i < k → tr i ≠ f) → (∃ i, i < K ∧ tr i = f ∧ Se_minuteFor_b2 se (nI f) N (nI k) = some (nI (b i))) ∨ ((∀ i, i < K → tr i ≠ f) ∧ Se_minuteFor_b2 se (nI f) N (nI k) = some (-1))
  | 0, k, N + 1, hk, _, hno => by
    have e : k = K := by omega
    subst e
    refine Or.inr ⟨hno, ?_⟩
    show Se_minuteFor_b2B se (nI f) (Se_minuteFor_b2 se (nI f) N) (nI k) = _
    unfold Se_minuteFor_b2B
    rw [h2, if_pos (nI_le (Nat.le_refl _) (by omega))]
  | r + 1, k, N + 1, hk, hN, hno => by
    show (∃ i, i < K ∧ tr i = f ∧ Se_minuteFor_b2B se (nI f) (Se_minuteFor_b2 se (nI f) N) (nI k) = some (nI (b i))) ∨ ((∀ i, i < K → tr i ≠ f) ∧ Se_minuteFor_b2B se (nI f) (Se_minuteFor_b2 se (nI f) N) (nI k) = some (-1))
    unfold Se_minuteFor_b2B
    rw [h2, if_neg (nI_ge (by omega) (by omega)), if_neg (show ¬ 6 ≤ nI k from nI_ge (b := 6) (by omega) (by omega)), ckI_nI _ (by omega) (by omega), nI_clamp (by omega), (h01 k (by omega)).1, (h01 k (by omega)).2]
    have := t20 k (by omega)
    by_cases q : tr k = f
    · rw [if_pos (by rw [q])]
      exact Or.inl ⟨k, by omega, q, rfl⟩
    · rw [if_neg (fun z => q ((nI_eq (by omega) (by omega)).mp z)), stk_r, nI_1]
      refine mf_l k6 inj t20 hf h2 h01 r (k + 1) N (by omega) (by omega) (fun i hi => ?_)
      by_cases e : i = k
      · subst e; exact q
      · exact hno i (by omega)
theorem q_bestOrder (h : RF n v fo ro ra vc os li (mo 0)) : ∃ r se' mo', St_bestOrder se fo ro x y = some (r, se') ∧ Mo_bestOrder mo x y = some (r, mo') ∧ RF n v fo ro ra vc os li (mo' 0) ∧ KP mo mo' := by
  have hn := h.f.n20
  have same : ∀ t : Int32, ∃ r se' mo', some (t, se) = some (r, se') ∧ some (t, mo) = some (r, mo') ∧ RF n v fo ro ra vc os li (mo' 0) ∧ KP mo mo' := fun t => ⟨_, _, mo, rfl, rfl, h, KP.rf⟩
  unfold St_bestOrder Mo_bestOrder
  rw [St_isLine_s, Mo_isLine_s, bn1_r, bn1_r, bI_z, bI_z]
  by_cases hx : in0 x 5
  · rw [if_pos hx, if_pos hx]
    have h8 : RF n v fo ro ra vc os li (upA mo 1 (layF (mo 1) (mo 0) 8) 0) := by rw [upA_n _ _ (by omega)]; exact h
    obtain ⟨K, tr, b, c, mo1, se', o1, o2, o3, o4, o5, o6, o7, o8, o9, o10⟩ := ord_s (se := se) (l := x) h8
    have e0 : upA mo 1 (layF (mo 1) (mo 0) 8) 0 = mo 0 := upA_n _ _ (by omega)
    rw [e0] at o2 o3 o8 o10
    rw [upA_0] at o5
    obtain ⟨fo2, rf⟩ := ord_rf h o3
    have lc := lc_gS hn h.j o3 K (Nat.le_refl K)
    rw [sm_sub] at lc
    obtain ⟨m', t1, t2, t3, -⟩ := lay_tak (mo := mo) (s := mo 0) (m := upA mo1 0 (gS (mo 0) tr b K)) (by rw [upA_n _ _ (by omega)]; exact o5)
    have kp : KP mo m' := (((KP.lay (mo := mo) (s := mo 0)).tr o4).tr (KP.up (by omega))).tr t3
    have fin : ∀ t : Int32, ∃ r se'_1 mo', some (t, se') = some (r, se'_1) ∧ Mo_bestOrder_b78 x y (upA mo1 0 (gS (mo 0) tr b K)) t = some (r, mo') ∧ RF n v fo ro ra vc os li (mo' 0) ∧ KP mo mo' := fun t => by
      refine ⟨t, se', m', rfl, ?_, h.cg t2, kp⟩
      unfold Mo_bestOrder_b78
      rw [t1, bn1_r]
    by_cases hy : y = -1
    · rw [if_pos hy, if_pos hy]
      unfold St_bestOrder_b25 Mo_bestOrder_b22 Mo_bestOrder_b48 Se_gain
      rw [if_pos hy, if_pos hy, o1, bn1_r, Fi_lineCost_s h.f, bn1_r, bn1_r, Mo_lays_8, bn1_r, o2, bn1_r, if_pos hy, Mo_lineCost_s _ hn (by rw [upA_0]; exact rf.1.sn), bn1_r, upA_0, lc, o8, o9, o10]
      have ea : sm (fun f => if mo 0 (8 * f) = x then coS (mo 0) f else 0) n - (sm (fun i => coS (mo 0) (tr i)) K - sm (fun i => mo 0 (8 * tr i + 3) * (nI (b i) - mo 0 (8 * tr i + 1))) K) = sm (fun f => if mo 0 (8 * f) = x then coS (mo 0) f else 0) n + (sm (fun i => mo 0 (8 * tr i + 3) * (nI (b i) - mo 0 (8 * tr i + 1))) K - sm (fun i => coS (mo 0) (tr i)) K) := by grind
      rw [ea]
      exact fin _
    · rw [if_neg hy, if_neg hy, Fi_isFlight_x hn h.f.rn, Mo_isFlight_s hn h.f.sn, bn1_r, bn1_r, bI_z, bI_z]
      by_cases hf : in0 y n
      · rw [if_pos hf, if_pos hf]
        obtain ⟨f, f1, rfl⟩ := in0_of hf (by omega)
        unfold St_bestOrder_b25 Mo_bestOrder_b22 Mo_bestOrder_b48
        rw [if_neg hy, if_neg hy, Fi_isSeated_s h.f (by omega), Fi_isOf_s h.f (by omega), bn1_r, bn1_r, bI_z, bI_z, Mo_of_0 (by omega), bn1_r, Mo_isPlanned_s (by omega), bn1_r, bI_z]
        by_cases p : Pd (mo 0) f
        · rw [if_pos (show f < n ∧ Pd (mo 0) f from ⟨f1, p⟩), if_pos p]
          by_cases ln : mo 0 (8 * f) = x
          · rw [if_pos (show f < n ∧ mo 0 (8 * f) = x from ⟨f1, ln⟩), if_pos ln, o1, bn1_r, Mo_lays_8, bn1_r, o2, bn1_r, if_neg hy, Mo_of_4 (by omega), bn1_r, upA_0]
            have k6 := o3.1
            have b12 : ∀ i, i < K → b i < 1200 := fun i hi => by
              obtain ⟨jj, j1, j2⟩ := o3.2.2.2.1 i hi
              have := (sl_v h.j (o3.2.1 jj j1).1 (o3.2.1 jj j1).2.2.1).2
              omega
            unfold Se_minuteFor
            rcases mf_l (se := se') (f := f) (b := b) k6 o3.2.2.1 (fun i hi => by have := (o3.2.1 i hi).1; omega) (by omega) o6 o7 K 0 fl (by omega) (by rw [fl_v]; omega) (fun i hi => by omega) with ⟨i, i1, i2, i3⟩ | ⟨i1, i3⟩
            · have i3' : Se_minuteFor_b2 se' (nI f) fl 0 = _ := i3
              have := b12 i i1
              rw [i3', bn1_r, if_neg (fun z => by rw [nI_eqm (by omega)] at z; exact z), ← i2, (gS_t (s := mo 0) (b := b) o3.2.2.1 (Nat.le_refl K) i1).1]
              rw [← i2] at fin
              exact fin _
            · have i3' : Se_minuteFor_b2 se' (nI f) fl 0 = _ := i3
              rw [i3', bn1_r, if_pos rfl, ckI_nI _ (by omega) (by omega), nI_clamp (by omega), (h.f.pd f1 p).1, gS_o (Or.inr (Or.inr (fun i hi => by have := i1 i hi; omega)))]
              exact fin _
          · rw [if_neg (fun z => ln z.2), if_neg ln]; exact same _
        · rw [if_neg (fun z => p z.2), if_neg p]
          split
          · exact same _
          · exact same _
      · rw [if_neg hf, if_neg hf]; exact same _
  · rw [if_neg hx, if_neg hx]; exact same _
end O3
