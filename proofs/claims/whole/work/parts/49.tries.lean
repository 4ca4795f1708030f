/-! breaks, helps, bestCancel -/
section TR
variable {n v : Nat} {fo ro ra vc os li fot rot rat vct ost lit mo mo0 : Mem} {x y : Int32} {s s' : Nat → Int32}
/-- on the ground: hold by its slot, no circles -/
theorem gnd_v {f : Nat} (j : J n s) (hf : f < n) (hg : Gnd s f) : s (8 * f + 5) = s (8 * f + 4) - s (8 * f + 1) ∧ s (8 * f + 6) = 0 := by
  obtain ⟨b, c, t, m, h, k, f1, f2, f3, f4, f5, f6, f7, f8, f9, f10, f11, f12⟩ := j.2.2.2.1 f hf hg.1
  have k0 : k = 0 := by
    rcases f9 with q | q
    · exact q
    · exfalso
      apply hg.2
      unfold goS
      rw [f1, f2, f3, f5]
      by_cases e : c ≤ b
      · rw [pk_sub e, nI_add]
        exact nI_le (by omega) (by omega)
      · have e1 : nI b - nI c + nI h = nI (b + h) - nI c := by rw [← nI_add]; grind
        rw [e1]
        by_cases e2 : c ≤ b + h
        · rw [pk_sub e2]; exact nI_le (by omega) (by omega)
        · exact Int32.le_trans (Int32.le_of_lt (pk_sneg (by omega) (by omega))) (nI_pos' (by omega))
  subst k0
  rw [f5, f4, f1, f6, pk_sub (by omega), show m - b = h by omega]
  exact ⟨rfl, rfl⟩
theorem gv_back {f : Nat} {z : Int32} (j : J n s) (hf : f < n) (hg : Gnd s f) : gvS (gvS s f z) f (s (8 * f + 4)) = s := by
  obtain ⟨e5, e6⟩ := gnd_v j hf hg
  funext i
  by_cases h4 : i = 8 * f + 4
  · rw [h4, gv_4]
  · by_cases h5 : i = 8 * f + 5
    · rw [h5, gv_5, gv_un (by omega), e5]
    · by_cases h6 : i = 8 * f + 6
      · rw [h6, gv_6, e6]
      · rw [gv_un ⟨h4, h5, h6⟩, gv_un ⟨h4, h5, h6⟩]
theorem q_breaks (h : RF n v fo ro ra vc os li (mo 0)) : ∃ r a1 a2 a3 a4 a5 a6 s', St_breaks fo ro ra vc os li fot rot rat vct ost lit x y = some (r, a1, a2, a3, a4, a5, a6) ∧ Mo_breaks mo x y = some (r, upA mo 0 s') ∧ RF n v fo ro ra vc os li s' := by
  have hn := h.f.n20
  have hs := h.f.sn
  have same : ∃ r a1 a2 a3 a4 a5 a6 s', some ((-1000000 : Int32), fot, rot, rat, vct, ost, lit) = some (r, a1, a2, a3, a4, a5, a6) ∧ some ((-1000000 : Int32), mo) = some (r, upA mo 0 s') ∧ RF n v fo ro ra vc os li s' := ⟨_, _, _, _, _, _, _, mo 0, rfl, by rw [upA_id], h⟩
  unfold St_breaks Mo_breaks
  rw [Fi_isFlight_x hn h.f.rn, Mo_isGroundFlight_x hn hs, St_isMinute_s, Mo_isMinute_s, Fi_isGrounded_x h.f]
  simp only [bn1_r, bI_z]
  by_cases hx : in0 x n
  · rw [if_pos hx]
    obtain ⟨f, hf, rfl⟩ := in0_of hx (by omega)
    rw [nI_clamp (by omega), Fi_earliest_s h.f hf, Mo_earliest_s (by omega)]
    simp only [bn1_r]
    by_cases hy : in0 y 1200
    · rw [if_pos hy, if_pos hy]
      by_cases hg : Gnd (mo 0) f
      · have hxg : in0 (nI f) n ∧ Gnd (mo 0) f := ⟨hx, hg⟩
        rw [if_pos hxg, if_pos hxg]
        by_cases he : earS (mo 0) f ≤ y
        · rw [if_pos he, if_pos he]
          obtain ⟨m, hm, rfl⟩ := in0_of hy (by omega)
          obtain ⟨a1, a2, a3, a4, a5, a6, c1, c2⟩ := RF_copy (fot := fot) (rot := rot) (rat := rat) (vct := vct) (ost := ost) (lit := lit) h
          obtain ⟨L, hL, eL, hlk⟩ := h.j.2.2.2.2.2.2.2.2
          have r1 := Rf_give (x := nI m) c2.1 hf hg.1.2 (nI_pos' (by omega))
          have hlk' : ∀ i, i < L → ∃ f' g' k', f' < n ∧ g' < n ∧ k' ≤ 300 ∧ gvS (mo 0) f (nI m) (216 + 3 * i) = nI f' ∧ gvS (mo 0) f (nI m) (216 + 3 * i + 1) = nI g' ∧ gvS (mo 0) f (nI m) (216 + 3 * i + 2) = nI k' := fun i hi => by
            rw [gv_un (by omega), gv_un (by omega), gv_un (by omega)]; exact hlk i hi
          have eL' : gvS (mo 0) f (nI m) 175 = nI L := by rw [gv_un (by omega)]; exact eL
          have b1 := Fi_countBroken_s (mo := upA mo 0 (gvS (mo 0) f (nI m))) (by rw [upA_0]; exact r1) (by rw [upA_0]; exact c2.2.2.2.2.2.1.cg (gv_un (by omega)) (fun i h1 h2 => gv_un (by omega))) hL (by rw [upA_0]; exact eL') (by rw [upA_0]; exact hlk')
          have b2 := Mo_broken_s (mo := upA mo 0 (gvS (mo 0) f (nI m))) hn hL (by rw [upA_0]; exact eL') (by rw [upA_0]; exact hlk')
          rw [c1, bn6_r, Fi_seatOnGround_s c2.1 hf (fun z => by rw [nI_eqm (by omega)] at z; exact z), bn1_r, b1, Fi_countBroken_s h.f h.2.2.2.2.2.1 hL eL hlk, bn1_r, bn1_r, Mo_broken_s hn hL eL hlk, bn1_r, Mo_of_4 (by omega), bn1_r, Mo_gives_s (by omega), bn1_r, b2, bn1_r, Mo_gives_s (by omega), bn1_r, upA_0, upA_A, gv_back h.j hf hg]
          exact ⟨_, _, _, _, _, _, _, mo 0, rfl, rfl, h⟩
        · rw [if_neg he, if_neg he]; exact same
      · rw [if_neg (fun z => hg z.2), if_neg (fun z => hg z.2)]; exact same
    · rw [if_neg hy, if_neg hy]
      by_cases hg : in0 (nI f) n ∧ Gnd (mo 0) f
      · rw [if_pos hg]; exact same
      · rw [if_neg hg]; exact same
  · rw [if_neg hx, if_neg (fun z => hx z.1)]; exact same
/-- cancelled and filled, aside -/
theorem try_s {f : Nat} (h : RF n v fo ro ra vc os li s) (hf : f < n) (hg : Gnd s f) : ∃ a1 a2 a3 a4 a5 a6 m q s', m < 1200 ∧ q < 1000 ∧ St_tryCancel fo ro ra vc os li fot rot rat vct ost lit (nI f) = some (a1, a2, a3, a4, a5, a6) ∧ Mo_cancels (upA mo0 0 s) (nI f) = some (upA mo0 0 (cnS s f m)) ∧ Mo_fills (upA mo0 0 (cnS s f m)) = some (nI q, upA mo0 0 s') ∧ Rf n a1 a2 s' ∧ s (8 * f + 4) = nI m := by
  have hn := h.1.n20
  obtain ⟨b1, b2, b3, b4, b5, b6, c1, c2⟩ := RF_copy (fot := fot) (rot := rot) (rat := rat) (vct := vct) (ost := ost) (lit := lit) h
  obtain ⟨d1, d2, m, e1, e2, e3, e4⟩ := RF_cancel c2 hf hg
  obtain ⟨q, g1, g2, s', k1, k2, k3, k4⟩ := RF_fill (mo0 := mo0) e4
  refine ⟨g1, b2, b3, g2, b5, b6, m, q, s', e1, k1, ?_, ?_, k3, k4.1, e2⟩
  · unfold St_tryCancel
    rw [c1, bn6_r, e3, bn3_r, k2, bn3_r]
  · have := Mo_cancels_s (mo := upA mo0 0 s) (f := f) (m := m) (by omega) e1 (by rw [upA_0]; exact e2)
    rw [upA_0, upA_A] at this
    exact this
theorem wa_cn {f m : Nat} (hf : f < n) (hn : n ≤ 20) (hm : m < 1200) (l : Int32) : WL n s l - (if s (8 * f) = l then waS s f else 0) = WL n (cnS s f m) l := by
  have hl : ∀ k, k < 20 → cnS s f m (8 * k) = s (8 * k) := fun k hk => cn_l (by omega) hm hk
  have e := sm_one (g := fun k => if s (8 * k) = l then waS s k else 0) (h := fun k => if cnS s f m (8 * k) = l then waS (cnS s f m) k else 0) (f := f) (m := n) (fun k hk hkf => by
    show (if s (8 * k) = l then waS s k else 0) = (if cnS s f m (8 * k) = l then waS (cnS s f m) k else 0)
    rw [hl k (by omega)]
    have u : ∀ w, w < 8 → cnS s f m (8 * k + w) = s (8 * k + w) := fun w hw => by unfold cnS; rw [pk_un (by omega), pk_un (by omega)]
    unfold waS Pd
    rw [u 4 (by omega), u 5 (by omega), u 6 (by omega), u 7 (by omega)]) hf
  have z : (if cnS s f m (8 * f) = l then waS (cnS s f m) f else 0) = 0 := by
    have : waS (cnS s f m) f = 0 := if_neg (fun q => by
      have := q.2
      unfold cnS at this
      rw [pk_us] at this
      exact absurd this (by decide))
    rw [this]; split <;> rfl
  show sm (fun k => if s (8 * k) = l then waS s k else 0) n - _ = sm (fun k => if cnS s f m (8 * k) = l then waS (cnS s f m) k else 0) n
  rw [e, z]
  grind
theorem q_helps (h : RF n v fo ro ra vc os li (mo 0)) : ∃ r a1 a2 a3 a4 a5 a6 mo', St_helps fo ro ra vc os li fot rot rat vct ost lit x y = some (r, a1, a2, a3, a4, a5, a6) ∧ Mo_helps mo x y = some (r, mo') ∧ RF n v fo ro ra vc os li (mo' 0) ∧ KP mo mo' := by
  have hn := h.f.n20
  have hs := h.f.sn
  have same : ∃ r a1 a2 a3 a4 a5 a6 mo', some ((-1000000 : Int32), fot, rot, rat, vct, ost, lit) = some (r, a1, a2, a3, a4, a5, a6) ∧ some ((-1000000 : Int32), mo) = some (r, mo') ∧ RF n v fo ro ra vc os li (mo' 0) ∧ KP mo mo' := ⟨_, _, _, _, _, _, _, mo, rfl, rfl, h, KP.rf⟩
  unfold St_helps Mo_helps
  rw [St_isLine_s, Mo_isLine_s, Fi_isFlight_x hn h.f.rn, Fi_isGrounded_x h.f, Mo_isGroundFlight_x hn hs, Mo_lays_8]
  simp only [bn1_r, bI_z]
  by_cases hy : in0 y 5
  · rw [if_pos hy, if_pos hy]
    by_cases hx : in0 x n
    · rw [if_pos hx]
      obtain ⟨f, hf, rfl⟩ := in0_of hx (by omega)
      rw [nI_clamp (by omega)]
      by_cases hg : Gnd (mo 0) f
      · rw [if_pos ⟨hx, hg⟩, if_pos ⟨hx, hg⟩]
        obtain ⟨a1, a2, a3, a4, a5, a6, m, q, s', t1, t2, t3, t4, t5, t6, t7⟩ := try_s (fot := fot) (rot := rot) (rat := rat) (vct := vct) (ost := ost) (lit := lit) (mo0 := upA mo 1 (layF (mo 1) (mo 0) 8)) h hf hg
        have ei : upA (upA mo 1 (layF (mo 1) (mo 0) 8)) 0 (mo 0) = upA mo 1 (layF (mo 1) (mo 0) 8) := by
          have := upA_id (upA mo 1 (layF (mo 1) (mo 0) 8)) 0
          rw [upA_n _ _ (show (0 : Nat) ≠ 1 by omega)] at this
          exact this
        rw [ei] at t4
        have k173' : cnS (mo 0) f m 173 = nI n := by unfold cnS; rw [pk_un (by omega), pk_un (by omega)]; exact hs
        obtain ⟨m', w1, w2, w3, -⟩ := lay_tak (mo := mo) (s := mo 0) (m := upA (upA mo 1 (layF (mo 1) (mo 0) 8)) 0 s') (by rw [upA_n _ _ (show (1 : Nat) ≠ 0 by omega), upA_0])
        rw [t3, bn6_r, Fi_isOf_s h.f (by omega), bn1_r, bI_z, Fi_waitOf_s h.f (by omega), bn1_r, if_pos hf, t4, bn1_r, Mo_lineWaits_s _ hn (by rw [upA_0]; exact k173'), bn1_r, upA_0, t5, bn2_r, Mo_lineWaits_s _ hn (by rw [upA_0]; exact t6.sn), bn1_r, upA_0, stk_r, w1, bn1_r, if_pos (show 0 ≤ nI q from nI_pos' (by omega))]
        unfold St_helps_b61
        rw [Fi_waitsOf_s h.f, Fi_waitsOf_s t6]
        simp only [bn1_r]
        have wc := wa_cn (s := mo 0) hf hn t1 y
        unfold WL at wc
        by_cases hl : mo 0 (8 * f) = y
        · rw [if_pos hl] at wc
          rw [if_pos ⟨hf, hl⟩, wc]
          exact ⟨_, _, _, _, _, _, _, m', rfl, rfl, h.cg w2, (KP.lay.tr (KP.up (by omega))).tr w3⟩
        · rw [if_neg hl] at wc
          rw [if_neg (fun z => hl z.2), wc]
          exact ⟨_, _, _, _, _, _, _, m', rfl, rfl, h.cg w2, (KP.lay.tr (KP.up (by omega))).tr w3⟩
      · rw [if_neg (fun z => hg z.2), if_neg (fun z => hg z.2)]; exact same
    · rw [if_neg hx, if_neg (fun z => hx z.1)]; exact same
  · rw [if_neg hy, if_neg hy]
    by_cases hg : in0 x n ∧ Gnd (mo 0) x.toNatClampNeg
    · rw [if_pos hg]; exact same
    · rw [if_neg hg]; exact same
theorem bestCancel_l {l w : Int32} : ∀ (r k N N' : Nat) (fot rot rat vct ost lit mo : Mem) (b c : Int32), k + r = n → r + 30 < N → r < N' → RF n v fo ro ra vc os li (mo 0) → ∃ q a1 a2 a3 a4 a5 a6 mo', St_bestCancel_b26 fo ro ra vc os li l w N fot rot rat vct ost lit b c (nI k) = some (q, a1, a2, a3, a4, a5, a6) ∧ Mo_bestCancel_b26 l w N' mo b c (nI k) = some (q, mo') ∧ RF n v fo ro ra vc os li (mo' 0) ∧ KP mo mo'
  | 0, k, N, N' + 1, fot, rot, rat, vct, ost, lit, mo, b, c, hk, hN, _, h => by
    have hn := h.1.n20
    have hs := h.1.sn
    have e : k = n := by omega
    subst e
    have tail : ∀ (j i M : Nat), i + j = 20 → j < M → k ≤ i → St_bestCancel_b26 fo ro ra vc os li l w M fot rot rat vct ost lit b c (nI i) = if b = -1 then some (-2, fot, rot, rat, vct, ost, lit) else if w = 0 then some (b, fot, rot, rat, vct, ost, lit) else some (c, fot, rot, rat, vct, ost, lit) := by
      intro j
      induction j with
      | zero =>
        intro i M hi hM _
        obtain ⟨M, rfl⟩ : ∃ q, M = q + 1 := ⟨M - 1, by omega⟩
        have e : i = 20 := by omega
        subst e
        show St_bestCancel_b26B fo ro ra vc os li l w (St_bestCancel_b26 fo ro ra vc os li l w M) fot rot rat vct ost lit b c (nI 20) = _
        unfold St_bestCancel_b26B
        rw [if_pos (by decide)]
      | succ j ih =>
        intro i M hi hM hki
        obtain ⟨M, rfl⟩ : ∃ q, M = q + 1 := ⟨M - 1, by omega⟩
        show St_bestCancel_b26B fo ro ra vc os li l w (St_bestCancel_b26 fo ro ra vc os li l w M) fot rot rat vct ost lit b c (nI i) = _
        unfold St_bestCancel_b26B
        rw [if_neg (show ¬ 20 ≤ nI i from nI_ge (b := 20) (by omega) (by omega)), Fi_isOf_s h.1 (by omega), bn1_r, bI_z, if_neg (fun z => absurd z.1 (by omega)), stk_r, nI_1]
        exact ih (i + 1) M (by omega) (by omega) (by omega)
    rw [tail (20 - k) k N (by omega) (by omega) (Nat.le_refl k)]
    have em : Mo_bestCancel_b26 l w (N' + 1) mo b c (nI k) = if b = -1 then some (-2, mo) else if w = 0 then some (b, mo) else some (c, mo) := by
      show Mo_bestCancel_b26B l w (Mo_bestCancel_b26 l w N') mo b c (nI k) = _
      unfold Mo_bestCancel_b26B
      rw [n173 (mo := mo), k173, hs, if_pos (nI_le (Nat.le_refl k) (by omega))]
    rw [em]
    by_cases q1 : b = -1
    · rw [if_pos q1, if_pos q1]; exact ⟨_, _, _, _, _, _, _, mo, rfl, rfl, h, KP.rf⟩
    · rw [if_neg q1, if_neg q1]
      by_cases q2 : w = 0
      · rw [if_pos q2, if_pos q2]; exact ⟨_, _, _, _, _, _, _, mo, rfl, rfl, h, KP.rf⟩
      · rw [if_neg q2, if_neg q2]; exact ⟨_, _, _, _, _, _, _, mo, rfl, rfl, h, KP.rf⟩
  | r + 1, k, N + 1, N' + 1, fot, rot, rat, vct, ost, lit, mo, b, c, hk, hN, hN', h => by
    have hn := h.1.n20
    have hs := h.1.sn
    have kn : k < n := by omega
    show ∃ q a1 a2 a3 a4 a5 a6 mo', St_bestCancel_b26B fo ro ra vc os li l w (St_bestCancel_b26 fo ro ra vc os li l w N) fot rot rat vct ost lit b c (nI k) = some (q, a1, a2, a3, a4, a5, a6) ∧ Mo_bestCancel_b26B l w (Mo_bestCancel_b26 l w N') mo b c (nI k) = some (q, mo') ∧ RF n v fo ro ra vc os li (mo' 0) ∧ KP mo mo'
    unfold St_bestCancel_b26B Mo_bestCancel_b26B
    rw [if_neg (show ¬ 20 ≤ nI k from nI_ge (b := 20) (by omega) (by omega)), Fi_isOf_s h.1 (by omega), n173 (mo := mo), k173, hs, if_neg (nI_ge kn (by omega)), Mo_of_0 (by omega), Fi_isGrounded_s h.1 (by omega), Mo_isGround_s (by omega)]
    simp only [bn1_r, bI_z, stk_r, nI_1]
    by_cases e : mo 0 (8 * k) = l
    · rw [if_pos ⟨kn, e⟩, if_pos e]
      by_cases g : Gnd (mo 0) k
      · rw [if_pos ⟨kn, g⟩, if_pos g, Mo_lays_8]
        obtain ⟨a1, a2, a3, a4, a5, a6, m, q, s', t1, t2, t3, t4, t5, t6, t7⟩ := try_s (fot := fot) (rot := rot) (rat := rat) (vct := vct) (ost := ost) (lit := lit) (mo0 := upA mo 1 (layF (mo 1) (mo 0) 8)) h kn g
        have ei : upA (upA mo 1 (layF (mo 1) (mo 0) 8)) 0 (mo 0) = upA mo 1 (layF (mo 1) (mo 0) 8) := by
          have := upA_id (upA mo 1 (layF (mo 1) (mo 0) 8)) 0
          rw [upA_n _ _ (show (0 : Nat) ≠ 1 by omega)] at this
          exact this
        rw [ei] at t4
        obtain ⟨m', w1, w2, w3, -⟩ := lay_tak (mo := mo) (s := mo 0) (m := upA (upA mo 1 (layF (mo 1) (mo 0) 8)) 0 s') (by rw [upA_n _ _ (show (1 : Nat) ≠ 0 by omega), upA_0])
        have kp : KP mo m' := (KP.lay.tr (KP.up (by omega))).tr w3
        rw [t3, bn6_r, bn1_r, t4, bn1_r, t5, bn2_r, Mo_lineCost_s _ hn (by rw [upA_0]; exact t6.sn), bn1_r, upA_0, w1, bn1_r, Fi_lineCost_s t6, bn1_r]
        unfold Mo_bestCancel_b105
        rw [if_pos (show 0 ≤ nI q from nI_pos' (by omega))]
        simp only [stk_r, nI_1]
        have go : ∀ b' c', ∃ q a1' a2' a3' a4' a5' a6' mo', St_bestCancel_b26 fo ro ra vc os li l w N a1 a2 a3 a4 a5 a6 b' c' (nI (k + 1)) = some (q, a1', a2', a3', a4', a5', a6') ∧ Mo_bestCancel_b26 l w N' m' b' c' (nI (k + 1)) = some (q, mo') ∧ RF n v fo ro ra vc os li (mo' 0) ∧ KP mo mo' := fun b' c' => by
          obtain ⟨q, z1, z2, z3, z4, z5, z6, mo', y1, y2, y3, y4⟩ := bestCancel_l r (k + 1) N N' a1 a2 a3 a4 a5 a6 m' b' c' (by omega) (by omega) (by omega) (h.cg w2)
          exact ⟨q, z1, z2, z3, z4, z5, z6, mo', y1, y2, y3, kp.tr y4⟩
        by_cases q1 : b = -1
        · rw [if_pos q1, if_pos q1]; exact go _ _
        · rw [if_neg q1, if_neg q1]
          by_cases q2 : c ≤ sm (fun f => if s' (8 * f) = l then coS s' f else 0) n
          · rw [if_pos q2, if_pos q2]; exact go _ _
          · rw [if_neg q2, if_neg q2]; exact go _ _
      · rw [if_neg (fun z => g z.2), if_neg g]
        exact bestCancel_l r (k + 1) N N' _ _ _ _ _ _ mo b c (by omega) (by omega) (by omega) h
    · rw [if_neg (fun z => e z.2), if_neg e]
      exact bestCancel_l r (k + 1) N N' _ _ _ _ _ _ mo b c (by omega) (by omega) (by omega) h
theorem q_bestCancel (h : RF n v fo ro ra vc os li (mo 0)) : ∃ r a1 a2 a3 a4 a5 a6 mo', St_bestCancel fo ro ra vc os li fot rot rat vct ost lit x y = some (r, a1, a2, a3, a4, a5, a6) ∧ Mo_bestCancel mo x y = some (r, mo') ∧ RF n v fo ro ra vc os li (mo' 0) ∧ KP mo mo' := by
  have hn := h.f.n20
  have same : ∃ r a1 a2 a3 a4 a5 a6 mo', some ((-1 : Int32), fot, rot, rat, vct, ost, lit) = some (r, a1, a2, a3, a4, a5, a6) ∧ some ((-1 : Int32), mo) = some (r, mo') ∧ RF n v fo ro ra vc os li (mo' 0) ∧ KP mo mo' := ⟨_, _, _, _, _, _, _, mo, rfl, rfl, h, KP.rf⟩
  unfold St_bestCancel Mo_bestCancel
  rw [St_isLine_s, Mo_isLine_s, show (1 : Int32) = nI 1 from rfl, Mo_in0 1 (by omega)]
  simp only [bn1_r, bI_z]
  by_cases hx : in0 x 5
  · rw [if_pos hx, if_pos hx]
    by_cases hy : in0 y 2
    · have hy' := (in0_le (x := y) (k := 1) (by omega)).mpr hy
      rw [if_pos hy, if_neg hy.1, if_pos (Int32.not_lt.mp hy'.2)]
      exact bestCancel_l n 0 fl fl _ _ _ _ _ _ mo (-1) 0 (by omega) (by rw [fl_v]; omega) (by rw [fl_v]; omega) h
    · rw [if_neg hy]
      by_cases h1 : y < 0
      · rw [if_pos h1]; exact same
      · rw [if_neg h1, if_neg (fun q => hy ((in0_le (k := 1) (by omega)).mp ⟨h1, Int32.not_lt.mpr q⟩))]; exact same
  · rw [if_neg hx, if_neg hx]; exact same
end TR
