/-! a flight cancelled; a flight into a vacant slot -/
section CA
variable {n v : Nat} {fo ro ra vc os li mo : Mem} {x y : Int32} {s s' : Nat → Int32} {mm kk : Nat → Nat}
theorem cn_one {P Q : Nat → Bool} {f : Nat} : ∀ {k : Nat}, (∀ i, i < k → Q i = (P i || decide (i = f))) → f < k → P f = false → cn Q k = cn P k + 1
  | 0, _, h, _ => by omega
  | k + 1, e, hf, hp => by
    unfold cn
    by_cases q : f = k
    · subst q
      have h1 : cn Q f = cn P f := by
        have : ∀ j, j ≤ f → cn Q j = cn P j := by
          intro j
          induction j with
          | zero => intro _; rfl
          | succ j ih =>
            intro hj
            unfold cn
            rw [ih (by omega), e j (by omega), decide_eq_false (show ¬ j = f by omega), Bool.or_false]
        exact this f (Nat.le_refl f)
      rw [h1, e f (by omega), hp, decide_eq_true (rfl : f = f)]
      rfl
    · rw [cn_one (f := f) (k := k) (fun i hi => e i (by omega)) (by omega) hp, e k (by omega), decide_eq_false (show ¬ k = f by omega), Bool.or_false]
      omega
def cnS (s : Nat → Int32) (f m : Nat) : Nat → Int32 := upd (upd s (252 + m) (s (8 * f) + 1)) (8 * f + 7) 1
theorem Mo_cancels_s {f m : Nat} (hf : f < 20) (hm : m < 1200) (e : mo 0 (8 * f + 4) = nI m) : Mo_cancels mo (nI f) = some (upA mo 0 (cnS (mo 0) f m)) := by
  unfold Mo_cancels
  rw [Mo_of_4 hf, Mo_of_0 hf, bn1_r, bn1_r, e, n252 _ hm, k252 hm, stk_r, upm_A, show (7 : Int32) = nI 7 from rfl, Mo_sets_s (by omega), bn1_r, upA_0, upA_A]
  rfl
def clM (fo : Mem) (f : Nat) (w : Int32) : Mem := upm (upm (upm (upm fo 5 f (-1)) 6 f 0) 7 f 0) 8 0 w
theorem RF_cancel {f : Nat} (h : RF n v fo ro ra vc os li s) (hf : f < n) (hg : Gnd s f) : ∃ fo' vc' m, m < 1200 ∧ s (8 * f + 4) = nI m ∧ Fi_callOff fo ro vc (nI f) = some (nI m, fo', vc') ∧ RF n (v + 1) fo' ro ra vc' os li (cnS s f m) := by
  have hn := h.1.n20
  obtain ⟨hF, hr, hb, hv, ho, hl, jt, jf, jg, jp, jd, jv, jr, jo, jl⟩ := id h
  obtain ⟨b, c, t, m, hh, k, f1, f2, f3, f4, f5, f6, f7, f8, f9, f10, f11, f12⟩ := jp f hf hg.1
  obtain ⟨a', b', c', d', g1, g2, -⟩ := jf f hf
  obtain ⟨mm, kk, hL⟩ := hv.l
  have gf : gone n s f = false := decide_eq_false (fun z => by rw [hg.1.2] at z; exact absurd z.2 (by decide))
  have u : ∀ i, i ≠ 252 + m → i ≠ 8 * f + 7 → cnS s f m i = s i := fun i h1 h2 => by unfold cnS; rw [pk_un h2, pk_un h1]
  have u1 : cnS s f m (252 + m) = nI (a' + 1) := by unfold cnS; rw [pk_un (by omega), pk_us, g1, nI_1]
  have u2 : cnS s f m (8 * f + 7) = 1 := by unfold cnS; rw [pk_us]
  have go : ∀ i, gone n (cnS s f m) i = (gone n s i || decide (i = f)) := fun i => by
    unfold gone
    by_cases e : i = f
    · subst e
      rw [u2, decide_eq_true (⟨hf, rfl⟩ : i < n ∧ (1 : Int32) = 1), decide_eq_true (rfl : i = i), Bool.or_true]
    · rw [decide_eq_false e, Bool.or_false]
      by_cases q : i < n
      · rw [u (8 * i + 7) (by omega) (by omega)]
      · rw [decide_eq_false (fun z => q z.1), decide_eq_false (fun z => q z.1)]
  have cn1 : cn (gone n (cnS s f m)) n = cn (gone n s) n + 1 := cn_one (f := f) (fun i _ => go i) hf gf
  have cn2 := cn_le (gone n (cnS s f m)) n
  have hv1 := hv.1
  obtain ⟨p, vc', o1, o2, o3, o4, o5, o6⟩ := Va_add_s (m := m) (c := a') f7 (show v < 20 by omega) hL.1 (fun i hi => ⟨(hL.2.1 i hi).1, (hL.2.1 i hi).2.1, (hL.2.1 i hi).2.2.1⟩)
  have sz := jv.2 f hf hg.1 m f7 f4
  have hL' := RvL_ins (s' := cnS s f m) hL f7 g2 sz u1 (fun k hk hkm => u _ (by omega) (by omega)) o2 o3 o4 o5 o6
  refine ⟨clM fo f (nI (msk (gone n (cnS s f m)) 20)), vc', m, f7, f4, ?_, ?_⟩
  · unfold Fi_callOff Fi_clearFlight
    rw [Fi_isGrounded_s hF (by omega), bn1_r, bI_z, if_pos ⟨hf, hg⟩, ckI_nI _ (by omega) (by omega), nI_clamp (by omega), (hF.pd hf hg.1).1, f4, stk_r, hF.ln hf, g1, o1, bn1_r, ckI_nI _ (by omega) (by omega)]
    simp only [bn1_r, stk_r]
    rw [upm_n _ _ _ (show (8 : Nat) ≠ 7 by omega), upm_n _ _ _ (show (8 : Nat) ≠ 6 by omega), upm_n _ _ _ (show (8 : Nat) ≠ 5 by omega), hb.2, bit_set (Q := gone n (cnS s f m)) (by omega) (by omega) (fun i _ => go i)]
    rfl
  · have w8 : clM fo f (nI (msk (gone n (cnS s f m)) 20)) 8 0 = nI (msk (gone n (cnS s f m)) 20) := by unfold clM; rw [upm_0, pk_us]
    have wk : ∀ k, k ≠ 5 → k ≠ 6 → k ≠ 7 → k ≠ 8 → clM fo f (nI (msk (gone n (cnS s f m)) 20)) k = fo k := fun k h1 h2 h3 h4 => by unfold clM; rw [upm_n _ _ _ h4, upm_n _ _ _ h3, upm_n _ _ _ h2, upm_n _ _ _ h1]
    have w5 : clM fo f (nI (msk (gone n (cnS s f m)) 20)) 5 = upd (fo 5) f (-1) := by unfold clM; rw [upm_n _ _ _ (by omega), upm_n _ _ _ (by omega), upm_n _ _ _ (by omega), upm_0]
    have w6 : clM fo f (nI (msk (gone n (cnS s f m)) 20)) 6 = upd (fo 6) f 0 := by unfold clM; rw [upm_n _ _ _ (by omega), upm_n _ _ _ (by omega), upm_0, upm_n _ _ _ (by omega)]
    have w7 : clM fo f (nI (msk (gone n (cnS s f m)) 20)) 7 = upd (fo 7) f 0 := by unfold clM; rw [upm_n _ _ _ (by omega), upm_0, upm_n _ _ _ (by omega), upm_n _ _ _ (by omega)]
    generalize clM fo f (nI (msk (gone n (cnS s f m)) 20)) = fo' at *
    have pd' : ∀ k, k < n → k ≠ f → (Pd (cnS s f m) k ↔ Pd s k) := fun k hk e => by
      unfold Pd
      rw [u (8 * k + 7) (by omega) (by omega), u (8 * k + 4) (by omega) (by omega)]
    have npf : ¬ Pd (cnS s f m) f := fun z => by rw [Pd, u2] at z; exact absurd z.2 (by decide)
    generalize cnS s f m = s' at *
    have a2 : ag s s' 160 172 := fun i h1 h2 => u i (by omega) (by omega)
    have a3 : ag s s' 176 216 := fun i h1 h2 => u i (by omega) (by omega)
    have a5 : ag s s' 216 252 := fun i h1 h2 => u i (by omega) (by omega)
    refine ⟨⟨hn, hF.rn, by rw [u _ (by omega) (by omega)]; exact hF.sn, by rw [wk 9 (by omega) (by omega) (by omega) (by omega), u _ (by omega) (by omega)]; exact hF.ck, fun g hg' => ?_, fun g hg' => ?_, fun g h1 h2 => ?_⟩, hr.cg a2, ⟨?_, ?_⟩, ⟨by omega, hL'.1, insN p m mm, insN p a' kk, hL'.2.1, hL'.2.2.1, hL'.2.2.2⟩, ho.cg a3, hl.cg (u _ (by omega) (by omega)) a5, jt.cg (u _ (by omega) (by omega)) (u _ (by omega) (by omega)), ?_, ?_, ?_, ?_, ⟨fun q hq => ?_, ?_⟩, jr.cg a2, ?_, jl.cg (u _ (by omega) (by omega)) a5⟩
    · rw [u (8 * g) (by omega) (by omega), u (8 * g + 1) (by omega) (by omega), u (8 * g + 2) (by omega) (by omega), u (8 * g + 3) (by omega) (by omega)]
      exact hF.2.2.2.2.1 g hg'
    · rw [w5, w6, w7]
      by_cases e : g = f
      · subst e; rw [pk_us, pk_us, pk_us]; exact Or.inr ⟨npf, rfl, rfl, rfl⟩
      · rw [pk_un e, pk_un e, pk_un e, pd' g hg' e, u (8 * g + 4) (by omega) (by omega), u (8 * g + 5) (by omega) (by omega), u (8 * g + 6) (by omega) (by omega)]
        exact hF.2.2.2.2.2.1 g hg'
    · have e : g ≠ f := by omega
      rw [w5, w6, w7, pk_un e, pk_un e, pk_un e]
      exact hF.2.2.2.2.2.2 g h1 h2
    · rw [wk 10 (by omega) (by omega) (by omega) (by omega), u _ (by omega) (by omega)]; exact hb.1
    · exact w8
    · intro g hg'
      rw [u (8 * g) (by omega) (by omega), u (8 * g + 1) (by omega) (by omega), u (8 * g + 2) (by omega) (by omega), u (8 * g + 3) (by omega) (by omega)]
      exact jf g hg'
    · intro g hg'
      by_cases e : g = f
      · subst e; rw [u2, u (8 * g + 4) (by omega) (by omega)]; exact Or.inr ⟨Or.inr rfl, m, f7, f4⟩
      · rw [u (8 * g + 7) (by omega) (by omega), u (8 * g + 4) (by omega) (by omega)]; exact jg g hg'
    · intro g hg' hp
      have e : g ≠ f := fun z => by subst z; exact npf hp
      rw [u (8 * g + 1) (by omega) (by omega), u (8 * g + 2) (by omega) (by omega), u (8 * g + 4) (by omega) (by omega), u (8 * g + 5) (by omega) (by omega), u (8 * g + 6) (by omega) (by omega), u 172 (by omega) (by omega)]
      exact jp g hg' ((pd' g hg' e).mp hp)
    · intro g k' hg' hk' hp hp' he
      have e : g ≠ f := fun z => by subst z; exact npf hp
      have e' : k' ≠ f := fun z => by subst z; exact npf hp'
      rw [u (8 * g + 4) (by omega) (by omega), u (8 * k' + 4) (by omega) (by omega)] at he
      exact jd g k' hg' hk' ((pd' g hg' e).mp hp) ((pd' k' hk' e').mp hp') he
    · by_cases e : q = m
      · subst e; exact ⟨a' + 1, by omega, u1⟩
      · rw [u _ (by omega) (by omega)]; exact jv.1 q hq
    · intro g hg' hp q hq he
      have e : g ≠ f := fun z => by subst z; exact npf hp
      rw [u (8 * g + 4) (by omega) (by omega)] at he
      have hpg := (pd' g hg' e).mp hp
      have qm : q ≠ m := fun z => e (jd g f hg' hf hpg hg.1 (by rw [he, f4, z]))
      rw [u _ (by omega) (by omega)]
      exact jv.2 g hg' hpg q hq he
    · intro i hi
      rcases jo i hi with q | ⟨q, a1, b1, h1, h2, h3, h4, h5, h6⟩
      · exact Or.inl (by rw [a3 (180 + 5 * i) (by omega) (by omega)]; exact q)
      · refine Or.inr ⟨by rw [a3 (180 + 5 * i) (by omega) (by omega)]; exact q, a1, b1, h1, h2, h3, ?_, ?_, ?_⟩
        · rw [a3 (176 + 5 * i) (by omega) (by omega)]; exact h4
        · rw [a3 (178 + 5 * i) (by omega) (by omega)]; exact h5
        · rw [u (8 * a1) (by omega) (by omega), u (8 * b1) (by omega) (by omega)]; exact h6
theorem cn_4 {f m : Nat} : cnS s f m (8 * f + 4) = upd s (252 + m) (s (8 * f) + 1) (8 * f + 4) := by
  unfold cnS
  rw [pk_un (by omega)]
theorem Fi_isSeated_x (h : Rf n fo ro s) : Fi_isSeated fo x = some (bI (in0 x n ∧ Pd s x.toNatClampNeg)) := by
  have hn := h.n20
  by_cases h20 : in0 x 20
  · obtain ⟨f, hf, rfl⟩ := in0_of h20 (by omega)
    rw [Fi_isSeated_s h hf, nI_clamp (by omega)]
    refine congrArg some (bI_iff ⟨fun q => ⟨in0_nI q.1 (by omega), q.2⟩, fun q => ⟨?_, q.2⟩⟩)
    obtain ⟨f', hf', e⟩ := in0_of q.1 (by omega)
    have := (nI_eq (by omega) (by omega)).mp e
    omega
  · unfold Fi_isSeated
    rw [bI_f (fun q => h20 ⟨q.1.1, Int32.lt_of_lt_of_le q.1.2 (nI_le hn (by omega))⟩)]
    by_cases h0 : x < 0
    · rw [if_pos h0]
    · rw [if_neg h0, if_pos (show 20 ≤ x from Int32.not_lt.mp (fun q => h20 ⟨h0, q⟩))]
theorem Fi_isGrounded_x (h : Rf n fo ro s) : Fi_isGrounded fo ro x = some (bI (in0 x n ∧ Gnd s x.toNatClampNeg)) := by
  have hn := h.n20
  by_cases hx : in0 x n
  · obtain ⟨f, hf, rfl⟩ := in0_of hx (by omega)
    rw [Fi_isGrounded_s h (by omega), nI_clamp (by omega)]
    exact congrArg some (bI_iff ⟨fun q => ⟨hx, q.2⟩, fun q => ⟨hf, q.2⟩⟩)
  · unfold Fi_isGrounded
    rw [Fi_isSeated_x h, bI_f (fun q => hx q.1), bI_f (fun q => hx q.1), bn1_r, if_pos rfl]
theorem Mo_isGroundFlight_x (hn : n ≤ 20) (hs : mo 0 173 = nI n) : Mo_isGroundFlight mo x = some (bI (in0 x n ∧ Gnd (mo 0) x.toNatClampNeg)) := by
  unfold Mo_isGroundFlight
  rw [Mo_isFlight_s hn hs, bn1_r, bI_z]
  by_cases hz : in0 x n
  · rw [if_pos hz]
    obtain ⟨f, hf, rfl⟩ := in0_of hz (by omega)
    rw [Mo_isGround_s (by omega), bn1_r, bI_z, nI_clamp (by omega)]
    by_cases hg : Gnd (mo 0) f
    · rw [if_pos hg, bI_t ⟨hz, hg⟩]
    · rw [if_neg hg, bI_f (fun q => hg q.2)]
  · rw [if_neg hz, bI_f (fun q => hz q.1)]
theorem q_cancel (h : RF n v fo ro ra vc os li (mo 0)) : ∃ r fo' vc' s' v', St_cancel fo ro vc x = some (r, fo', vc') ∧ Mo_cancel mo x = some (r, upA mo 0 s') ∧ RF n v' fo' ro ra vc' os li s' := by
  have hn := h.f.n20
  have hs := h.f.sn
  have same : ∀ (q : Int32), ∃ r fo' vc' s' v', some (q, fo, vc) = some (r, fo', vc') ∧ some (q, mo) = some (r, upA mo 0 s') ∧ RF n v' fo' ro ra vc' os li s' := fun q => ⟨q, fo, vc, mo 0, v, rfl, by rw [upA_id], h⟩
  unfold St_cancel Mo_cancel
  rw [Fi_isFlight_x hn h.f.rn, Mo_isFlight_s hn hs, bn1_r, bn1_r, bI_z, bI_z]
  by_cases hx : in0 x n
  · rw [if_pos hx, if_pos hx]
    obtain ⟨f, hf, rfl⟩ := in0_of hx (by omega)
    rw [Fi_isSeated_s h.f (by omega), Mo_isPlanned_s (by omega), bn1_r, bn1_r, bI_z, bI_z]
    by_cases hp : Pd (mo 0) f
    · rw [if_pos ⟨hf, hp⟩, if_pos hp, Fi_isAloft_s h.f (by omega), Mo_isAir_s (by omega), bn1_r, bn1_r, bI_z, bI_z]
      by_cases ha : goS (mo 0) f ≤ mo 0 172
      · rw [if_pos ⟨hf, hp, ha⟩, if_pos ⟨hp, ha⟩]; exact same _
      · rw [if_neg (fun z => ha z.2.2), if_neg (fun z => ha z.2)]
        obtain ⟨fo', vc', m, o1, o2, o3, o4⟩ := RF_cancel h hf ⟨hp, ha⟩
        rw [o3, bn3_r, Mo_cancels_s (by omega) o1 o2, bn1_r, Mo_of_4 (by omega), bn1_r, upA_0, cn_4, pk_un (by omega), o2]
        exact ⟨_, _, _, _, _, rfl, rfl, o4⟩
    · rw [if_neg (fun z => hp z.2), if_neg hp]; exact same _
  · rw [if_neg hx, if_neg hx]; exact same _
theorem cn_l {f m k : Nat} (hf : f < 20) (hm : m < 1200) (hk : k < 20) : cnS s f m (8 * k) = s (8 * k) := by
  unfold cnS
  rw [pk_un (by omega), pk_un (by omega)]
theorem cancelAll_l {mo0 : Mem} {l : Int32} : ∀ (r k N N' v : Nat) (fo vc : Mem) (s : Nat → Int32) (b : Int32), k + r = n → r + 30 < N → r < N' → RF n v fo ro ra vc os li s → ∃ q fo' vc' s' v', St_cancelAll_b13 ro l N fo vc b (nI k) = some (q, fo', vc') ∧ Mo_cancelAll_b13 l N' (upA mo0 0 s) b (nI k) = some (q, upA mo0 0 s') ∧ RF n v' fo' ro ra vc' os li s'
  | 0, k, N, N' + 1, v, fo, vc, s, b, hk, hN, _, h => by
    have hn := h.1.n20
    have hs := h.1.sn
    have e : k = n := by omega
    subst e
    have tail : ∀ (j i M : Nat), i + j = 20 → j < M → k ≤ i → St_cancelAll_b13 ro l M fo vc b (nI i) = some (b, fo, vc) := by
      intro j
      induction j with
      | zero =>
        intro i M hi hM _
        obtain ⟨M, rfl⟩ : ∃ q, M = q + 1 := ⟨M - 1, by omega⟩
        have e : i = 20 := by omega
        subst e
        show St_cancelAll_b13B ro l (St_cancelAll_b13 ro l M) fo vc b (nI 20) = _
        unfold St_cancelAll_b13B
        rw [if_pos (by decide)]
      | succ j ih =>
        intro i M hi hM hki
        obtain ⟨M, rfl⟩ : ∃ q, M = q + 1 := ⟨M - 1, by omega⟩
        show St_cancelAll_b13B ro l (St_cancelAll_b13 ro l M) fo vc b (nI i) = _
        unfold St_cancelAll_b13B
        rw [if_neg (show ¬ 20 ≤ nI i from nI_ge (b := 20) (by omega) (by omega)), Fi_isOf_s h.1 (by omega), bn1_r, bI_z, if_neg (fun z => absurd z.1 (by omega)), stk_r, nI_1]
        exact ih (i + 1) M (by omega) (by omega) (by omega)
    refine ⟨b, fo, vc, s, v, tail (20 - k) k N (by omega) (by omega) (Nat.le_refl k), ?_, h⟩
    show Mo_cancelAll_b13B l (Mo_cancelAll_b13 l N') (upA mo0 0 s) b (nI k) = _
    unfold Mo_cancelAll_b13B
    rw [n173 (mo := mo0), k173, upA_0, hs, if_pos (nI_le (Nat.le_refl k) (by omega))]
  | r + 1, k, N + 1, N' + 1, v, fo, vc, s, b, hk, hN, hN', h => by
    have hn := h.1.n20
    have hs := h.1.sn
    have kn : k < n := by omega
    show ∃ q fo' vc' s' v', St_cancelAll_b13B ro l (St_cancelAll_b13 ro l N) fo vc b (nI k) = some (q, fo', vc') ∧ Mo_cancelAll_b13B l (Mo_cancelAll_b13 l N') (upA mo0 0 s) b (nI k) = some (q, upA mo0 0 s') ∧ RF n v' fo' ro ra vc' os li s'
    unfold St_cancelAll_b13B Mo_cancelAll_b13B
    rw [if_neg (show ¬ 20 ≤ nI k from nI_ge (b := 20) (by omega) (by omega)), Fi_isOf_s h.1 (by omega), n173 (mo := mo0), k173, upA_0, hs, if_neg (nI_ge kn (by omega)), Mo_of_0 (by omega), upA_0, Fi_isGrounded_s h.1 (by omega), Mo_isGround_s (by omega), upA_0]
    simp only [bn1_r, bI_z, stk_r, nI_1]
    by_cases e : s (8 * k) = l
    · rw [if_pos ⟨kn, e⟩, if_pos e]
      by_cases g : Gnd s k
      · obtain ⟨fo', vc', m, o1, o2, o3, o4⟩ := RF_cancel h kn g
        rw [if_pos ⟨kn, g⟩, if_pos g, o3, bn3_r, Mo_cancels_s (by omega) o1 (by rw [upA_0]; exact o2), bn1_r, upA_0, upA_A]
        exact cancelAll_l r (k + 1) N N' (v + 1) fo' vc' _ _ (by omega) (by omega) (by omega) o4
      · rw [if_neg (fun z => g z.2), if_neg g]
        exact cancelAll_l r (k + 1) N N' v fo vc s b (by omega) (by omega) (by omega) h
    · rw [if_neg (fun z => e z.2), if_neg e]
      exact cancelAll_l r (k + 1) N N' v fo vc s b (by omega) (by omega) (by omega) h
theorem q_cancelAll (h : RF n v fo ro ra vc os li (mo 0)) : ∃ r fo' vc' s' v', St_cancelAll fo ro vc x = some (r, fo', vc') ∧ Mo_cancelAll mo x = some (r, upA mo 0 s') ∧ RF n v' fo' ro ra vc' os li s' := by
  have hn := h.f.n20
  unfold St_cancelAll Mo_cancelAll
  rw [St_isLine_s, Mo_isLine_s, bn1_r, bn1_r, bI_z, bI_z]
  by_cases hx : in0 x 5
  · rw [if_pos hx, if_pos hx]
    have e := cancelAll_l (mo0 := mo) (l := x) n 0 fl fl v fo vc (mo 0) 0 (by omega) (by rw [fl_v]; omega) (by rw [fl_v]; omega) h
    rw [upA_id] at e
    exact e
  · rw [if_neg hx, if_neg hx]
    exact ⟨-1, fo, vc, mo 0, v, rfl, by rw [upA_id], h⟩
end CA
