/-! revise; if cut -/
section R3
variable {n v m k c f : Nat} {fo ro ra vc os li mo pn fot rot rat vct ost lit : Mem} {x y z w : Int32} {s s' : Nat → Int32}
theorem b22_s {g : Nat → Int32} (hn : n ≤ 20) (hs : mo 0 173 = nI n) (hg : ∀ f, f < n → mo 15 f = g f) : Mo_revise_b22 fl mo 0 0 = some (sm (fun f => if Pd (mo 0) f then (if mo 0 (8 * f + 4) = g f then 0 else 1) else 0) n, mo) := by
  refine for_fl (fun k a x => Mo_revise_b22 k mo a x) _ hn (fun a => some (a, mo)) (fun k i a hi => ?_) (fun k a => ?_)
  · show Mo_revise_b22B (Mo_revise_b22 k) mo a (nI i) = _
    unfold Mo_revise_b22B
    rw [n173 (mo := mo), k173, hs, if_neg (nI_ge hi (by omega)), Mo_isPlanned_s (by omega), bn1_r, bI_z, Mo_of_4 (by omega), bn1_r, ckI_nI _ (by omega) (by omega), nI_clamp (by omega), hg i hi]
    simp only [stk_r, nI_1]
    by_cases q : Pd (mo 0) i
    · rw [if_pos q, if_pos q]
      by_cases q2 : mo 0 (8 * i + 4) = g i
      · rw [if_pos q2, if_pos q2]
      · rw [if_neg q2, if_neg q2]
    · rw [if_neg q, if_neg q]
  · show Mo_revise_b22B (Mo_revise_b22 k) mo a (nI n) = _
    unfold Mo_revise_b22B
    rw [n173 (mo := mo), k173, hs, if_pos (nI_le (Nat.le_refl n) (by omega))]
theorem q_revise {M : Nat} (h : RF n v fo ro ra vc os li (mo 0)) (hM : PM M pn) (hMb : M < 2 ^ 30) : ∃ r pn' fo' vc' os' mo' v', St_revise pn fo ro ra vc os = some (r, pn', fo', vc', os') ∧ Mo_revise mo = some (r, mo') ∧ RF n v' fo' ro ra vc' os' li (mo' 0) ∧ KP mo mo' ∧ ∃ M', M' ≤ M + 13 ∧ PM M' pn' := by
  have hn := h.f.n20
  unfold St_revise Mo_revise
  rw [n174, k174, h.2.2.1.1]
  by_cases q : mo 0 174 = 0
  · rw [if_pos q, if_pos q]
    exact ⟨_, _, _, _, _, _, v, rfl, rfl, h, KP.rf, M, by omega, hM⟩
  · rw [if_neg q, if_neg q]
    obtain ⟨x, pn', fo', vc', os', mo', o1, o2, o3, o4, o5, -, o7, o8, o9⟩ := planOn_s h hM hMb
    rw [o1, o2, bn5_r, bn1_r, b22_s hn o3.f.sn o8]
    refine ⟨x, pn', fo', vc', os', mo', 0, rfl, ?_, o3, o4, M + 1, by omega, o5⟩
    have ee : sm (fun f => if Pd (mo' 0) f then (if mo' 0 (8 * f + 4) = fo 5 f then (0 : Int32) else 1) else 0) n = x := by
      rw [o7]
      unfold sT
      refine sm_congr (fun f hf => ?_)
      by_cases p : Pd (mo' 0) f
      · rw [if_pos p, (o3.f.pd hf p).1]
      · rw [if_neg p, if_pos (by rw [(o3.f.np (by omega) (fun z => p z.2)).1, o9 f hf p])]
    rw [ee]
/-- another rate for hours -/
theorem RF.rates {X Y r : Nat} (h : RF n v fo ro ra vc os li s) (hY : Y < 12) (hr : r ≤ 12) : RF n v fo ro (upA ra 0 (ptR X (Y + 1) (nI r) (ra 0))) vc os li (ptR (160 + X) (160 + (Y + 1)) (nI r) s) := by
  have hn := h.1.n20
  obtain ⟨hF, hr', hb, hv, ho, hl, jt, jf, jg, jp, jd, jv, jr, jo, jl⟩ := id h
  have q : ∀ i, i < 160 ∨ 172 ≤ i → ptR (160 + X) (160 + (Y + 1)) (nI r) s i = s i := fun i hi => if_neg (by omega)
  have e1 : ag s (ptR (160 + X) (160 + (Y + 1)) (nI r) s) 0 160 := fun i _ _ => q i (by omega)
  have e3 : ag s (ptR (160 + X) (160 + (Y + 1)) (nI r) s) 176 216 := fun i _ _ => q i (by omega)
  have e4 : ag s (ptR (160 + X) (160 + (Y + 1)) (nI r) s) 216 252 := fun i _ _ => q i (by omega)
  have e5 : ag s (ptR (160 + X) (160 + (Y + 1)) (nI r) s) 252 1452 := fun i _ _ => q i (by omega)
  have p := h.rp.rates (rat := ra) (X := X) hY hr (fun _ _ _ => rfl)
  exact ⟨hF.cg e1 (q _ (by omega)) (q _ (by omega)), p.2.1, hb.cg hn e1 (q _ (by omega)), hv.cg hn e1 e5, ho.cg e3, hl.cg (q _ (by omega)) e4, jt.cg (q _ (by omega)) (q _ (by omega)), jf.cg hn e1, jg.cg hn e1, jp.cg hn e1 (q _ (by omega)), jd.cg hn e1, jv.cg hn e1 e5, p.2.2.1, jo.cg hn e1 e3, jl.cg (q _ (by omega)) e4⟩
/-- a later now -/
theorem RF.later {t t' : Nat} (h : RF n v fo ro ra vc os li s) (et : s 172 = nI t) (htt : t ≤ t') (ht' : t' < 720) : RF n v (upm fo 9 0 (nI t')) ro ra vc os li (upd s 172 (nI t')) := by
  have hn := h.1.n20
  obtain ⟨hf, hr, hb, hv, ho, hl, jt, jf, jg, jp, jd, jv, jr, jo, jl⟩ := id h
  have a1 : ag s (upd s 172 (nI t')) 0 160 := ag_upd (by omega)
  refine ⟨?_, hr.cg (ag_upd (by omega)), ?_, hv.cg hn a1 (ag_upd (by omega)), ho.cg (ag_upd (by omega)), hl.cg (pk_un (by omega)) (ag_upd (by omega)), ⟨⟨t', by omega, pk_us⟩, by rw [pk_un (by omega)]; exact jt.2⟩, jf.cg hn a1, jg.cg hn a1, fun f hfn hp => ?_, jd.cg hn a1, jv.cg hn a1 (ag_upd (by omega)), jr.cg (ag_upd (by omega)), jo.cg hn a1 (ag_upd (by omega)), jl.cg (pk_un (by omega)) (ag_upd (by omega))⟩
  · obtain ⟨h1, h2, h3, h4, h5, h6, h7⟩ := hf
    refine ⟨h1, h2, by rw [pk_un (by omega)]; exact h3, by rw [pk_us, upm_0, pk_us], fun f hfn => ?_, fun f hfn => ?_, fun f hf1 hf2 => ?_⟩
    · rw [pk_un (by omega), pk_un (by omega), pk_un (by omega), pk_un (by omega)]; exact h5 f hfn
    · rw [Pd_cg a1 (by omega), pk_un (by omega), pk_un (by omega), pk_un (by omega), upm_n _ _ _ (by omega), upm_n _ _ _ (by omega), upm_n _ _ _ (by omega)]; exact h6 f hfn
    · rw [upm_n _ _ _ (by omega), upm_n _ _ _ (by omega), upm_n _ _ _ (by omega)]; exact h7 f hf1 hf2
  · refine ⟨by rw [pk_un (by omega), upm_n _ _ _ (by omega)]; exact hb.1, ?_⟩
    rw [msk_congr (fun i _ => gone_cg hn a1 i), upm_n _ _ _ (by omega)]; exact hb.2
  · rw [Pd_cg a1 (by omega)] at hp
    obtain ⟨b, c, t0, m, hh, k, e1, e2, e3, e4, e5, e6, q1, q2, q3, q4, q5, q6⟩ := jp f hfn hp
    have : t0 = t := (nI_eq (by omega) (by obtain ⟨⟨t3, z1, z2⟩, -⟩ := jt; have := (nI_eq (by omega) (by omega)).mp (e3.symm.trans z2); omega)).mp (e3.symm.trans et)
    refine ⟨b, c, t', m, hh, k, by rw [pk_un (by omega)]; exact e1, by rw [pk_un (by omega)]; exact e2, pk_us, by rw [pk_un (by omega)]; exact e4, by rw [pk_un (by omega)]; exact e5, by rw [pk_un (by omega)]; exact e6, q1, q2, by omega, q4, q5, by omega⟩
theorem q_ifCut {M : Nat} (h : RF n v fo ro ra vc os li (mo 0)) (hM : PM M pn) (hMb : M < 2 ^ 30) : ∃ r pn' a1 a2 a3 a4 a5 a6 mo', St_ifCut pn fo ro ra vc os li fot rot rat vct ost lit x y = some (r, pn', a1, a2, a3, a4, a5, a6) ∧ Mo_ifCut mo x y = some (r, mo') ∧ RF n v fo ro ra vc os li (mo' 0) ∧ KP mo mo' ∧ ∃ M', M' ≤ M + 13 ∧ PM M' pn' := by
  have hn := h.f.n20
  have same : ∀ t : Int32, ∃ r pn' a1 a2 a3 a4 a5 a6 mo', some (t, pn, fot, rot, rat, vct, ost, lit) = some (r, pn', a1, a2, a3, a4, a5, a6) ∧ some (t, mo) = some (r, mo') ∧ RF n v fo ro ra vc os li (mo' 0) ∧ KP mo mo' ∧ ∃ M', M' ≤ M + 13 ∧ PM M' pn' := fun t => ⟨_, _, _, _, _, _, _, _, mo, rfl, rfl, h, KP.rf, M, by omega, hM⟩
  obtain ⟨⟨t, ht, et⟩, -⟩ := id h.j.1
  unfold St_ifCut Mo_ifCut
  rw [St_isDayMinute_s, n172 (mo := mo), k172, Mo_in_s, h.f.ck, show (719 : Int32) = nI 719 from rfl, St_isRate_s, show (12 : Int32) = nI 12 from rfl, Mo_in0 12 (by omega), n174, k174, h.2.2.1.1]
  simp only [bn1_r, bI_z, stk_r]
  by_cases hx : ¬ x < mo 0 172 ∧ ¬ nI 719 < x
  · have h0 : ¬ x < 0 := fun z => hx.1 (Int32.lt_of_lt_of_le z (by rw [et]; exact nI_pos' (by omega)))
    have i0 := (in0_le (k := 719) (by omega)).mp ⟨h0, hx.2⟩
    rw [if_pos hx, if_pos i0, if_neg hx.1]
    obtain ⟨t', ht', rfl⟩ := in0_of i0 (by omega)
    have htt : t ≤ t' := by
      have := hx.1
      rw [et, nI_ltI (by omega) (by omega)] at this
      omega
    by_cases hy : in0 y 13
    · rw [if_pos hy, if_pos hy]
      obtain ⟨r, hr, rfl⟩ := in0_of hy (by omega)
      by_cases q : mo 0 174 = 0
      · rw [if_pos q, if_pos q]; exact same _
      · rw [if_neg q, if_neg q]
        obtain ⟨a1, a2, a3, a4, a5, a6, c1, c2⟩ := RF_copy (fot := fot) (rot := rot) (rat := rat) (vct := vct) (ost := ost) (lit := lit) h
        have dv : nI t' / 60 = nI (t' / 60) := by rw [show (60 : Int32) = nI 60 from rfl, pk_div (by omega) (by omega) (by omega)]
        have le : t' / 60 ≤ 11 := by omega
        rw [c1, bn6_r, Mo_lays_8, bn1_r, dv, show (11 : Int32) = nI 11 from rfl, Ra_putAll_s le (by omega), bn1_r, Mo_rates_s le (by omega), bn1_r]
        have c3 := (c2.later et htt (by omega)).rates (X := t' / 60) (Y := 11) (r := r) (by omega) (by omega)
        have e0 : upA (upm (upA mo 1 (layF (mo 1) (mo 0) 8)) 0 172 (nI t')) 0 (ptR (160 + t' / 60) (160 + (11 + 1)) (nI r) (upm (upA mo 1 (layF (mo 1) (mo 0) 8)) 0 172 (nI t') 0)) 0 = ptR (160 + t' / 60) (160 + (11 + 1)) (nI r) (upd (mo 0) 172 (nI t')) := by
          rw [upA_0, upm_0, upA_n _ _ (by omega)]
        rw [← e0] at c3
        obtain ⟨xx, pn', fo', vc', os', m, o1, o2, o3, o4, o5, o6, -⟩ := planOn_s c3 hM hMb
        rw [upA_n _ _ (by omega), upm_n _ _ _ (by omega), upA_0] at o6
        obtain ⟨m', t1, t2, t3, -⟩ := lay_tak (mo := mo) (s := mo 0) o6
        rw [o1, bn5_r, o2, bn1_r, Fi_totalCircles_s o3.f, show (6 : Int32) = nI 6 from rfl, Mo_allOf_s 6 (by omega) hn o3.f.sn, bn1_r, bn1_r, t1, bn1_r]
        exact ⟨_, _, _, _, _, _, _, _, m', rfl, rfl, h.cg t2, ((((KP.lay (mo := mo) (s := mo 0)).tr (KP.um (by omega))).tr (KP.up (by omega))).tr o4).tr t3, M + 1, by omega, o5⟩
    · rw [if_neg hy, if_neg hy]; exact same _
  · rw [if_neg hx]
    by_cases h1 : in0 x 720
    · rw [if_pos h1, if_pos]
      · exact same _
      · exact Classical.byContradiction (fun z => hx ⟨z, ((in0_le (k := 719) (by omega)).mpr h1).2⟩)
    · rw [if_neg h1]; exact same _
end R3
