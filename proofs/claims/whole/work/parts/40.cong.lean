/-! what stays where the row stays -/
section CG
variable {n v : Nat} {fo ro ra vc os li : Mem} {s s' : Nat → Int32}
/-- the rows agree from a to b -/
def ag (s s' : Nat → Int32) (a b : Nat) : Prop := ∀ i, a ≤ i → i < b → s' i = s i
theorem Pd_cg {f : Nat} (e : ag s s' 0 160) (hf : f < 20) : Pd s' f ↔ Pd s f := by
  unfold Pd
  rw [e (8 * f + 4) (by omega) (by omega), e (8 * f + 7) (by omega) (by omega)]
theorem Rf.cg (h : Rf n fo ro s) (e : ag s s' 0 160) (e2 : s' 172 = s 172) (e3 : s' 173 = s 173) : Rf n fo ro s' := by
  obtain ⟨h1, h2, h3, h4, h5, h6, h7⟩ := h
  refine ⟨h1, h2, e3.trans h3, h4.trans e2.symm, fun f hf => ?_, fun f hf => ?_, h7⟩
  · rw [e (8 * f) (by omega) (by omega), e (8 * f + 1) (by omega) (by omega), e (8 * f + 2) (by omega) (by omega), e (8 * f + 3) (by omega) (by omega)]
    exact h5 f hf
  · rw [Pd_cg e (by omega), e (8 * f + 4) (by omega) (by omega), e (8 * f + 5) (by omega) (by omega), e (8 * f + 6) (by omega) (by omega)]
    exact h6 f hf
theorem Rr.cg (h : Rr ra s) (e : ag s s' 160 172) : Rr ra s' := fun k hk => by rw [e (160 + k) (by omega) (by omega)]; exact h k hk
theorem gone_cg (hn : n ≤ 20) (e : ag s s' 0 160) (f : Nat) : gone n s' f = gone n s f := by
  unfold gone
  by_cases hf : f < n
  · rw [e (8 * f + 7) (by omega) (by omega)]
  · rw [decide_eq_false (fun z => hf z.1), decide_eq_false (fun z => hf z.1)]
theorem Rb.cg (h : Rb n fo s) (hn : n ≤ 20) (e : ag s s' 0 160) (e4 : s' 174 = s 174) : Rb n fo s' := by
  refine ⟨h.1.trans e4.symm, ?_⟩
  rw [h.2, msk_congr (fun i _ => gone_cg hn e i)]
theorem Rv.cg (h : Rv v n vc s) (hn : n ≤ 20) (e : ag s s' 0 160) (e2 : ag s s' 252 1452) : Rv v n vc s' := by
  obtain ⟨h1, h2, mm, kk, h3, h4, h5⟩ := h
  refine ⟨by rw [cn_congr (fun i _ => gone_cg hn e i)]; exact h1, h2, mm, kk, fun i hi => ?_, h4, fun m hm hz => ?_⟩
  · obtain ⟨a1, a2, a3, a4, a5⟩ := h3 i hi
    exact ⟨a1, a2, a3, a4, by rw [e2 (252 + mm i) (by omega) (by omega)]; exact a5⟩
  · rw [e2 (252 + m) (by omega) (by omega)] at hz
    exact h5 m hm hz
theorem made_cg (e : ag s s' 176 216) {i : Nat} (hi : i < 8) : made s' i = made s i := by
  unfold made
  rw [e (180 + 5 * i) (by omega) (by omega)]
theorem Ros.cg (h : Ros os s) (e : ag s s' 176 216) : Ros os s' := by
  refine ⟨by rw [h.1, msk_congr (fun i hi => made_cg e hi)], fun i hi hz => ?_⟩
  rw [e (180 + 5 * i) (by omega) (by omega)] at hz
  rw [e (176 + 5 * i) (by omega) (by omega), e (177 + 5 * i) (by omega) (by omega), e (178 + 5 * i) (by omega) (by omega), e (179 + 5 * i) (by omega) (by omega)]
  exact h.2 i hi hz
theorem Rl.cg (h : Rl li s) (e5 : s' 175 = s 175) (e : ag s s' 216 252) : Rl li s' := by
  refine ⟨h.1.trans e5.symm, fun L i hL hL2 hi => ?_⟩
  rw [e (216 + 3 * i) (by omega) (by omega), e (216 + 3 * i + 1) (by omega) (by omega), e (216 + 3 * i + 2) (by omega) (by omega)]
  exact h.2 L i (e5.symm.trans hL) hL2 hi
theorem Jt.cg (h : Jt s) (e2 : s' 172 = s 172) (e4 : s' 174 = s 174) : Jt s' := by
  unfold Jt
  rw [e2, e4]; exact h
theorem Jf.cg (h : Jf n s) (hn : n ≤ 20) (e : ag s s' 0 160) : Jf n s' := fun f hf => by
  rw [e (8 * f) (by omega) (by omega), e (8 * f + 1) (by omega) (by omega), e (8 * f + 2) (by omega) (by omega), e (8 * f + 3) (by omega) (by omega)]
  exact h f hf
theorem Jg.cg (h : Jg n s) (hn : n ≤ 20) (e : ag s s' 0 160) : Jg n s' := fun f hf => by
  rw [e (8 * f + 7) (by omega) (by omega), e (8 * f + 4) (by omega) (by omega)]
  exact h f hf
theorem Jp.cg (h : Jp n s) (hn : n ≤ 20) (e : ag s s' 0 160) (e2 : s' 172 = s 172) : Jp n s' := fun f hf hp => by
  rw [Pd_cg e (by omega)] at hp
  rw [e (8 * f + 1) (by omega) (by omega), e (8 * f + 2) (by omega) (by omega), e (8 * f + 4) (by omega) (by omega), e (8 * f + 5) (by omega) (by omega), e (8 * f + 6) (by omega) (by omega), e2]
  exact h f hf hp
theorem Jd.cg (h : Jd n s) (hn : n ≤ 20) (e : ag s s' 0 160) : Jd n s' := fun f g hf hg hp hq => by
  rw [Pd_cg e (by omega)] at hp hq
  rw [e (8 * f + 4) (by omega) (by omega), e (8 * g + 4) (by omega) (by omega)]
  exact h f g hf hg hp hq
theorem Jv.cg (h : Jv n s) (hn : n ≤ 20) (e : ag s s' 0 160) (e2 : ag s s' 252 1452) : Jv n s' := by
  refine ⟨fun m hm => by rw [e2 (252 + m) (by omega) (by omega)]; exact h.1 m hm, fun f hf hp m hm => ?_⟩
  rw [Pd_cg e (by omega)] at hp
  rw [e (8 * f + 4) (by omega) (by omega), e2 (252 + m) (by omega) (by omega)]
  exact h.2 f hf hp m hm
theorem Jr.cg (h : Jr s) (e : ag s s' 160 172) : Jr s' := fun k hk => by rw [e (160 + k) (by omega) (by omega)]; exact h k hk
theorem Jo.cg (h : Jo n s) (hn : n ≤ 20) (e : ag s s' 0 160) (e2 : ag s s' 176 216) : Jo n s' := fun i hi => by
  rcases h i hi with z | ⟨z, a, b, h1, h2, h3, h4, h5, h6⟩
  · exact Or.inl (by rw [e2 (180 + 5 * i) (by omega) (by omega)]; exact z)
  · refine Or.inr ⟨by rw [e2 (180 + 5 * i) (by omega) (by omega)]; exact z, a, b, h1, h2, h3, ?_, ?_, ?_⟩
    · rw [e2 (176 + 5 * i) (by omega) (by omega)]; exact h4
    · rw [e2 (178 + 5 * i) (by omega) (by omega)]; exact h5
    · rw [e (8 * a) (by omega) (by omega), e (8 * b) (by omega) (by omega)]; exact h6
theorem Jl.cg (h : Jl n s) (e5 : s' 175 = s 175) (e : ag s s' 216 252) : Jl n s' := by
  obtain ⟨L, h1, h2, h3⟩ := h
  refine ⟨L, h1, e5.trans h2, fun i hi => ?_⟩
  rw [e (216 + 3 * i) (by omega) (by omega), e (216 + 3 * i + 1) (by omega) (by omega), e (216 + 3 * i + 2) (by omega) (by omega)]
  exact h3 i hi
theorem upm_0 (M : Mem) (k i : Nat) (w : Int32) : upm M k i w k = upd (M k) i w := if_pos rfl
theorem upm_n (M : Mem) {k k' : Nat} (i : Nat) (w : Int32) (h : k' ≠ k) : upm M k i w k' = M k' := if_neg h
theorem ag_upd {a b i : Nat} {w : Int32} (h : i < a ∨ b ≤ i) : ag s (upd s i w) a b := fun j h1 h2 => pk_un (by omega)
theorem ag_rf {a b : Nat} : ag s s a b := fun _ _ _ => rfl
theorem ag.tr {s1 s2 s3 : Nat → Int32} {a b : Nat} (h1 : ag s1 s2 a b) (h2 : ag s2 s3 a b) : ag s1 s3 a b := fun i h3 h4 => (h2 i h3 h4).trans (h1 i h3 h4)
end CG
section W1
variable {n v : Nat} {fo ro ra vc os li mo : Mem} {x y : Int32}
/-! rate, now -/
theorem q_rate (h : RF n v fo ro ra vc os li (mo 0)) : ∃ r ra' mo', St_rate ra x y = some (r, ra') ∧ Mo_rate mo x y = some (r, mo') ∧ RF n v fo ro ra' vc os li (mo' 0) ∧ ∀ k, k ≠ 0 → mo' k = mo k := by
  have hn := h.f.n20
  obtain ⟨hf, hr, hb, hv, ho, hl, jt, jf, jg, jp, jd, jv, jr, jo, jl⟩ := id h
  unfold St_rate Mo_rate
  rw [St_isHour_s, St_isRate_s, show (11 : Int32) = nI 11 from rfl, show (12 : Int32) = nI 12 from rfl, Mo_in0 11 (by omega), Mo_in0 12 (by omega)]
  simp only [bn1_r, bI_z]
  by_cases hx : in0 x 12
  · rw [if_pos hx, if_pos hx]
    by_cases hy : in0 y 13
    · rw [if_pos hy, if_pos hy]
      obtain ⟨f, hf12, rfl⟩ := in0_of hx (by omega)
      obtain ⟨w, hw, rfl⟩ := in0_of hy (by omega)
      unfold Ra_put
      rw [Ra_of_s hr hf12, n160 _ hf12, k160 hf12, St_isHour_s]
      simp only [bn1_r, bI_z, stk_r]
      rw [if_pos hx, ckI_nI _ hf12 (by omega), nI_clamp (by omega), bn1_r]
      refine ⟨_, _, _, rfl, rfl, ?_, fun k hk => upm_n mo _ _ hk⟩
      rw [upm_0]
      refine ⟨hf.cg (ag_upd (by omega)) (pk_un (by omega)) (pk_un (by omega)), fun k hk => ?_, hb.cg hn (ag_upd (by omega)) (pk_un (by omega)), hv.cg hn (ag_upd (by omega)) (ag_upd (by omega)), ho.cg (ag_upd (by omega)), hl.cg (pk_un (by omega)) (ag_upd (by omega)), jt.cg (pk_un (by omega)) (pk_un (by omega)), jf.cg hn (ag_upd (by omega)), jg.cg hn (ag_upd (by omega)), jp.cg hn (ag_upd (by omega)) (pk_un (by omega)), jd.cg hn (ag_upd (by omega)), jv.cg hn (ag_upd (by omega)) (ag_upd (by omega)), fun k hk => ?_, jo.cg hn (ag_upd (by omega)) (ag_upd (by omega)), jl.cg (pk_un (by omega)) (ag_upd (by omega))⟩
      · rw [upm_0]
        by_cases e : k = f
        · subst e; rw [pk_us, pk_us]
        · rw [pk_un e, pk_un (by omega), hr k hk]
      · by_cases e : k = f
        · subst e; exact ⟨w, by omega, pk_us⟩
        · rw [pk_un (by omega)]; exact jr k hk
    · rw [if_neg hy, if_neg hy]; exact ⟨_, _, _, rfl, rfl, h, fun _ _ => rfl⟩
  · rw [if_neg hx, if_neg hx]; exact ⟨_, _, _, rfl, rfl, h, fun _ _ => rfl⟩
theorem q_now (h : RF n v fo ro ra vc os li (mo 0)) : ∃ r fo' mo', St_now fo x = some (r, fo') ∧ Mo_now mo x = some (r, mo') ∧ RF n v fo' ro ra vc os li (mo' 0) ∧ ∀ k, k ≠ 0 → mo' k = mo k := by
  have hn := h.f.n20
  obtain ⟨hf, hr, hb, hv, ho, hl, jt, jf, jg, jp, jd, jv, jr, jo, jl⟩ := id h
  obtain ⟨⟨t, ht, et⟩, -⟩ := id jt
  unfold St_now Mo_now
  rw [St_isDayMinute_s, n172 (mo := mo), k172, Mo_in_s, hf.ck, show (719 : Int32) = nI 719 from rfl]
  simp only [bn1_r, bI_z, stk_r]
  by_cases hx : ¬ x < mo 0 172 ∧ ¬ nI 719 < x
  · have h0 : ¬ x < 0 := fun z => hx.1 (Int32.lt_of_lt_of_le z (by rw [et]; exact nI_pos' (by omega)))
    rw [if_pos hx, if_pos ((in0_le (k := 719) (by omega)).mp ⟨h0, hx.2⟩), if_pos (Int32.not_lt.mp hx.1)]
    obtain ⟨t', ht', rfl⟩ := in0_of ((in0_le (k := 719) (by omega)).mp ⟨h0, hx.2⟩) (by omega)
    have htt : t ≤ t' := by
      have := hx.1
      rw [et, nI_ltI (by omega) (by omega)] at this
      omega
    refine ⟨_, _, _, rfl, rfl, ?_, fun k hk => upm_n mo _ _ hk⟩
    rw [upm_0]
    have a1 : ag (mo 0) (upd (mo 0) 172 (nI t')) 0 160 := ag_upd (by omega)
    refine ⟨?_, hr.cg (ag_upd (by omega)), ?_, hv.cg hn a1 (ag_upd (by omega)), ho.cg (ag_upd (by omega)), hl.cg (pk_un (by omega)) (ag_upd (by omega)), ⟨⟨t', by omega, pk_us⟩, by rw [pk_un (by omega)]; exact jt.2⟩, jf.cg hn a1, jg.cg hn a1, fun f hfn hp => ?_, jd.cg hn a1, jv.cg hn a1 (ag_upd (by omega)), jr.cg (ag_upd (by omega)), jo.cg hn a1 (ag_upd (by omega)), jl.cg (pk_un (by omega)) (ag_upd (by omega))⟩
    · obtain ⟨h1, h2, h3, h4, h5, h6, h7⟩ := hf
      refine ⟨h1, h2, by rw [pk_un (by omega)]; exact h3, by rw [pk_us]; rfl, fun f hfn => ?_, fun f hfn => ?_, fun f hf1 hf2 => h7 f hf1 hf2⟩
      · rw [pk_un (by omega), pk_un (by omega), pk_un (by omega), pk_un (by omega)]; exact h5 f hfn
      · rw [Pd_cg a1 (by omega), pk_un (by omega), pk_un (by omega), pk_un (by omega)]; exact h6 f hfn
    · refine ⟨by rw [pk_un (by omega)]; exact hb.1, ?_⟩
      rw [msk_congr (fun i _ => gone_cg hn a1 i)]; exact hb.2
    · rw [Pd_cg a1 (by omega)] at hp
      obtain ⟨b, c, t0, m, hh, k, e1, e2, e3, e4, e5, e6, q1, q2, q3, q4, q5, q6⟩ := jp f hfn hp
      have : t0 = t := (nI_eq (by omega) (by omega)).mp (e3.symm.trans et)
      refine ⟨b, c, t', m, hh, k, by rw [pk_un (by omega)]; exact e1, by rw [pk_un (by omega)]; exact e2, pk_us, by rw [pk_un (by omega)]; exact e4, by rw [pk_un (by omega)]; exact e5, by rw [pk_un (by omega)]; exact e6, q1, q2, by omega, q4, q5, by omega⟩
  · rw [if_neg hx]
    refine ⟨0, fo, mo, ?_, rfl, h, fun _ _ => rfl⟩
    by_cases h1 : in0 x 720
    · rw [if_pos h1, if_neg]
      exact fun z => hx ⟨Int32.not_lt.mpr z, ((in0_le (k := 719) (by omega)).mpr h1).2⟩
    · rw [if_neg h1]
end W1
