/-! storm, draws -/
section DR
variable {n v : Nat} {fo ro ra vc os li mo mo0 di : Mem} {x y z w : Int32} {s s' : Nat → Int32}
def nxD (a : Nat) : Nat := (25173 * a + 13849) % 65536
theorem nxD_lt (a : Nat) : nxD a < 65536 := Nat.mod_lt _ (by omega)
theorem Di_roll_s {a m : Nat} (e : di 0 0 = nI a) (ha : a < 65536) (h1 : 1 ≤ m) (hm : m < 1000) : Di_roll di (nI m) = some (nI (nxD a / 4 % m), upm di 0 0 (nI (nxD a))) := by
  have hx := nxD_lt a
  unfold Di_roll
  rw [e, show (25173 : Int32) = nI 25173 from rfl, show (13849 : Int32) = nI 13849 from rfl, pk_mul, nI_add, pk_andN (by omega) 16 (by decide), stk_r, show (25173 * a + 13849) % 2 ^ 16 = nxD a from rfl, if_neg (nI_nle (by omega) (by omega)), upm_0, pk_us, show (4 : Int32) = nI 4 from rfl, pk_div (by omega) (by omega) (by omega), pk_rem (by omega) (by omega) (by omega)]
  unfold ckD
  rw [if_neg (nI_ne0 (by omega) (by omega))]
theorem Mo_draw_s {a m : Nat} (e : mo 9 0 = nI a) (ha : a < 65536) (h1 : 1 ≤ m) (hm : m < 1000) : Mo_draw mo (nI m) = some (nI (nxD a / 4 % m), upm mo 9 0 (nI (nxD a))) := by
  have hx := nxD_lt a
  unfold Mo_draw
  rw [e, show (25173 : Int32) = nI 25173 from rfl, show (13849 : Int32) = nI 13849 from rfl, pk_mul, nI_add, show (65536 : Int32) = nI 65536 from rfl, pk_rem (by omega) (by omega) (by omega), stk_r, show (25173 * a + 13849) % 65536 = nxD a from rfl, upm_0, pk_us, show (4 : Int32) = nI 4 from rfl, pk_div (by omega) (by omega) (by omega), pk_rem (by omega) (by omega) (by omega)]
  unfold ckD
  rw [if_neg (nI_ne0 (by omega) (by omega))]
theorem RF_rate {k r : Nat} (h : RF n v fo ro ra vc os li s) (hk : k < 12) (hr : r ≤ 12) : RF n v fo ro (upm ra 0 k (nI r)) vc os li (upd s (160 + k) (nI r)) := by
  have hn := h.1.n20
  obtain ⟨hF, hr', hb, hv, ho, hl, jt, jf, jg, jp, jd, jv, jr, jo, jl⟩ := id h
  have e1 : ag s (upd s (160 + k) (nI r)) 0 160 := ag_upd (by omega)
  have e3 : ag s (upd s (160 + k) (nI r)) 176 216 := ag_upd (by omega)
  have e4 : ag s (upd s (160 + k) (nI r)) 216 252 := ag_upd (by omega)
  have e5 : ag s (upd s (160 + k) (nI r)) 252 1452 := ag_upd (by omega)
  refine ⟨hF.cg e1 (pk_un (by omega)) (pk_un (by omega)), fun j hj => ?_, hb.cg hn e1 (pk_un (by omega)), hv.cg hn e1 e5, ho.cg e3, hl.cg (pk_un (by omega)) e4, jt.cg (pk_un (by omega)) (pk_un (by omega)), jf.cg hn e1, jg.cg hn e1, jp.cg hn e1 (pk_un (by omega)), jd.cg hn e1, jv.cg hn e1 e5, fun j hj => ?_, jo.cg hn e1 e3, jl.cg (pk_un (by omega)) e4⟩
  · rw [upm_0]
    by_cases e : j = k
    · subst e; rw [pk_us, pk_us]
    · rw [pk_un e, pk_un (by omega)]; exact hr' j hj
  · by_cases e : j = k
    · subst e; exact ⟨r, hr, pk_us⟩
    · rw [pk_un (by omega)]; exact jr j hj
theorem Ra_put_s {k : Nat} (hk : k < 12) : Ra_put ra (nI k) x = some (upm ra 0 k x) := by
  unfold Ra_put
  rw [St_isHour_s, bn1_r, bI_z, if_pos (in0_nI hk (by omega)), ckI_nI _ hk (by omega), nI_clamp (by omega), stk_r]
theorem storm_l {p q : Int32} {Y c : Nat} (hY : Y < 12) (hc : c ≤ 12) : ∀ (r h N N' a : Nat) (di ra mo : Mem), h + r = Y + 1 → r < N → r < N' → RF n v fo ro ra vc os li (mo 0) → di 0 0 = nI a → mo 9 0 = nI a → a < 65536 → ∃ t di' ra' mo', St_storm_b29 p q (nI Y) (nI c) N di ra (nI h) = some (t, di', ra') ∧ Mo_storm_b32 p q (nI Y) (nI c) N' mo (nI h) = some (t, mo') ∧ RF n v fo ro ra' vc os li (mo' 0) ∧ KP mo mo'
  | 0, h, N + 1, N' + 1, a, di, ra, mo, hh, _, _, hR, e1, e2, ha => by
    refine ⟨nI a, di, ra, mo, ?_, ?_, hR, KP.rf⟩
    · show St_storm_b29B p q (nI Y) (nI c) (St_storm_b29 p q (nI Y) (nI c) N) di ra (nI h) = _
      unfold St_storm_b29B
      rw [if_pos (nI_lt (by omega) (by omega)), e1]
    · show Mo_storm_b32B p q (nI Y) (nI c) (Mo_storm_b32 p q (nI Y) (nI c) N') mo (nI h) = _
      unfold Mo_storm_b32B
      rw [if_pos (nI_lt (by omega) (by omega)), e2]
  | r + 1, h, N + 1, N' + 1, a, di, ra, mo, hh, hN, hN', hR, e1, e2, ha => by
    have h12 : h < 12 := by omega
    have hx := nxD_lt a
    have hd : nxD a / 4 % (c + 1) ≤ 12 := by have := Nat.mod_lt (nxD a / 4) (show 0 < c + 1 by omega); omega
    have r1 := RF_rate hR h12 hd
    obtain ⟨t, di', ra', mo', o1, o2, o3, o4⟩ := storm_l (p := p) (q := q) hY hc r (h + 1) N N' (nxD a) (upm di 0 0 (nI (nxD a))) (upm ra 0 h (nI (nxD a / 4 % (c + 1)))) (upm (upm mo 9 0 (nI (nxD a))) 0 (160 + h) (nI (nxD a / 4 % (c + 1)))) (by omega) (by omega) (by omega) (by rw [upm_0, upm_n _ _ _ (show (0 : Nat) ≠ 9 by omega)]; exact r1) (by rw [upm_0, pk_us]) (by rw [upm_n _ _ _ (show (9 : Nat) ≠ 0 by omega), upm_0, pk_us]) hx
    refine ⟨t, di', ra', mo', ?_, ?_, o3, ((KP.um (by omega)).tr (KP.um (by omega))).tr o4⟩
    · show St_storm_b29B p q (nI Y) (nI c) (St_storm_b29 p q (nI Y) (nI c) N) di ra (nI h) = _
      unfold St_storm_b29B
      rw [if_neg (nI_nlt (by omega) (by omega)), nI_1, Di_roll_s e1 ha (by omega) (by omega), bn2_r, Ra_put_s h12, bn1_r, stk_r, nI_1]
      exact o1
    · show Mo_storm_b32B p q (nI Y) (nI c) (Mo_storm_b32 p q (nI Y) (nI c) N') mo (nI h) = _
      unfold Mo_storm_b32B
      rw [if_neg (nI_nlt (by omega) (by omega)), nI_1, Mo_draw_s e2 ha (by omega) (by omega), bn2_r, n160 _ h12, k160 h12, stk_r, stk_r, nI_1]
      exact o2
theorem q_storm (h : RF n v fo ro ra vc os li (mo 0)) : ∃ r di' ra' mo', St_storm di ra x y z w = some (r, di', ra') ∧ Mo_storm mo x y z w = some (r, mo') ∧ RF n v fo ro ra' vc os li (mo' 0) ∧ KP mo mo' := by
  have same : ∃ r di' ra' mo', some ((-1 : Int32), di, ra) = some (r, di', ra') ∧ some ((-1 : Int32), mo) = some (r, mo') ∧ RF n v fo ro ra' vc os li (mo' 0) ∧ KP mo mo' := ⟨_, _, _, mo, rfl, rfl, h, KP.rf⟩
  unfold St_storm Mo_storm
  rw [St_areHours_s, Mo_areHours_s, St_isRate_s, show (12 : Int32) = nI 12 from rfl, Mo_in0 12 (by omega)]
  simp only [bn1_r, bI_z]
  by_cases hy : in0 y 12 ∧ in0 z 12 ∧ y ≤ z
  · rw [if_pos hy, if_pos hy]
    by_cases hw : in0 w 13
    · rw [if_pos hw, if_pos hw]
      obtain ⟨X, hX, rfl⟩ := in0_of hy.1 (by omega)
      obtain ⟨Y, hY, rfl⟩ := in0_of hy.2.1 (by omega)
      obtain ⟨c, hc, rfl⟩ := in0_of hw (by omega)
      have le := (nI_leI (by omega) (by omega)).mp hy.2.2
      obtain ⟨a, ha, ea⟩ := pk_andE x (m := 65535) 16 (by decide)
      unfold Di_start
      rw [stk_r, bn1_r, stk_r, ea]
      obtain ⟨t, di', ra', mo', o1, o2, o3, o4⟩ := storm_l (p := x) (q := nI X) hY (show c ≤ 12 by omega) (Y + 1 - X) X fl fl a (upm di 0 0 (nI a)) ra (upm mo 9 0 (nI a)) (by omega) (by rw [fl_v]; omega) (by rw [fl_v]; omega) (by rw [upm_n _ _ _ (show (0 : Nat) ≠ 9 by omega)]; exact h) (by rw [upm_0, pk_us]) (by rw [upm_0, pk_us]) ha
      exact ⟨t, di', ra', mo', o1, o2, o3, (KP.um (by omega)).tr o4⟩
    · rw [if_neg hw, if_neg hw]; exact same
  · rw [if_neg hy, if_neg hy]; exact same
/-! all cleared -/
def cpS (s : Nat → Int32) (i : Nat) : Int32 := if 252 ≤ i ∧ i < 1452 ∨ (180 ≤ i ∧ i < 216 ∧ i % 5 = 0) then 0 else s i
theorem Mo_cp2 : ∀ (r k N : Nat), k + r = 8 → r < N → Mo_clearsPlan_b28 N (upA mo 0 (fun i => if 252 ≤ i ∧ i < 1452 ∨ (180 ≤ i ∧ i < 180 + 5 * k ∧ i % 5 = 0) then 0 else mo 0 i)) (nI k) = some (upA mo 0 (cpS (mo 0)))
  | 0, k, N + 1, hk, _ => by
    have e : k = 8 := by omega
    subst e
    show Mo_clearsPlan_b28B (Mo_clearsPlan_b28 N) _ (nI 8) = _
    unfold Mo_clearsPlan_b28B
    rw [if_pos (by decide)]
    congr 2
    funext i
    unfold cpS
    by_cases q : 252 ≤ i ∧ i < 1452 ∨ (180 ≤ i ∧ i < 216 ∧ i % 5 = 0)
    · rw [if_pos q, if_pos (by omega)]
    · rw [if_neg q, if_neg (by omega)]
  | r + 1, k, N + 1, hk, hN => by
    show Mo_clearsPlan_b28B (Mo_clearsPlan_b28 N) _ (nI k) = _
    unfold Mo_clearsPlan_b28B
    rw [if_neg (show ¬ 8 ≤ nI k from nI_ge (b := 8) (by omega) (by omega)), Mo_drop (by omega), ckI_nI _ (by omega) (by omega), nI_clamp (by omega), stk_r, stk_r, nI_1, upm_A, upA_0, upA_A]
    rw [← Mo_cp2 r (k + 1) N (by omega) (by omega)]
    congr 2
    funext i
    by_cases e : i = 180 + 5 * k
    · subst e; rw [pk_us, if_pos (by omega)]
    · rw [pk_un e]
      by_cases q : 252 ≤ i ∧ i < 1452 ∨ (180 ≤ i ∧ i < 180 + 5 * k ∧ i % 5 = 0)
      · rw [if_pos q, if_pos (by omega)]
      · rw [if_neg q, if_neg (by omega)]
theorem Mo_cp1 : ∀ (r k N : Nat), k + r = 1200 → r < N → Mo_clearsPlan_b2 N (upA mo 0 (fun i => if 252 ≤ i ∧ i < 252 + k then 0 else mo 0 i)) (nI k) = some (upA mo 0 (cpS (mo 0)))
  | 0, k, N + 1, hk, _ => by
    have e : k = 1200 := by omega
    subst e
    show Mo_clearsPlan_b2B (Mo_clearsPlan_b2 N) _ (nI 1200) = _
    unfold Mo_clearsPlan_b2B
    rw [if_pos (by decide), ← Mo_cp2 8 0 fl (by omega) (by rw [fl_v]; omega)]
    congr 2
    funext i
    by_cases q : 252 ≤ i ∧ i < 252 + 1200
    · rw [if_pos q, if_pos (by omega)]
    · rw [if_neg q, if_neg (by omega)]
  | r + 1, k, N + 1, hk, hN => by
    show Mo_clearsPlan_b2B (Mo_clearsPlan_b2 N) _ (nI k) = _
    unfold Mo_clearsPlan_b2B
    rw [if_neg (show ¬ 1200 ≤ nI k from nI_ge (b := 1200) (by omega) (by omega)), n252 _ (by omega), k252 (by omega), stk_r, stk_r, nI_1, upm_A, upA_0, upA_A]
    rw [← Mo_cp1 r (k + 1) N (by omega) (by omega)]
    congr 2
    funext i
    by_cases e : i = 252 + k
    · subst e; rw [pk_us, if_pos (by omega)]
    · rw [pk_un e]
      by_cases q : 252 ≤ i ∧ i < 252 + k
      · rw [if_pos q, if_pos (by omega)]
      · rw [if_neg q, if_neg (by omega)]
theorem Mo_clearsPlan_s : Mo_clearsPlan mo = some (upA mo 0 (cpS (mo 0))) := by
  unfold Mo_clearsPlan
  have e := Mo_cp1 (mo := mo) 1200 0 fl (by omega) (by rw [fl_v]; omega)
  rw [show (fun i => if 252 ≤ i ∧ i < 252 + 0 then 0 else mo 0 i) = mo 0 from funext (fun i => if_neg (by omega)), upA_id] at e
  exact e
def clS (s : Nat → Int32) : Nat → Int32 := cpS (upd (upd (upd s 173 0) 174 0) 175 0)
theorem Mo_clears_s : Mo_clears mo = some (upA mo 0 (clS (mo 0))) := by
  unfold Mo_clears
  rw [n173 (mo := mo), k173, stk_r, n174, k174, stk_r, n175, k175, stk_r, Mo_clearsPlan_s, bn1_r, upm_A, upm_A, upm_A]
  simp only [upA_0, upA_A]
  rfl
theorem Fi_clearPlan_l {vc' os' : Mem} : ∀ (r k N : Nat) (fo : Mem), k + r = 20 → r < N → (∀ f, f < k → fo 5 f = -1 ∧ fo 6 f = 0 ∧ fo 7 f = 0) → ∃ fo1, Fi_clearPlan_b2 N fo vc os (nI k) = some (fo1, upm vc 2 0 0, upm os 4 0 0) ∧ (∀ f, f < 20 → fo1 5 f = -1 ∧ fo1 6 f = 0 ∧ fo1 7 f = 0) ∧ fo1 8 0 = 0 ∧ fo1 9 = fo 9 ∧ fo1 10 = fo 10
  | 0, k, N + 1, fo, hk, _, h => by
    have e : k = 20 := by omega
    subst e
    refine ⟨upm fo 8 0 0, ?_, fun f hf => ?_, by rw [upm_0, pk_us], upm_n _ _ _ (by omega), upm_n _ _ _ (by omega)⟩
    · show Fi_clearPlan_b2B (Fi_clearPlan_b2 N) fo vc os (nI 20) = _
      unfold Fi_clearPlan_b2B Fi_clearMarket Of_dropAll
      rw [if_pos (by decide)]
      rfl
    · rw [upm_n _ _ _ (by omega), upm_n _ _ _ (by omega), upm_n _ _ _ (by omega)]; exact h f hf
  | r + 1, k, N + 1, fo, hk, hN, h => by
    obtain ⟨fo1, o1, o2, o3, o4, o5⟩ := Fi_clearPlan_l (vc' := vc') (os' := os') r (k + 1) N (upm (upm (upm fo 5 k (-1)) 6 k 0) 7 k 0) (by omega) (by omega) (fun f hf => by
      rw [upm_n _ _ _ (show (5 : Nat) ≠ 7 by omega), upm_n _ _ _ (show (5 : Nat) ≠ 6 by omega), upm_0, upm_n _ _ _ (show (6 : Nat) ≠ 7 by omega), upm_0, upm_n _ _ _ (show (6 : Nat) ≠ 5 by omega), upm_0, upm_n _ _ _ (show (7 : Nat) ≠ 6 by omega), upm_n _ _ _ (show (7 : Nat) ≠ 5 by omega)]
      by_cases e : f = k
      · subst e; rw [pk_us, pk_us, pk_us]; exact ⟨rfl, rfl, rfl⟩
      · rw [pk_un e, pk_un e, pk_un e]; exact h f (by omega))
    refine ⟨fo1, ?_, o2, o3, ?_, ?_⟩
    · show Fi_clearPlan_b2B (Fi_clearPlan_b2 N) fo vc os (nI k) = _
      unfold Fi_clearPlan_b2B Fi_clearFlight
      rw [if_neg (show ¬ 20 ≤ nI k from nI_ge (b := 20) (by omega) (by omega)), ckI_nI _ (by omega) (by omega), nI_clamp (by omega)]
      simp only [stk_r, bn1_r, nI_1]
      exact o1
    · rw [o4, upm_n _ _ _ (by omega), upm_n _ _ _ (by omega), upm_n _ _ _ (by omega)]
    · rw [o5, upm_n _ _ _ (by omega), upm_n _ _ _ (by omega), upm_n _ _ _ (by omega)]
theorem Fi_clearPlan_s : ∃ fo1, Fi_clearPlan fo vc os = some (fo1, upm vc 2 0 0, upm os 4 0 0) ∧ (∀ f, f < 20 → fo1 5 f = -1 ∧ fo1 6 f = 0 ∧ fo1 7 f = 0) ∧ fo1 8 0 = 0 ∧ fo1 9 = fo 9 ∧ fo1 10 = fo 10 := Fi_clearPlan_l (vc' := vc) (os' := os) 20 0 fl fo (by omega) (by rw [fl_v]; omega) (fun f hf => by omega)
/-- all anew: with an empty roster -/
theorem RF_clear {fo1 : Mem} (h : RF n v fo ro ra vc os li s) (c1 : ∀ f, f < 20 → fo1 5 f = -1 ∧ fo1 6 f = 0 ∧ fo1 7 f = 0) (c2 : fo1 8 0 = 0) (c3 : fo1 9 = fo 9) {rof : Mem} (hr : rof 4 0 = 0) : RF 0 0 (upm fo1 10 0 0) rof ra (upm vc 2 0 0) (upm os 4 0 0) (upm li 3 0 0) (clS s) := by
  obtain ⟨hF, hr', hb, hv, ho, hl, jt, jf, jg, jp, jd, jv, jr, jo, jl⟩ := id h
  have u : ∀ i, 160 ≤ i → i < 173 → clS s i = s i := fun i h1 h2 => by
    unfold clS cpS
    rw [if_neg (by omega), pk_un (by omega), pk_un (by omega), pk_un (by omega)]
  have z3 : clS s 173 = 0 := by unfold clS cpS; rw [if_neg (by omega), pk_un (by omega), pk_un (by omega), pk_us]
  have z4 : clS s 174 = 0 := by unfold clS cpS; rw [if_neg (by omega), pk_un (by omega), pk_us]
  have z5 : clS s 175 = 0 := by unfold clS cpS; rw [if_neg (by omega), pk_us]
  have zv : ∀ m, m < 1200 → clS s (252 + m) = 0 := fun m hm => by unfold clS cpS; rw [if_pos (by omega)]
  have zo : ∀ i, i < 8 → clS s (180 + 5 * i) = 0 := fun i hi => by unfold clS cpS; rw [if_pos (by omega)]
  have a2 : ag s (clS s) 160 172 := fun i h1 h2 => u i h1 (by omega)
  have mm0 : ∀ i, i < 8 → made (clS s) i = false := fun i hi => decide_eq_false (fun q => by rw [zo i hi] at q; exact absurd q (by decide))
  refine ⟨⟨by omega, hr, z3, ?_, fun f hf => by omega, fun f hf => by omega, fun f _ h2 => ?_⟩, hr'.cg a2, ⟨?_, ?_⟩, ⟨by omega, by rw [upm_0, pk_us]; rfl, fun _ => 0, fun _ => 0, fun i hi => by omega, fun i j _ hj => by omega, fun m hm hz => absurd (zv m hm) hz⟩, ⟨?_, fun i hi hz => ?_⟩, ⟨by rw [upm_0, pk_us, z5], fun L i h1 h2 h3 => ?_⟩, ⟨?_, Or.inl z4⟩, fun f hf => by omega, fun f hf => by omega, fun f hf => by omega, fun f g hf => by omega, ⟨fun m hm => ⟨0, by omega, zv m hm⟩, fun f hf => by omega⟩, jr.cg a2, fun i hi => Or.inl (zo i hi), ⟨0, by omega, z5, fun i hi => by omega⟩⟩
  · rw [upm_n _ _ _ (by omega), c3, u 172 (by omega) (by omega)]; exact hF.ck
  · rw [upm_n _ _ _ (by omega), upm_n _ _ _ (by omega), upm_n _ _ _ (by omega)]; exact c1 f h2
  · rw [upm_0, pk_us, z4]
  · have g0 : ∀ i, gone 0 (clS s) i = false := fun i => decide_eq_false (fun q => absurd q.1 (by omega))
    rw [upm_n _ _ _ (by omega), c2, msk_0 (fun i _ => g0 i)]; rfl
  · rw [upm_0, pk_us, msk_0 mm0]; rfl
  · rw [zo i hi] at hz; exact absurd hz (by decide)
  · rw [z5] at h1
    have := (nI_eq (a := 0) (by omega) (by omega)).mp h1
    omega
  · rw [u 172 (by omega) (by omega)]; exact jt.1
theorem Ro_copy_e {rot : Mem} : ∃ ro', Ro_copyFrom rot ro = some ro' ∧ (∀ i, i < 20 → ro' 0 i = ro 0 i ∧ ro' 1 i = ro 1 i ∧ ro' 2 i = ro 2 i ∧ ro' 3 i = ro 3 i) ∧ ro' 4 0 = ro 4 0 := by
  unfold Ro_copyFrom
  simp only [stk_r]
  refine ⟨_, rfl, fun i hi => ⟨?_, ?_, ?_, ?_⟩, ?_⟩
  all_goals (first | (simp only [upm_x, upA_x, pk_us, reduceIte, Nat.reduceEqDiff, Nat.zero_ne_one, Nat.one_ne_zero]; done) | (simp only [upm_x, upA_x, pk_us, reduceIte, Nat.reduceEqDiff, Nat.zero_ne_one, Nat.one_ne_zero]; exact cp20 hi))
theorem takeRoster_s {rof fo1 : Mem} (c : Fi_clearPlan fo vc os = some (fo1, upm vc 2 0 0, upm os 4 0 0)) (h : RF n v (upm fo1 10 0 0) rof ra (upm vc 2 0 0) (upm os 4 0 0) (upm li 3 0 0) s) : ∃ fo' ro' vc' os' li', Fi_takeRoster fo ro vc os li rof = some (fo', ro', vc', os', li') ∧ RF n v fo' ro' ra vc' os' li' s := by
  obtain ⟨ro', o1, o2, o3⟩ := Ro_copy_e (ro := rof) (rot := ro)
  refine ⟨upm fo1 10 0 0, ro', upm vc 2 0 0, upm os 4 0 0, upm li 3 0 0, ?_, h.cc ⟨fun i _ => ⟨rfl, rfl, rfl⟩, ⟨rfl, rfl, rfl⟩, o2, o3, fun _ _ => rfl, fun _ _ => ⟨rfl, rfl⟩, rfl, fun _ _ => ⟨rfl, rfl, rfl, rfl⟩, rfl, fun _ _ => ⟨rfl, rfl, rfl⟩, rfl⟩⟩
  unfold Fi_takeRoster
  rw [o1, bn1_r, c, bn3_r, stk_r, stk_r]
theorem draws_l {p : Int32} {M : Nat} {fo1 : Mem} (hM : M ≤ 20) (c : Fi_clearPlan fo vc os = some (fo1, upm vc 2 0 0, upm os 4 0 0)) : ∀ (r k N N' a : Nat) (di rof mo : Mem), k + r = M → r < N → r < N' → RF k 0 (upm fo1 10 0 0) rof ra (upm vc 2 0 0) (upm os 4 0 0) (upm li 3 0 0) (mo 0) → di 0 0 = nI a → mo 9 0 = nI a → a < 65536 → ∃ t di' rof' fo' ro' vc' os' li' mo', St_draws_b31 p (nI M) N di rof fo ro vc os li (nI k) = some (t, di', rof', fo', ro', vc', os', li') ∧ Mo_draws_b26 p (nI M) N' mo (nI k) = some (t, mo') ∧ RF M 0 fo' ro' ra vc' os' li' (mo' 0) ∧ KP mo mo'
  | 0, k, N + 1, N' + 1, a, di, rof, mo, hk, _, _, hR, e1, e2, ha => by
    have e : k = M := by omega
    subst e
    obtain ⟨fo', ro', vc', os', li', t1, t2⟩ := takeRoster_s (ro := ro) c hR
    refine ⟨nI a, di, rof, fo', ro', vc', os', li', mo, ?_, ?_, t2, KP.rf⟩
    · show St_draws_b31B p (nI k) (St_draws_b31 p (nI k) N) di rof fo ro vc os li (nI k) = _
      unfold St_draws_b31B
      rw [if_pos (nI_le (Nat.le_refl _) (by omega)), t1, bn5_r, e1]
    · show Mo_draws_b26B p (nI k) (Mo_draws_b26 p (nI k) N') mo (nI k) = _
      unfold Mo_draws_b26B
      rw [if_pos (nI_le (Nat.le_refl _) (by omega)), e2]
  | r + 1, k, N + 1, N' + 1, a, di, rof, mo, hk, hN, hN', hR, e1, e2, ha => by
    have k20 : k < 20 := by omega
    have b1 := nxD_lt a
    have b2 := nxD_lt (nxD a)
    have b3 := nxD_lt (nxD (nxD a))
    have b4 := nxD_lt (nxD (nxD (nxD a)))
    have l1 := Nat.mod_lt (nxD a / 4) (show 0 < 5 by omega)
    have l2 := Nat.mod_lt (nxD (nxD a) / 4) (show 0 < 720 by omega)
    have l3 := Nat.mod_lt (nxD (nxD (nxD a)) / 4) (show 0 < 301 by omega)
    have l4 := Nat.mod_lt (nxD (nxD (nxD (nxD a))) / 4) (show 0 < 9 by omega)
    obtain ⟨rof', q0, q4, q5, q6, q7, q8⟩ := Ro_add_s (x := nI (nxD a / 4 % 5)) (y := nI (nxD (nxD a) / 4 % 720)) (z := nI (nxD (nxD (nxD a)) / 4 % 301)) (w := nI (nxD (nxD (nxD (nxD a))) / 4 % 9 + 1)) k20 hR.1.rn
    have rA := RF_add hR k20 l1 l2 (show _ ≤ 300 by omega) (show 1 ≤ nxD (nxD (nxD (nxD a))) / 4 % 9 + 1 ∧ nxD (nxD (nxD (nxD a))) / 4 % 9 + 1 ≤ 9 by omega) q4 q5 q6 q7 q8
    have c9 : ∀ (m : Mem) (w : Int32), upm m 9 0 w 9 0 = w := fun m w => by rw [upm_0, pk_us]
    have c0 : ∀ (m : Mem) (w : Int32), upm m 0 0 w 0 0 = w := fun m w => by rw [upm_0, pk_us]
    have d0 : ∀ (m : Mem) (w : Int32), upm m 9 0 w 0 = m 0 := fun m w => upm_n _ _ _ (by omega)
    have st1 : ∀ K, St_draws_b31B p (nI M) K di rof fo ro vc os li (nI k) = K (upm (upm (upm (upm di 0 0 (nI (nxD a))) 0 0 (nI (nxD (nxD a)))) 0 0 (nI (nxD (nxD (nxD a))))) 0 0 (nI (nxD (nxD (nxD (nxD a)))))) rof' fo ro vc os li (nI (k + 1)) := fun K => by
      unfold St_draws_b31B
      rw [if_neg (nI_ge (by omega) (by omega)), show (5 : Int32) = nI 5 from rfl, Di_roll_s e1 ha (by omega) (by omega), bn2_r, show (720 : Int32) = nI 720 from rfl, Di_roll_s (c0 _ _) b1 (by omega) (by omega), bn2_r, show (301 : Int32) = nI 301 from rfl, Di_roll_s (c0 _ _) b2 (by omega) (by omega), bn2_r, show (9 : Int32) = nI 9 from rfl, Di_roll_s (c0 _ _) b3 (by omega) (by omega), bn2_r, stk_r, nI_1, q0, bn2_r, stk_r, nI_1]
    have st2 : ∀ K, Mo_draws_b26B p (nI M) K mo (nI k) = K (upA (upm (upm (upm (upm mo 9 0 (nI (nxD a))) 9 0 (nI (nxD (nxD a)))) 9 0 (nI (nxD (nxD (nxD a))))) 9 0 (nI (nxD (nxD (nxD (nxD a)))))) 0 (adS (mo 0) k (nI (nxD a / 4 % 5)) (nI (nxD (nxD a) / 4 % 720)) (nI (nxD (nxD (nxD a)) / 4 % 301)) (nI (nxD (nxD (nxD (nxD a))) / 4 % 9 + 1)))) (nI (k + 1)) := fun K => by
      unfold Mo_draws_b26B
      rw [if_neg (nI_ge (by omega) (by omega)), show (5 : Int32) = nI 5 from rfl, Mo_draw_s e2 ha (by omega) (by omega), bn2_r, show (720 : Int32) = nI 720 from rfl, Mo_draw_s (c9 _ _) b1 (by omega) (by omega), bn2_r, show (301 : Int32) = nI 301 from rfl, Mo_draw_s (c9 _ _) b2 (by omega) (by omega), bn2_r, show (9 : Int32) = nI 9 from rfl, Mo_draw_s (c9 _ _) b3 (by omega) (by omega), bn2_r, nI_1, Mo_adds_s k20 (by rw [d0, d0, d0, d0]; exact hR.1.sn), bn1_r, stk_r, nI_1, d0, d0, d0, d0]
    show ∃ t di' rof' fo' ro' vc' os' li' mo', St_draws_b31B p (nI M) (St_draws_b31 p (nI M) N) di rof fo ro vc os li (nI k) = some (t, di', rof', fo', ro', vc', os', li') ∧ Mo_draws_b26B p (nI M) (Mo_draws_b26 p (nI M) N') mo (nI k) = some (t, mo') ∧ RF M 0 fo' ro' ra vc' os' li' (mo' 0) ∧ KP mo mo'
    rw [st1, st2]
    obtain ⟨t, di', rof2, fo', ro', vc', os', li', mo', o1, o2, o3, o4⟩ := draws_l (p := p) hM c r (k + 1) N N' (nxD (nxD (nxD (nxD a)))) _ rof' (upA (upm (upm (upm (upm mo 9 0 (nI (nxD a))) 9 0 (nI (nxD (nxD a)))) 9 0 (nI (nxD (nxD (nxD a))))) 9 0 (nI (nxD (nxD (nxD (nxD a)))))) 0 (adS (mo 0) k (nI (nxD a / 4 % 5)) (nI (nxD (nxD a) / 4 % 720)) (nI (nxD (nxD (nxD a)) / 4 % 301)) (nI (nxD (nxD (nxD (nxD a))) / 4 % 9 + 1)))) (by omega) (by omega) (by omega) (by rw [upA_0]; exact rA) (c0 _ _) (by rw [upA_n _ _ (show (9 : Nat) ≠ 0 by omega)]; exact c9 _ _) b4
    exact ⟨t, di', rof2, fo', ro', vc', os', li', mo', o1, o2, o3, (((((KP.um (by omega)).tr (KP.um (by omega))).tr (KP.um (by omega))).tr (KP.um (by omega))).tr (KP.up (by omega))).tr o4⟩
theorem q_draws {rof : Mem} (h : RF n v fo ro ra vc os li (mo 0)) : ∃ r di' rof' fo' ro' vc' os' li' mo' n' v', St_draws di rof fo ro vc os li x y = some (r, di', rof', fo', ro', vc', os', li') ∧ Mo_draws mo x y = some (r, mo') ∧ RF n' v' fo' ro' ra vc' os' li' (mo' 0) ∧ KP mo mo' := by
  have same : ∃ r di' rof' fo' ro' vc' os' li' mo' n' v', some ((-1 : Int32), di, rof, fo, ro, vc, os, li) = some (r, di', rof', fo', ro', vc', os', li') ∧ some ((-1 : Int32), mo) = some (r, mo') ∧ RF n' v' fo' ro' ra vc' os' li' (mo' 0) ∧ KP mo mo' := ⟨_, _, _, _, _, _, _, _, mo, n, v, rfl, rfl, h, KP.rf⟩
  unfold St_draws Mo_draws
  rw [Mo_in_s, bn1_r, bI_z]
  by_cases hy : ¬ y < 1 ∧ ¬ 20 < y
  · rw [if_pos hy, if_neg hy.1, if_pos (Int32.not_lt.mp hy.2)]
    obtain ⟨M, hM, rfl⟩ := nI_of (x := y) (fun q => hy.1 (Int32.lt_trans q (by decide)))
    have hM20 : M ≤ 20 := Nat.le_of_not_lt (fun q => hy.2 (nI_lt (a := 20) q hM))
    obtain ⟨a, ha, ea⟩ := pk_andE x (m := 65535) 16 (by decide)
    obtain ⟨fo1, c0, c1, c2, c3, c4⟩ := Fi_clearPlan_s (fo := fo) (vc := vc) (os := os)
    unfold Di_start
    rw [stk_r, bn1_r, stk_r, stk_r, ea, Mo_clears_s, bn1_r, upm_n _ _ _ (show (0 : Nat) ≠ 9 by omega)]
    obtain ⟨t, di', rof', fo', ro', vc', os', li', mo', o1, o2, o3, o4⟩ := draws_l (p := x) (ro := ro) hM20 c0 M 0 fl fl a (upm di 0 0 (nI a)) (upm rof 4 0 0) (upA (upm mo 9 0 (nI a)) 0 (clS (mo 0))) (by omega) (by rw [fl_v]; omega) (by rw [fl_v]; omega) (by rw [upA_0]; exact RF_clear h c1 c2 c3 (by rw [upm_0, pk_us])) (by rw [upm_0, pk_us]) (by rw [upA_n _ _ (show (9 : Nat) ≠ 0 by omega), upm_0, pk_us]) ha
    exact ⟨t, di', rof', fo', ro', vc', os', li', mo', M, 0, o1, o2, o3, ((KP.um (by omega)).tr (KP.up (by omega))).tr o4⟩
  · rw [if_neg hy]
    by_cases h1 : y < 1
    · rw [if_pos h1]; exact same
    · rw [if_neg h1, if_neg (fun q => hy ⟨h1, Int32.not_lt.mpr q⟩)]; exact same
end DR
