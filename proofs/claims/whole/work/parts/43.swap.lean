/-! slots given and exchanged -/
section SW
variable {n v : Nat} {fo ro ra vc os li mo : Mem} {x y : Int32} {s : Nat → Int32}
theorem sm_one {g h : Nat → Int32} {f : Nat} : ∀ {m : Nat}, (∀ j, j < m → j ≠ f → g j = h j) → f < m → sm g m = sm h m + (g f - h f)
  | 0, _, hf => by omega
  | m + 1, e, hf => by
    show sm g m + g m = sm h m + h m + (g f - h f)
    by_cases ef : f = m
    · subst ef
      rw [sm_congr (g := g) (h := h) (fun j hj => e j (by omega) (by omega))]
      grind
    · rw [sm_one (g := g) (h := h) (f := f) (m := m) (fun j hj => e j (by omega)) (by omega), e m (by omega) (fun z => ef z.symm)]
      grind
theorem sm_two {g h : Nat → Int32} {f k m : Nat} (hfk : f ≠ k) (hf : f < m) (hk : k < m) (e : ∀ j, j < m → j ≠ f → j ≠ k → g j = h j) : sm g m = sm h m + (g f - h f) + (g k - h k) := by
  have h1 := sm_one (g := upd h f (g f)) (h := h) (f := f) (m := m) (fun j _ hj => pk_un hj) hf
  have h2 := sm_one (g := g) (h := upd h f (g f)) (f := k) (m := m) (fun j hj hjk => by
    by_cases ef : j = f
    · subst ef; rw [pk_us]
    · rw [pk_un ef]; exact e j hj ef hjk) hk
  rw [pk_us] at h1
  rw [pk_un (fun z => hfk z.symm)] at h2
  rw [h2, h1]
/-- the class's memory with a slot on the ground -/
def sgM (fo : Mem) (f : Nat) (m e : Int32) : Mem := upm (upm (upm fo 5 f m) 6 f (m - e)) 7 f 0
theorem sg_5 {f : Nat} {m e : Int32} : sgM fo f m e 5 = upd (fo 5) f m := by
  unfold sgM
  rw [upm_n _ _ _ (by omega), upm_n _ _ _ (by omega), upm_0]
theorem sg_6 {f : Nat} {m e : Int32} : sgM fo f m e 6 = upd (fo 6) f (m - e) := by
  unfold sgM
  rw [upm_n _ _ _ (by omega), upm_0, upm_n _ _ _ (by omega)]
theorem sg_7 {f : Nat} {m e : Int32} : sgM fo f m e 7 = upd (fo 7) f 0 := by
  unfold sgM
  rw [upm_0, upm_n _ _ _ (by omega), upm_n _ _ _ (by omega)]
theorem sg_n {f k : Nat} {m e : Int32} (h : k ≠ 5 ∧ k ≠ 6 ∧ k ≠ 7) : sgM fo f m e k = fo k := by
  unfold sgM
  rw [upm_n _ _ _ h.2.2, upm_n _ _ _ h.2.1, upm_n _ _ _ h.1]
theorem Fi_seatOnGround_s {f : Nat} (h : Rf n fo ro s) (hf : f < n) (hx : ¬ x = -1) : Fi_seatOnGround fo ro (nI f) x = some (sgM fo f x (s (8 * f + 1))) := by
  have hn := h.n20
  unfold Fi_seatOnGround
  rw [Fi_isFlight_s h (by omega), bn1_r, bI_z, if_pos hf, if_neg hx, ckI_nI _ (by omega) (by omega), nI_clamp (by omega), h.et hf]
  rfl
theorem Rf_give {f : Nat} (h : Rf n fo ro s) (hf : f < n) (h7 : s (8 * f + 7) = 0) (hx : 0 ≤ x) : Rf n (sgM fo f x (s (8 * f + 1))) ro (gvS s f x) := by
  obtain ⟨h1, h2, h3, h4, h5, h6, h9⟩ := h
  refine ⟨h1, h2, by rw [gv_un (by omega)]; exact h3, by rw [sg_n (by omega), gv_un (by omega)]; exact h4, fun g hg => ?_, fun g hg => ?_, fun g hg1 hg2 => ?_⟩
  · rw [gv_un (by omega), gv_un (by omega), gv_un (by omega), gv_un (by omega)]; exact h5 g hg
  · rw [sg_5, sg_6, sg_7]
    by_cases e : g = f
    · subst e
      refine Or.inl ⟨⟨by rw [gv_4]; exact hx, by rw [gv_un (by omega)]; exact h7⟩, ?_, ?_, ?_⟩
      · rw [pk_us, gv_4]
      · rw [pk_us, gv_5]
      · rw [pk_us, gv_6]
    · have ep : Pd (gvS s f x) g ↔ Pd s g := by
        unfold Pd
        rw [gv_un (by omega), gv_un (by omega)]
      rw [ep, pk_un e, pk_un e, pk_un e, gv_un (by omega), gv_un (by omega), gv_un (by omega)]
      exact h6 g hg
  · have e : g ≠ f := by omega
    rw [sg_5, sg_6, sg_7, pk_un e, pk_un e, pk_un e]
    exact h9 g hg1 hg2
/-- two flights' slots exchanged -/
def swS (s : Nat → Int32) (f g : Nat) : Nat → Int32 := gvS (gvS s f (s (8 * g + 4))) g (s (8 * f + 4))
theorem Mo_swaps_s {f g : Nat} (hf : f < 20) (hg : g < 20) : Mo_swaps mo (nI f) (nI g) = some (upA mo 0 (swS (mo 0) f g)) := by
  unfold Mo_swaps
  rw [Mo_of_4 hf, Mo_of_4 hg, bn1_r, bn1_r, Mo_gives_s hf, bn1_r, Mo_gives_s hg, bn1_r, upA_0, upA_A]
  rfl
section SWF
variable {f g : Nat}
theorem sw_un {i : Nat} (h : i ≠ 8 * f + 4 ∧ i ≠ 8 * f + 5 ∧ i ≠ 8 * f + 6 ∧ i ≠ 8 * g + 4 ∧ i ≠ 8 * g + 5 ∧ i ≠ 8 * g + 6) : swS s f g i = s i := by
  unfold swS
  rw [gv_un (by omega), gv_un (by omega)]
theorem sw_f4 (h : f ≠ g) : swS s f g (8 * f + 4) = s (8 * g + 4) := by
  unfold swS
  rw [gv_un (by omega), gv_4]
theorem sw_f5 (h : f ≠ g) : swS s f g (8 * f + 5) = s (8 * g + 4) - s (8 * f + 1) := by
  unfold swS
  rw [gv_un (by omega), gv_5]
theorem sw_f6 (h : f ≠ g) : swS s f g (8 * f + 6) = 0 := by
  unfold swS
  rw [gv_un (by omega), gv_6]
theorem sw_g4 : swS s f g (8 * g + 4) = s (8 * f + 4) := by
  unfold swS
  rw [gv_4]
theorem sw_g5 : swS s f g (8 * g + 5) = s (8 * f + 4) - s (8 * g + 1) := by
  unfold swS
  rw [gv_5, gv_un (by omega)]
theorem sw_g6 : swS s f g (8 * g + 6) = 0 := by
  unfold swS
  rw [gv_6]
end SWF
theorem mx_l {a b m : Nat} {z : Int32} (ha : a < 2 ^ 31) (hm : m < 2 ^ 31) (h : mx (nI a) z ≤ nI m) : a ≤ m := by
  unfold mx at h
  by_cases hq : nI a < z
  · rw [if_pos hq] at h
    exact (nI_leI ha hm).mp (Int32.le_trans (Int32.le_of_lt hq) h)
  · rw [if_neg hq] at h
    exact (nI_leI ha hm).mp h
theorem RF_swap {f g : Nat} (h : RF n v fo ro ra vc os li s) (hfg : f ≠ g) (hf : f < n) (hg : g < n) (pf : Pd s f) (pg : Pd s g) (ef : earS s f ≤ s (8 * g + 4)) (eg : earS s g ≤ s (8 * f + 4)) : ∃ fo', Fi_swap fo ro (nI f) (nI g) = some fo' ∧ RF n v fo' ro ra vc os li (swS s f g) := by
  have hn := h.1.n20
  obtain ⟨hF, hr, hb, hv, ho, hl, jt, jf, jg, jp, jd, jv, jr, jo, jl⟩ := id h
  obtain ⟨bf, cf, t, mf, hhf, kf, f1, f2, f3, f4, f5, f6, f7, f8, f9, f10, f11, f12⟩ := jp f hf pf
  obtain ⟨bg, cg, t', mg, hhg, kg, g1, g2, g3, g4, g5, g6, g7, g8, g9, g10, g11, g12⟩ := jp g hg pg
  have hbf : bf ≤ mg := mx_l (b := 0) (z := s 172 + s (8 * f + 2)) (by omega) (by omega) (by rw [← f1, ← g4]; exact ef)
  have hbg : bg ≤ mf := mx_l (b := 0) (z := s 172 + s (8 * g + 2)) (by omega) (by omega) (by rw [← g1, ← f4]; exact eg)
  refine ⟨sgM (sgM fo f (s (8 * g + 4)) (s (8 * f + 1))) g (s (8 * f + 4)) (s (8 * g + 1)), ?_, ?_⟩
  · unfold Fi_swap
    have r1 := Rf_give (x := s (8 * g + 4)) hF hf pf.2 pg.1
    have e1 : gvS s f (s (8 * g + 4)) (8 * g + 1) = s (8 * g + 1) := gv_un (by omega)
    have o2 := Fi_seatOnGround_s (x := s (8 * f + 4)) r1 hg (fun z => absurd pf.1 (by rw [z]; decide))
    rw [e1] at o2
    rw [Fi_isSeated_s hF (by omega), Fi_isSeated_s hF (by omega), bn1_r, bn1_r, bI_z, bI_z, if_pos ⟨hf, pf⟩, if_pos ⟨hg, pg⟩, ckI_nI _ (by omega) (by omega), nI_clamp (by omega), stk_r, ckI_nI _ (by omega) (by omega), nI_clamp (by omega), (hF.pd hf pf).1, (hF.pd hg pg).1, Fi_seatOnGround_s hF hf (fun z => absurd pg.1 (by rw [z]; decide)), bn1_r, o2, bn1_r]
  · have r1 := Rf_give (x := s (8 * g + 4)) hF hf pf.2 pg.1
    have e1 : gvS s f (s (8 * g + 4)) (8 * g + 1) = s (8 * g + 1) := gv_un (by omega)
    have r2 := Rf_give (x := s (8 * f + 4)) r1 hg (by rw [gv_un (by omega)]; exact pg.2) pf.1
    rw [e1] at r2
    have u : ∀ i, (i ≠ 8 * f + 4 ∧ i ≠ 8 * f + 5 ∧ i ≠ 8 * f + 6 ∧ i ≠ 8 * g + 4 ∧ i ≠ 8 * g + 5 ∧ i ≠ 8 * g + 6) → swS s f g i = s i := fun i => sw_un
    have w1 := sw_f4 (s := s) hfg
    have w2 := sw_f5 (s := s) hfg
    have w3 := sw_f6 (s := s) hfg
    have w4 := sw_g4 (s := s) (f := f) (g := g)
    have w5 := sw_g5 (s := s) (f := f) (g := g)
    have w6 := sw_g6 (s := s) (f := f) (g := g)
    have r3 : Rf n (sgM (sgM fo f (s (8 * g + 4)) (s (8 * f + 1))) g (s (8 * f + 4)) (s (8 * g + 1))) ro (swS s f g) := r2
    have pd' : ∀ k, k < n → (Pd (swS s f g) k ↔ Pd s k) := fun k hk => by
      unfold Pd
      rw [u (8 * k + 7) (by omega)]
      by_cases e : k = f
      · subst e; rw [w1]; exact ⟨fun _ => pf, fun _ => ⟨pg.1, pf.2⟩⟩
      · by_cases e' : k = g
        · subst e'; rw [w4]; exact ⟨fun _ => pg, fun _ => ⟨pf.1, pg.2⟩⟩
        · rw [u (8 * k + 4) (by omega)]
    generalize swS s f g = s' at *
    have a2 : ag s s' 160 172 := fun i h1 h2 => u i (by omega)
    have a3 : ag s s' 176 216 := fun i h1 h2 => u i (by omega)
    have a4 : ag s s' 252 1452 := fun i h1 h2 => u i (by omega)
    have a5 : ag s s' 216 252 := fun i h1 h2 => u i (by omega)
    have go : ∀ i, gone n s' i = gone n s i := fun i => by
      unfold gone
      rw [u (8 * i + 7) (by omega)]
    have sl : ∀ k, k < n → Pd s k → ∃ k', k' < n ∧ Pd s k' ∧ s' (8 * k + 4) = s (8 * k' + 4) ∧ ((k = f ∧ k' = g) ∨ (k = g ∧ k' = f) ∨ (k ≠ f ∧ k ≠ g ∧ k' = k)) := fun k hk hpk => by
      by_cases e : k = f
      · subst e; exact ⟨g, hg, pg, w1, Or.inl ⟨rfl, rfl⟩⟩
      · by_cases e' : k = g
        · subst e'; exact ⟨f, hf, pf, w4, Or.inr (Or.inl ⟨rfl, rfl⟩)⟩
        · exact ⟨k, hk, hpk, u _ (by omega), Or.inr (Or.inr ⟨e, e', rfl⟩)⟩
    refine ⟨r3, hr.cg a2, ⟨?_, ?_⟩, ⟨?_, ?_⟩, ho.cg a3, hl.cg (u _ (by omega)) a5, jt.cg (u _ (by omega)) (u _ (by omega)), ?_, ?_, ?_, ?_, ⟨fun m hm => by rw [a4 (252 + m) (by omega) (by omega)]; exact jv.1 m hm, ?_⟩, jr.cg a2, ?_, jl.cg (u _ (by omega)) a5⟩
    · rw [sg_n (by omega), sg_n (by omega), u _ (by omega)]; exact hb.1
    · rw [sg_n (by omega), sg_n (by omega), msk_congr (fun i _ => go i)]; exact hb.2
    · rw [cn_congr (fun i _ => go i)]; exact hv.1
    · obtain ⟨h2, mm, kk, h3, h4, h5⟩ := hv.2
      refine ⟨h2, mm, kk, fun i hi => ?_, h4, fun m hm hz => ?_⟩
      · obtain ⟨q1, q2, q3, q4, q5⟩ := h3 i hi
        exact ⟨q1, q2, q3, q4, by rw [a4 (252 + mm i) (by omega) (by omega)]; exact q5⟩
      · rw [a4 (252 + m) (by omega) (by omega)] at hz
        exact h5 m hm hz
    · intro k hk
      rw [u (8 * k) (by omega), u (8 * k + 1) (by omega), u (8 * k + 2) (by omega), u (8 * k + 3) (by omega)]
      exact jf k hk
    · intro k hk
      rw [u (8 * k + 7) (by omega)]
      by_cases e : k = f
      · subst e; rw [w1]; exact Or.inr ⟨Or.inl pf.2, mg, g7, g4⟩
      · by_cases e' : k = g
        · subst e'; rw [w4]; exact Or.inr ⟨Or.inl pg.2, mf, f7, f4⟩
        · rw [u (8 * k + 4) (by omega)]; exact jg k hk
    · intro k hk hpk
      rw [pd' k hk] at hpk
      rw [u (8 * k + 1) (by omega), u (8 * k + 2) (by omega), u 172 (by omega)]
      by_cases e : k = f
      · subst e
        rw [w1, w2, w3]
        exact ⟨bf, cf, t, mg, mg - bf, 0, f1, f2, f3, g4, by rw [f1, g4, pk_sub hbf], rfl, g7, by omega, Or.inl rfl, f10, f11, f12⟩
      · by_cases e' : k = g
        · subst e'
          rw [w4, w5, w6]
          exact ⟨bg, cg, t', mf, mf - bg, 0, g1, g2, g3, f4, by rw [g1, f4, pk_sub hbg], rfl, f7, by omega, Or.inl rfl, g10, g11, g12⟩
        · rw [u (8 * k + 4) (by omega), u (8 * k + 5) (by omega), u (8 * k + 6) (by omega)]
          exact jp k hk hpk
    · intro k1 k2 hk1 hk2 p1 p2 he
      rw [pd' k1 hk1] at p1
      rw [pd' k2 hk2] at p2
      obtain ⟨q1, a1, b1, c1, d1⟩ := sl k1 hk1 p1
      obtain ⟨q2, a2', b2, c2, d2⟩ := sl k2 hk2 p2
      have := jd q1 q2 a1 a2' b1 b2 (by rw [← c1, ← c2]; exact he)
      omega
    · intro k hk hpk m hm hz
      rw [pd' k hk] at hpk
      obtain ⟨q1, a1, b1, c1, d1⟩ := sl k hk hpk
      rw [a4 (252 + m) (by omega) (by omega)]
      exact jv.2 q1 a1 b1 m hm (by rw [← c1]; exact hz)
    · intro i hi
      rcases jo i hi with q | ⟨q, a', b', h1, h2, h3, h4, h5, h6⟩
      · exact Or.inl (by rw [a3 (180 + 5 * i) (by omega) (by omega)]; exact q)
      · refine Or.inr ⟨by rw [a3 (180 + 5 * i) (by omega) (by omega)]; exact q, a', b', h1, h2, h3, ?_, ?_, ?_⟩
        · rw [a3 (176 + 5 * i) (by omega) (by omega)]; exact h4
        · rw [a3 (178 + 5 * i) (by omega) (by omega)]; exact h5
        · rw [u (8 * a') (by omega), u (8 * b') (by omega)]; exact h6
/-- what an exchange costs less -/
theorem co_other {f g k : Nat} (hk : k ≠ f ∧ k ≠ g) : coS (swS s f g) k = coS s k := by
  have e : Pd (swS s f g) k ↔ Pd s k := by
    unfold Pd
    rw [sw_un (by omega), sw_un (by omega)]
  unfold coS
  by_cases hp : Pd s k
  · rw [if_pos hp, if_pos (e.mpr hp), sw_un (by omega), sw_un (by omega), sw_un (by omega)]
  · rw [if_neg hp, if_neg (fun z => hp (e.mp z))]
theorem sw_cost {f g : Nat} (hfg : f ≠ g) (hf : f < n) (hg : g < n) : sm (coS s) n - sm (coS (swS s f g)) n = coS s f + coS s g - coS (swS s f g) f - coS (swS s f g) g := by
  rw [sm_two (g := coS s) (h := coS (swS s f g)) hfg hf hg (fun j _ h1 h2 => (co_other ⟨h1, h2⟩).symm)]
  grind
theorem q_exchange (h : RF n v fo ro ra vc os li (mo 0)) : ∃ r fo' s', St_exchange fo ro x y = some (r, fo') ∧ Mo_exchange mo x y = some (r, upA mo 0 s') ∧ RF n v fo' ro ra vc os li s' := by
  have hn := h.f.n20
  have hs := h.f.sn
  have same : ∀ (q : Int32), ∃ r fo' s', some (q, fo) = some (r, fo') ∧ some (q, mo) = some (r, upA mo 0 s') ∧ RF n v fo' ro ra vc os li s' := fun q => ⟨q, fo, mo 0, rfl, by rw [upA_id], h⟩
  have gf : ∀ z : Int32, Mo_isGroundFlight mo z = some (bI (in0 z n ∧ Gnd (mo 0) z.toNatClampNeg)) := fun z => by
    unfold Mo_isGroundFlight
    rw [Mo_isFlight_s hn hs, bn1_r, bI_z]
    by_cases hz : in0 z n
    · rw [if_pos hz]
      obtain ⟨f, hf, rfl⟩ := in0_of hz (by omega)
      rw [Mo_isGround_s (by omega), bn1_r, bI_z, nI_clamp (by omega)]
      by_cases hg : Gnd (mo 0) f
      · rw [if_pos hg, bI_t ⟨hz, hg⟩]
      · rw [if_neg hg, bI_f (fun q => hg q.2)]
    · rw [if_neg hz, bI_f (fun q => hz q.1)]
  have gc : ∀ z : Int32, Fi_isGrounded fo ro z = some (bI (in0 z n ∧ Gnd (mo 0) z.toNatClampNeg)) := fun z => by
    by_cases h20 : in0 z 20
    · obtain ⟨f, hf, rfl⟩ := in0_of h20 (by omega)
      rw [Fi_isGrounded_s h.f hf, nI_clamp (by omega)]
      refine congrArg some (bI_iff ⟨fun q => ⟨in0_nI q.1 (by omega), q.2⟩, fun q => ⟨?_, q.2⟩⟩)
      obtain ⟨f', hf', e⟩ := in0_of q.1 (by omega)
      have := (nI_eq (by omega) (by omega)).mp e
      omega
    · unfold Fi_isGrounded Fi_isSeated
      rw [bI_f (fun q => h20 ⟨q.1.1, Int32.lt_of_lt_of_le q.1.2 (nI_le hn (by omega))⟩)]
      by_cases h0 : z < 0
      · rw [if_pos h0]; rfl
      · rw [if_neg h0, if_pos (show 20 ≤ z from Int32.not_lt.mp (fun q => h20 ⟨h0, q⟩))]; rfl
  unfold St_exchange Mo_exchange Fi_canSwap
  rw [gf, gf, gc, gc]
  simp only [bn1_r, bI_z]
  by_cases hx : in0 x n ∧ Gnd (mo 0) x.toNatClampNeg
  · rw [if_pos hx, if_pos hx]
    by_cases hy : in0 y n ∧ Gnd (mo 0) y.toNatClampNeg
    · rw [if_pos hy, if_pos hy]
      by_cases hxy : x = y
      · rw [if_pos hxy, if_pos hxy]; exact same _
      · rw [if_neg hxy, if_neg hxy]
        obtain ⟨f, hf, rfl⟩ := in0_of hx.1 (by omega)
        obtain ⟨g, hg, rfl⟩ := in0_of hy.1 (by omega)
        have hfg : f ≠ g := fun e => hxy (by rw [e])
        have gx := hx.2
        have gy := hy.2
        rw [nI_clamp (by omega)] at gx gy
        rw [Ro_sameLine_s h.f (by omega) (by omega), Mo_of_0 (by omega), Mo_of_0 (by omega), Mo_of_4 (by omega), Mo_of_4 (by omega), Mo_earliest_s (by omega), Mo_earliest_s (by omega), Fi_earliest_s h.f hf, Fi_earliest_s h.f hg, ckI_nI _ (by omega) (by omega), ckI_nI _ (by omega) (by omega), nI_clamp (by omega), nI_clamp (by omega), (h.f.pd hf gx.1).1, (h.f.pd hg gy.1).1]
        simp only [bn1_r, bI_z]
        by_cases hl : mo 0 (8 * f) = mo 0 (8 * g)
        · rw [if_pos ⟨hf, hg, hl⟩, if_pos hl]
          by_cases e1 : mo 0 (8 * f + 4) < earS (mo 0) g
          · rw [if_pos e1, if_pos e1]; exact same _
          · rw [if_neg e1, if_neg e1]
            by_cases e2 : mo 0 (8 * g + 4) < earS (mo 0) f
            · rw [if_pos e2, if_neg (Int32.not_le.mpr e2)]; exact same _
            · rw [if_neg e2, if_pos (Int32.not_lt.mp e2)]
              obtain ⟨fo', o1, o2⟩ := RF_swap h hfg hf hg gx.1 gy.1 (Int32.not_lt.mp e2) (Int32.not_lt.mp e1)
              rw [bn1_r, if_neg (show ¬ (1 : Int32) = 0 by decide), Fi_costOf_s h.f hf, Fi_costOf_s h.f hg, o1, Mo_allCost_s hn hs, Mo_swaps_s (by omega) (by omega)]
              simp only [bn1_r, stk_r]
              rw [Fi_costOf_s o2.1 hf, Fi_costOf_s o2.1 hg, Mo_allCost_s (mo := upA mo 0 (swS (mo 0) f g)) hn (by rw [upA_0]; exact o2.1.sn), upA_0]
              simp only [bn1_r]
              rw [sw_cost hfg hf hg]
              exact ⟨_, _, _, rfl, rfl, o2⟩
        · rw [if_neg (fun q => hl q.2.2), if_neg hl]; exact same _
    · rw [if_neg hy, if_neg hy]
      by_cases hxy : x = y
      · rw [if_pos hxy]; exact same _
      · rw [if_neg hxy]; exact same _
  · rw [if_neg hx, if_neg hx]
    by_cases hxy : x = y
    · rw [if_pos hxy]; exact same _
    · rw [if_neg hxy]; exact same _
end SW
