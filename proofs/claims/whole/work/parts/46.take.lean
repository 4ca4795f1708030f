/-! a flight into a vacant slot -/
section TK
variable {n v : Nat} {fo ro ra vc os li mo : Mem} {x y : Int32} {s s' : Nat → Int32} {mm kk : Nat → Nat}
/-- minute a, that was vacant, to flight f; its own, o, is vacant then, kept as a was -/
def tkS (s : Nat → Int32) (f a o : Nat) : Nat → Int32 := gvS (upd (upd s (252 + a) 0) (252 + o) (s (252 + a))) f (nI a)
theorem RF_take {f i o : Nat} (h : RF n v fo ro ra vc os li s) (hL : RvL v vc s mm kk) (hf : f < n) (hp : Pd s f) (hi : i < v) (he : earS s f ≤ nI (mm i)) (ho' : s (8 * f + 4) = nI o) (hoo : o < 1200) : ∃ fo' vc' , Fi_takeVacancy fo ro vc (nI f) (nI i) = some (nI o, fo', vc') ∧ RF n v fo' ro ra vc' os li (tkS s f (mm i) o) ∧ o ≠ mm i := by
  have hn := h.1.n20
  obtain ⟨hF, hr, hb, hv, ho, hl, jt, jf, jg, jp, jd, jv, jr, jo, jl⟩ := id h
  obtain ⟨b, c, t, m, hh, k, f1, f2, f3, f4, f5, f6, f7, f8, f9, f10, f11, f12⟩ := jp f hf hp
  obtain ⟨i1, i2, i3, i4, i5⟩ := hL.2.1 i hi
  have hv20 := hv.v20 hn
  have hba : b ≤ mm i := mx_l (b := 0) (z := s 172 + s (8 * f + 2)) (by omega) (by omega) (by rw [← f1]; exact he)
  have soo := jv.2 f hf hp o hoo ho'
  have hne : o ≠ mm i := fun e => kk_ne i4 (by rw [← i5, ← e]; exact soo)
  obtain ⟨vc1, p1, p2, p3⟩ := Va_removeAt_s hv20 hi hL.1 (fun j hj => ⟨(hL.2.1 j hj).1, (hL.2.1 j hj).2.1⟩)
  have hL1 := RvL_del (s' := upd s (252 + mm i) 0) hL hi pk_us (fun q _ hq => pk_un (by omega)) p2 p3
  obtain ⟨p, vc', o1, o2, o3, o4, o5, o6⟩ := Va_add_s (m := o) (c := kk i) hoo (show v - 1 < 20 by omega) hL1.1 (fun j hj => ⟨(hL1.2.1 j hj).1, (hL1.2.1 j hj).2.1, (hL1.2.1 j hj).2.2.1⟩)
  have hL2 := RvL_ins (s' := upd (upd s (252 + mm i) 0) (252 + o) (s (252 + mm i))) hL1 hoo i4 (by rw [pk_un (by omega)]; exact soo) (by rw [pk_us, i5]) (fun q _ hq => pk_un (by omega)) o2 o3 o4 o5 o6
  rw [show v - 1 + 1 = v by omega] at hL2
  refine ⟨sgM fo f (nI (mm i)) (s (8 * f + 1)), vc', ?_, ?_, hne⟩
  · unfold Fi_takeVacancy
    rw [Va_minuteOf_s hL.1 hv20 hi, Va_keeperOf_s hL.1 hv20 hi, bn1_r, bn1_r, i1, i2, if_neg (show ¬ nI (mm i) = -1 from fun z => by rw [nI_eqm (by omega)] at z; exact z), Fi_isSeated_s hF (by omega), bn1_r, bI_z, if_pos ⟨hf, hp⟩, ckI_nI _ (by omega) (by omega), nI_clamp (by omega), (hF.pd hf hp).1, stk_r, p1, bn1_r, Fi_seatOnGround_s hF hf (fun z => by rw [nI_eqm (by omega)] at z; exact z), bn1_r, ho', o1, bn1_r]
  · have u : ∀ q, q ≠ 8 * f + 4 → q ≠ 8 * f + 5 → q ≠ 8 * f + 6 → q ≠ 252 + mm i → q ≠ 252 + o → tkS s f (mm i) o q = s q := fun q h1 h2 h3 h4 h5 => by
      unfold tkS
      rw [gv_un ⟨h1, h2, h3⟩, pk_un h5, pk_un h4]
    have ua : tkS s f (mm i) o (252 + mm i) = 0 := by unfold tkS; rw [gv_un (by omega), pk_un (by omega), pk_us]
    have uo : tkS s f (mm i) o (252 + o) = nI (kk i + 1) := by unfold tkS; rw [gv_un (by omega), pk_us, i5]
    have uv : ∀ q, q < 1200 → tkS s f (mm i) o (252 + q) = upd (upd s (252 + mm i) 0) (252 + o) (s (252 + mm i)) (252 + q) := fun q _ => by unfold tkS; rw [gv_un (by omega)]
    have u4 : tkS s f (mm i) o (8 * f + 4) = nI (mm i) := by unfold tkS; rw [gv_4]
    have u5 : tkS s f (mm i) o (8 * f + 5) = nI (mm i) - s (8 * f + 1) := by unfold tkS; rw [gv_5, pk_un (by omega), pk_un (by omega)]
    have u6 : tkS s f (mm i) o (8 * f + 6) = 0 := by unfold tkS; rw [gv_6]
    generalize tkS s f (mm i) o = s' at *
    have a2 : ag s s' 160 172 := fun i h1 h2 => u i (by omega) (by omega) (by omega) (by omega) (by omega)
    have a3 : ag s s' 176 216 := fun i h1 h2 => u i (by omega) (by omega) (by omega) (by omega) (by omega)
    have a5 : ag s s' 216 252 := fun i h1 h2 => u i (by omega) (by omega) (by omega) (by omega) (by omega)
    have uq : ∀ g w, g < n → w < 4 ∨ w = 7 → s' (8 * g + w) = s (8 * g + w) := fun g w h1 h2 => u _ (by omega) (by omega) (by omega) (by omega) (by omega)
    have ug : ∀ g w, g < n → g ≠ f → w < 8 → s' (8 * g + w) = s (8 * g + w) := fun g w h1 h2 h3 => u _ (by omega) (by omega) (by omega) (by omega) (by omega)
    have uc : ∀ w, 172 ≤ w → w < 252 → s' w = s w := fun w h1 h2 => u _ (by omega) (by omega) (by omega) (by omega) (by omega)
    have pd' : ∀ g, g < n → (Pd s' g ↔ Pd s g) := fun g hg => by
      unfold Pd
      rw [uq g 7 hg (by omega)]
      by_cases e : g = f
      · subst e; rw [u4]; exact ⟨fun z => hp, fun z => ⟨nI_pos' (by omega), hp.2⟩⟩
      · rw [ug g 4 hg e (by omega)]
    have go : ∀ g, gone n s' g = gone n s g := fun g => by
      unfold gone
      by_cases q : g < n
      · rw [uq g 7 q (by omega)]
      · rw [decide_eq_false (fun z => q z.1), decide_eq_false (fun z => q z.1)]
    refine ⟨⟨hn, hF.rn, by rw [uc _ (by omega) (by omega)]; exact hF.sn, by rw [sg_n (by omega), uc _ (by omega) (by omega)]; exact hF.ck, fun g hg => ?_, fun g hg => ?_, fun g hg1 hg2 => ?_⟩, hr.cg a2, ⟨?_, ?_⟩, ⟨?_, hL2.1, insN p o (delN i mm), insN p (kk i) (delN i kk), fun j hj => ?_, hL2.2.2.1, fun q hq hz => hL2.2.2.2 q hq (by rw [← uv q hq]; exact hz)⟩, ho.cg a3, hl.cg (uc _ (by omega) (by omega)) a5, jt.cg (uc _ (by omega) (by omega)) (uc _ (by omega) (by omega)), ?_, ?_, ?_, ?_, ⟨fun q hq => ?_, ?_⟩, jr.cg a2, ?_, jl.cg (uc _ (by omega) (by omega)) a5⟩
    · rw [show s' (8 * g) = s (8 * g) from uq g 0 hg (by omega), uq g 1 hg (by omega), uq g 2 hg (by omega), uq g 3 hg (by omega)]
      exact hF.2.2.2.2.1 g hg
    · rw [sg_5, sg_6, sg_7]
      by_cases e : g = f
      · subst e
        refine Or.inl ⟨(pd' g hg).mpr hp, ?_, ?_, ?_⟩
        · rw [pk_us, u4]
        · rw [pk_us, u5]
        · rw [pk_us, u6]
      · rw [pd' g hg, pk_un e, pk_un e, pk_un e, ug g 4 hg e (by omega), ug g 5 hg e (by omega), ug g 6 hg e (by omega)]
        exact hF.2.2.2.2.2.1 g hg
    · have e : g ≠ f := by omega
      rw [sg_5, sg_6, sg_7, pk_un e, pk_un e, pk_un e]
      exact hF.2.2.2.2.2.2 g hg1 hg2
    · rw [sg_n (by omega), uc _ (by omega) (by omega)]; exact hb.1
    · rw [sg_n (by omega), msk_congr (fun i _ => go i)]; exact hb.2
    · rw [show cn (gone n s') n = cn (gone n s) n by rw [show gone n s' = gone n s from funext go]]; exact hv.1
    · obtain ⟨q1, q2, q3, q4, q5⟩ := hL2.2.1 j hj
      exact ⟨q1, q2, q3, q4, by rw [uv _ q3]; exact q5⟩
    · intro g hg
      rw [show s' (8 * g) = s (8 * g) from uq g 0 hg (by omega), uq g 1 hg (by omega), uq g 2 hg (by omega), uq g 3 hg (by omega)]
      exact jf g hg
    · intro g hg
      rw [uq g 7 hg (by omega)]
      by_cases e : g = f
      · subst e; rw [u4]; exact Or.inr ⟨Or.inl hp.2, mm i, i3, rfl⟩
      · rw [ug g 4 hg e (by omega)]; exact jg g hg
    · intro g hg hpg
      rw [pd' g hg] at hpg
      rw [uq g 1 hg (by omega), uq g 2 hg (by omega), uc 172 (by omega) (by omega)]
      by_cases e : g = f
      · subst e
        rw [u4, u5, u6]
        exact ⟨b, c, t, mm i, mm i - b, 0, f1, f2, f3, rfl, by rw [f1, pk_sub hba], rfl, i3, by omega, Or.inl rfl, f10, f11, f12⟩
      · rw [ug g 4 hg e (by omega), ug g 5 hg e (by omega), ug g 6 hg e (by omega)]
        exact jp g hg hpg
    · intro g k' hg hk' hpg hpk he'
      rw [pd' g hg] at hpg
      rw [pd' k' hk'] at hpk
      have nv : ∀ j, j < n → Pd s j → ¬ s (8 * j + 4) = nI (mm i) := fun j hj hpj z => kk_ne i4 (by rw [← i5]; exact jv.2 j hj hpj (mm i) i3 z)
      by_cases e : g = f
      · by_cases e' : k' = f
        · rw [e, e']
        · rw [e, u4, ug k' 4 hk' e' (by omega)] at he'
          exact absurd he'.symm (nv k' hk' hpk)
      · by_cases e' : k' = f
        · rw [e', u4, ug g 4 hg e (by omega)] at he'
          exact absurd he' (nv g hg hpg)
        · rw [ug g 4 hg e (by omega), ug k' 4 hk' e' (by omega)] at he'
          exact jd g k' hg hk' hpg hpk he'
    · by_cases e : q = mm i
      · subst e; exact ⟨0, by omega, ua⟩
      · by_cases e' : q = o
        · subst e'; exact ⟨kk i + 1, by omega, uo⟩
        · rw [u _ (by omega) (by omega) (by omega) (by omega) (by omega)]; exact jv.1 q hq
    · intro g hg hpg q hq hz
      rw [pd' g hg] at hpg
      by_cases e : g = f
      · subst e
        rw [u4] at hz
        rw [← (nI_eq (by omega) (by omega)).mp hz]
        exact ua
      · rw [ug g 4 hg e (by omega)] at hz
        by_cases e1 : q = mm i
        · rw [e1]; exact ua
        · have e2 : q ≠ o := fun z => e (jd g f hg hf hpg hp (by rw [hz, ho', z]))
          rw [u _ (by omega) (by omega) (by omega) (by omega) (by omega)]
          exact jv.2 g hg hpg q hq hz
    · intro i' hi'
      rcases jo i' hi' with q | ⟨q, a1, b1, h1, h2, h3, h4, h5, h6⟩
      · exact Or.inl (by rw [a3 (180 + 5 * i') (by omega) (by omega)]; exact q)
      · refine Or.inr ⟨by rw [a3 (180 + 5 * i') (by omega) (by omega)]; exact q, a1, b1, h1, h2, h3, ?_, ?_, ?_⟩
        · rw [a3 (176 + 5 * i') (by omega) (by omega)]; exact h4
        · rw [a3 (178 + 5 * i') (by omega) (by omega)]; exact h5
        · rw [show s' (8 * a1) = s (8 * a1) from uq a1 0 h1 (by omega), show s' (8 * b1) = s (8 * b1) from uq b1 0 h2 (by omega)]; exact h6
theorem q_move (h : RF n v fo ro ra vc os li (mo 0)) : ∃ r fo' vc' s' v', St_move fo ro vc x y = some (r, fo', vc') ∧ Mo_move mo x y = some (r, upA mo 0 s') ∧ RF n v' fo' ro ra vc' os li s' := by
  have hn := h.f.n20
  have hs := h.f.sn
  have hv20 := h.2.2.2.1.v20 hn
  obtain ⟨mm, kk, hL⟩ := h.2.2.2.1.l
  have same : ∀ (q : Int32), ∃ r fo' vc' s' v', some (q, fo, vc) = some (r, fo', vc') ∧ some (q, mo) = some (r, upA mo 0 s') ∧ RF n v' fo' ro ra vc' os li s' := fun q => ⟨q, fo, vc, mo 0, v, rfl, by rw [upA_id], h⟩
  unfold St_move Mo_move
  rw [Fi_isFlight_x hn h.f.rn, Mo_isFlight_s hn hs, bn1_r, bn1_r, bI_z, bI_z]
  by_cases hx : in0 x n
  · rw [if_pos hx, if_pos hx, St_isMinute_s, Mo_isMinute_s, bn1_r, bn1_r, bI_z, bI_z]
    by_cases hy : in0 y 1200
    · rw [if_pos hy, if_pos hy]
      obtain ⟨f, hf, rfl⟩ := in0_of hx (by omega)
      obtain ⟨a, ha, rfl⟩ := in0_of hy (by omega)
      obtain ⟨l', -, -, -, l1, l2, -⟩ := h.j.2.1 f hf
      rw [Va_find_s hL hv20 ha, Fi_isGrounded_s h.f (by omega), Fi_earliest_s h.f hf, Mo_isGround_s (by omega), Mo_of_0 (by omega), Mo_earliest_s (by omega), Mo_of_4 (by omega), n252 _ ha, k252 ha, l1]
      simp only [bn1_r, bI_z, nI_1]
      rcases find_iff hL ha with ⟨e1, e2⟩ | ⟨i, hi, e0, e1, e2⟩
      · rw [e2, if_pos (show sA none = -1 from rfl), e1, if_neg (show ¬ (0 : Int32) = nI (l' + 1) from fun z => kk_ne l2 z.symm)]
        by_cases hg : Gnd (mo 0) f
        · rw [if_pos hg]; exact same _
        · rw [if_neg hg]; exact same _
      · have i4 := (hL.2.1 i hi).2.2.2.1
        rw [e2, if_neg (show ¬ sA (some i) = -1 from fun z => by rw [show sA (some i) = nI i from rfl, nI_eqm (by omega)] at z; exact z), e1, show sA (some i) = nI i from rfl]
        by_cases hg : Gnd (mo 0) f
        · rw [if_pos ⟨hf, hg⟩, if_pos hg]
          by_cases he : earS (mo 0) f ≤ nI a
          · rw [if_pos he, if_pos he, Va_keeperOf_s hL.1 hv20 hi, bn1_r, (hL.2.1 i hi).2.1, Fi_isOf_s h.f (by omega), bn1_r, bI_z, l1]
            by_cases hk : l' = kk i
            · rw [if_pos ⟨hf, by rw [hk]⟩, if_pos (by rw [hk])]
              obtain ⟨-, -, -, o, -, -, -, -, -, o4, -, -, o7, -⟩ := h.j.2.2.2.1 f hf hg.1
              obtain ⟨fo', vc', p1, p2, p3⟩ := RF_take h hL hf hg.1 hi (by rw [e0]; exact he) o4 o7
              rw [p1, bn3_r, o4, stk_r, upm_A, Mo_of_0 (by omega), bn1_r, n252 _ o7, k252 o7, stk_r, upm_A, Mo_gives_s (by omega), bn1_r]
              simp only [upA_0, upA_A]
              refine ⟨_, _, _, _, v, rfl, rfl, ?_⟩
              unfold tkS at p2
              rw [e0] at p2
              rw [pk_un (by omega), l1, nI_1, hk, ← e1]
              exact p2
            · rw [if_neg (fun z => hk ((nI_eq (by omega) (by omega)).mp z.2)), if_neg (fun z => hk (by have := (nI_eq (by omega) (by omega)).mp z; omega))]
              exact same _
          · rw [if_neg he, if_neg he]
            by_cases hk : nI (kk i + 1) = nI (l' + 1)
            · rw [if_pos hk]; exact same _
            · rw [if_neg hk]; exact same _
        · rw [if_neg (fun z => hg z.2), if_neg hg]; exact same _
    · rw [if_neg hy, if_neg hy]; exact same _
  · rw [if_neg hx, if_neg hx]; exact same _
end TK
