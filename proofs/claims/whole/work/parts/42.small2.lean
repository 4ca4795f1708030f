/-! flight, withdraw, offer -/
/-- a flight more -/
def adS (s : Nat → Int32) (n : Nat) (a b c d : Int32) : Nat → Int32 := upd (upd (upd (upd (upd (upd (upd (upd (upd s (8 * n) a) (8 * n + 1) b) (8 * n + 2) c) (8 * n + 3) d) (8 * n + 4) (-1)) (8 * n + 5) 0) (8 * n + 6) 0) (8 * n + 7) 0) 173 (nI (n + 1))
section AD
variable {s : Nat → Int32} {n : Nat} {a b c d : Int32}
theorem ad_un {i : Nat} (h : i < 8 * n ∨ (8 * n + 8 ≤ i ∧ i ≠ 173)) (hn : n < 20) : adS s n a b c d i = s i := by
  unfold adS
  rw [pk_un (by omega), pk_un (by omega), pk_un (by omega), pk_un (by omega), pk_un (by omega), pk_un (by omega), pk_un (by omega), pk_un (by omega), pk_un (by omega)]
theorem ad_173 : adS s n a b c d 173 = nI (n + 1) := pk_us
theorem ad_v (hn : n < 20) : adS s n a b c d (8 * n) = a ∧ adS s n a b c d (8 * n + 1) = b ∧ adS s n a b c d (8 * n + 2) = c ∧ adS s n a b c d (8 * n + 3) = d ∧ adS s n a b c d (8 * n + 4) = -1 ∧ adS s n a b c d (8 * n + 5) = 0 ∧ adS s n a b c d (8 * n + 6) = 0 ∧ adS s n a b c d (8 * n + 7) = 0 := by
  unfold adS
  refine ⟨?_, ?_, ?_, ?_, ?_, ?_, ?_, ?_⟩
  · rw [pk_un (by omega), pk_un (by omega), pk_un (by omega), pk_un (by omega), pk_un (by omega), pk_un (by omega), pk_un (by omega), pk_un (by omega), pk_us]
  · rw [pk_un (by omega), pk_un (by omega), pk_un (by omega), pk_un (by omega), pk_un (by omega), pk_un (by omega), pk_un (by omega), pk_us]
  · rw [pk_un (by omega), pk_un (by omega), pk_un (by omega), pk_un (by omega), pk_un (by omega), pk_un (by omega), pk_us]
  · rw [pk_un (by omega), pk_un (by omega), pk_un (by omega), pk_un (by omega), pk_un (by omega), pk_us]
  · rw [pk_un (by omega), pk_un (by omega), pk_un (by omega), pk_un (by omega), pk_us]
  · rw [pk_un (by omega), pk_un (by omega), pk_un (by omega), pk_us]
  · rw [pk_un (by omega), pk_un (by omega), pk_us]
  · rw [pk_un (by omega), pk_us]
end AD
section FL2
variable {n v : Nat} {fo ro ra vc os li mo : Mem} {x y z w : Int32}
theorem Mo_adds_s (hn : n < 20) (hs : mo 0 173 = nI n) : Mo_adds mo x y z w = some (upA mo 0 (adS (mo 0) n x y z w)) := by
  unfold Mo_adds
  rw [n173 (mo := mo), k173, hs, stk_r, show (0 : Int32) = nI 0 from rfl, show (1 : Int32) = nI 1 from rfl, show (2 : Int32) = nI 2 from rfl, show (3 : Int32) = nI 3 from rfl, show (4 : Int32) = nI 4 from rfl, show (5 : Int32) = nI 5 from rfl, show (6 : Int32) = nI 6 from rfl, show (7 : Int32) = nI 7 from rfl]
  simp (disch := omega) only [Mo_sets_s, bn1_r, stk_r, upA_0, upA_A, upm_A, nI_add]
  rfl
theorem Ro_add_s (hn : n < 20) (l3 : ro 4 0 = nI n) : ∃ ro', Ro_add ro x y z w = some (nI n, ro') ∧ ro' 4 0 = nI (n + 1) ∧ ro' 0 = upd (ro 0) n x ∧ ro' 1 = upd (ro 1) n y ∧ ro' 2 = upd (ro 2) n z ∧ ro' 3 = upd (ro 3) n w := by
  refine ⟨upm (upm (upm (upm (upm ro 0 n x) 1 n y) 2 n z) 3 n w) 4 0 (nI (n + 1)), ?_, ?_, ?_, ?_, ?_, ?_⟩
  · unfold Ro_add Ro_isFull
    rw [l3, L20, if_neg (nI_pos (by omega)), if_pos (nI_lt hn (by omega)), bn1_r, if_pos rfl]
    simp (disch := omega) only [l3, stk_r, ckI_nI, nI_clamp, upm_n, upm_0, pk_us, nI_1, nI_pred]
  · rw [upm_0, pk_us]
  · rw [upm_n _ _ _ (by omega), upm_n _ _ _ (by omega), upm_n _ _ _ (by omega), upm_n _ _ _ (by omega), upm_0]
  · rw [upm_n _ _ _ (by omega), upm_n _ _ _ (by omega), upm_n _ _ _ (by omega), upm_0, upm_n _ _ _ (by omega)]
  · rw [upm_n _ _ _ (by omega), upm_n _ _ _ (by omega), upm_0, upm_n _ _ _ (by omega), upm_n _ _ _ (by omega)]
  · rw [upm_n _ _ _ (by omega), upm_0, upm_n _ _ _ (by omega), upm_n _ _ _ (by omega), upm_n _ _ _ (by omega)]
theorem Ro_add_full (l3 : ro 4 0 = nI 20) : Ro_add ro x y z w = some (-2, ro) := by
  unfold Ro_add Ro_isFull
  rw [l3, if_neg (show ¬ nI 20 < 0 by decide), if_neg (show ¬ nI 20 < 20 by decide), bn1_r, if_neg (by decide)]
/-- one flight more keeps it all -/
theorem RF_add {ro' : Mem} {a b c d : Nat} {s : Nat → Int32} (h : RF n v fo ro ra vc os li s) (hn : n < 20) (ha : a < 5) (hb' : b < 720) (hc : c ≤ 300) (hd : 1 ≤ d ∧ d ≤ 9) (r4 : ro' 4 0 = nI (n + 1)) (r0 : ro' 0 = upd (ro 0) n (nI a)) (r1 : ro' 1 = upd (ro 1) n (nI b)) (r2 : ro' 2 = upd (ro 2) n (nI c)) (r3 : ro' 3 = upd (ro 3) n (nI d)) : RF (n + 1) v fo ro' ra vc os li (adS s n (nI a) (nI b) (nI c) (nI d)) := by
  obtain ⟨hf, hr, hb, hv, ho, hl, jt, jf, jg, jp, jd, jv, jr, jo, jl⟩ := id h
  obtain ⟨v0, v1, v2, v3, v4, v5, v6, v7⟩ := ad_v (s := s) (a := nI a) (b := nI b) (c := nI c) (d := nI d) hn
  have u := @ad_un s n (nI a) (nI b) (nI c) (nI d)
  have u173 : adS s n (nI a) (nI b) (nI c) (nI d) 173 = nI (n + 1) := ad_173
  generalize adS s n (nI a) (nI b) (nI c) (nI d) = s' at *
  have a2 : ag s s' 160 172 := fun i h1 h2 => u (by omega) hn
  have a3 : ag s s' 176 216 := fun i h1 h2 => u (by omega) hn
  have a4 : ag s s' 252 1452 := fun i h1 h2 => u (by omega) hn
  have a5 : ag s s' 216 252 := fun i h1 h2 => u (by omega) hn
  have e2 : s' 172 = s 172 := u (by omega) hn
  have e4 : s' 174 = s 174 := u (by omega) hn
  have e5 : s' 175 = s 175 := u (by omega) hn
  have npd : ¬ Pd s' n := fun q => absurd q.1 (by rw [v4]; decide)
  have pdo : ∀ f, f < n → (Pd s' f ↔ Pd s f) := fun f hfn => by
    unfold Pd
    rw [u (i := 8 * f + 4) (by omega) hn, u (i := 8 * f + 7) (by omega) hn]
  have go : ∀ i, i < 20 → gone (n + 1) s' i = gone n s i := fun i hi => by
    unfold gone
    by_cases h1 : i < n
    · rw [u (i := 8 * i + 7) (by omega) hn]
      by_cases h2 : s (8 * i + 7) = 1
      · rw [decide_eq_true ⟨by omega, h2⟩, decide_eq_true ⟨h1, h2⟩]
      · rw [decide_eq_false (fun z => h2 z.2), decide_eq_false (fun z => h2 z.2)]
    · rw [decide_eq_false (fun (z : i < n ∧ _) => h1 z.1)]
      refine decide_eq_false (fun z => ?_)
      have e : i = n := by omega
      subst e
      rw [v7] at z
      exact absurd z.2 (by decide)
  refine ⟨?_, hr.cg a2, ⟨hb.1.trans e4.symm, by rw [hb.2, msk_congr (fun i hi => (go i hi).symm)]⟩, ?_, ho.cg a3, hl.cg e5 a5, jt.cg e2 e4, ?_, ?_, ?_, ?_, ?_, jr.cg a2, ?_, ?_⟩
  · obtain ⟨h1, h2, h3, h4, h5, h6, h7⟩ := hf
    refine ⟨by omega, r4, u173, h4.trans e2.symm, fun f hfn => ?_, fun f hfn => ?_, fun f h8 h9 => h7 f (by omega) h9⟩
    · rw [r0, r1, r2, r3]
      by_cases e : f = n
      · subst e
        rw [pk_us, pk_us, pk_us, pk_us]; exact ⟨v0, v1, v2, v3⟩
      · rw [pk_un e, pk_un e, pk_un e, pk_un e, u (i := 8 * f) (by omega) hn, u (i := 8 * f + 1) (by omega) hn, u (i := 8 * f + 2) (by omega) hn, u (i := 8 * f + 3) (by omega) hn]
        exact h5 f (by omega)
    · by_cases e : f = n
      · subst e
        exact Or.inr ⟨npd, h7 f (Nat.le_refl f) hn⟩
      · rw [pdo f (by omega), u (i := 8 * f + 4) (by omega) hn, u (i := 8 * f + 5) (by omega) hn, u (i := 8 * f + 6) (by omega) hn]
        exact h6 f (by omega)
  · obtain ⟨h1, h2, mm, kk, h3, h4, h5⟩ := hv
    have ec : cn (gone (n + 1) s') (n + 1) = cn (gone n s) n := by
      show cn (gone (n + 1) s') n + _ = _
      rw [cn_congr (fun i hi => go i (by omega)), go n hn, show gone n s n = false from decide_eq_false (fun z => by omega)]
      rfl
    refine ⟨by rw [ec]; exact h1, h2, mm, kk, fun i hi => ?_, h4, fun m hm hz => ?_⟩
    · obtain ⟨q1, q2, q3, q4, q5⟩ := h3 i hi
      exact ⟨q1, q2, q3, q4, by rw [a4 (252 + mm i) (by omega) (by omega)]; exact q5⟩
    · rw [a4 (252 + m) (by omega) (by omega)] at hz
      exact h5 m hm hz
  · intro f hfn
    by_cases e : f = n
    · subst e
      exact ⟨a, b, c, d, v0, ha, v1, hb', v2, hc, v3, hd.1, hd.2⟩
    · rw [u (i := 8 * f) (by omega) hn, u (i := 8 * f + 1) (by omega) hn, u (i := 8 * f + 2) (by omega) hn, u (i := 8 * f + 3) (by omega) hn]
      exact jf f (by omega)
  · intro f hfn
    by_cases e : f = n
    · subst e; exact Or.inl ⟨v7, v4⟩
    · rw [u (i := 8 * f + 7) (by omega) hn, u (i := 8 * f + 4) (by omega) hn]
      exact jg f (by omega)
  · intro f hfn hp
    by_cases e : f = n
    · subst e; exact absurd hp npd
    · rw [pdo f (by omega)] at hp
      rw [u (i := 8 * f + 1) (by omega) hn, u (i := 8 * f + 2) (by omega) hn, u (i := 8 * f + 4) (by omega) hn, u (i := 8 * f + 5) (by omega) hn, u (i := 8 * f + 6) (by omega) hn, e2]
      exact jp f (by omega) hp
  · intro f g hfn hgn hp hq
    by_cases e : f = n
    · subst e; exact absurd hp npd
    · by_cases e' : g = n
      · subst e'; exact absurd hq npd
      · rw [pdo f (by omega)] at hp
        rw [pdo g (by omega)] at hq
        rw [u (i := 8 * f + 4) (by omega) hn, u (i := 8 * g + 4) (by omega) hn]
        exact jd f g (by omega) (by omega) hp hq
  · refine ⟨fun m hm => by rw [a4 (252 + m) (by omega) (by omega)]; exact jv.1 m hm, fun f hfn hp m hm => ?_⟩
    by_cases e : f = n
    · subst e; exact absurd hp npd
    · rw [pdo f (by omega)] at hp
      rw [u (i := 8 * f + 4) (by omega) hn, a4 (252 + m) (by omega) (by omega)]
      exact jv.2 f (by omega) hp m hm
  · intro i hi
    rcases jo i hi with q | ⟨q, a', b', h1, h2, h3, h4, h5, h6⟩
    · exact Or.inl (by rw [a3 (180 + 5 * i) (by omega) (by omega)]; exact q)
    · refine Or.inr ⟨by rw [a3 (180 + 5 * i) (by omega) (by omega)]; exact q, a', b', by omega, by omega, h3, ?_, ?_, ?_⟩
      · rw [a3 (176 + 5 * i) (by omega) (by omega)]; exact h4
      · rw [a3 (178 + 5 * i) (by omega) (by omega)]; exact h5
      · rw [u (i := 8 * a') (by omega) hn, u (i := 8 * b') (by omega) hn]; exact h6
  · obtain ⟨L, h1, h2, h3⟩ := jl
    refine ⟨L, h1, e5.trans h2, fun i hi => ?_⟩
    rw [a5 (216 + 3 * i) (by omega) (by omega), a5 (216 + 3 * i + 1) (by omega) (by omega), a5 (216 + 3 * i + 2) (by omega) (by omega)]
    obtain ⟨f, g, k, q1, q2, q3⟩ := h3 i hi
    exact ⟨f, g, k, by omega, by omega, q3⟩
theorem q_flight (h : RF n v fo ro ra vc os li (mo 0)) : ∃ r ro' s' n', St_flight ro x y z w = some (r, ro') ∧ Mo_flight mo x y z w = some (r, upA mo 0 s') ∧ RF n' v fo ro' ra vc os li s' := by
  have hn := h.f.n20
  have same : ∀ (q : Int32), ∃ r ro' s' n', some (q, ro) = some (r, ro') ∧ some (q, mo) = some (r, upA mo 0 s') ∧ RF n' v fo ro' ra vc os li s' := fun q => ⟨q, ro, mo 0, n, rfl, by rw [upA_id], h⟩
  unfold St_flight Mo_flight
  rw [St_isLine_s, St_isDayMinute_s, Mo_isLine_s, show (719 : Int32) = nI 719 from rfl, show (300 : Int32) = nI 300 from rfl, Mo_in0 719 (by omega), Mo_in0 300 (by omega), Mo_in_s, n173 (mo := mo), k173, h.f.sn]
  simp only [bn1_r, bI_z]
  by_cases hx : in0 x 5
  · rw [if_pos hx, if_pos hx]
    by_cases hy : in0 y 720
    · rw [if_pos hy, if_pos hy]
      by_cases hz : in0 z 301
      · have hz' := (in0_le (x := z) (k := 300) (by omega)).mpr hz
        rw [if_pos hz, if_neg hz.1, if_neg hz'.2]
        by_cases hw : ¬ w < 1 ∧ ¬ 9 < w
        · rw [if_pos hw, if_neg hw.1, if_pos (Int32.not_lt.mp hw.2)]
          obtain ⟨a, ha, rfl⟩ := in0_of hx (by omega)
          obtain ⟨b, hb, rfl⟩ := in0_of hy (by omega)
          obtain ⟨c, hc, rfl⟩ := in0_of hz (by omega)
          obtain ⟨d, hd, rfl⟩ := nI_of (x := w) (fun q => hw.1 (Int32.lt_trans q (by decide)))
          have hd1 : 1 ≤ d := Nat.le_of_not_lt (fun q => hw.1 (nI_lt (b := 1) q (by omega)))
          have hd9 : d ≤ 9 := Nat.le_of_not_lt (fun q => hw.2 (nI_lt (a := 9) q hd))
          by_cases h20 : n = 20
          · subst h20
            rw [if_pos (show nI 20 = 20 from rfl), Ro_add_full h.f.rn, bn2_r]
            exact same _
          · have hn20 : n < 20 := by omega
            obtain ⟨ro', e0, r4, r0, r1, r2, r3⟩ := Ro_add_s (x := nI a) (y := nI b) (z := nI c) (w := nI d) hn20 h.f.rn
            rw [if_neg (show ¬ nI n = 20 from fun q => h20 ((nI_eq (b := 20) (by omega) (by omega)).mp q)), e0, bn2_r, Mo_adds_s hn20 h.f.sn, bn1_r, upA_0, ad_173, nI_pred]
            exact ⟨_, _, _, n + 1, rfl, rfl, RF_add h hn20 ha hb (by omega) ⟨hd1, hd9⟩ r4 r0 r1 r2 r3⟩
        · rw [if_neg hw]
          refine ⟨-1, ro, mo 0, n, ?_, by rw [upA_id], h⟩
          by_cases h1 : w < 1
          · rw [if_pos h1]
          · rw [if_neg h1, if_neg (fun q => hw ⟨h1, Int32.not_lt.mpr q⟩)]
      · rw [if_neg hz]
        refine ⟨-1, ro, mo 0, n, ?_, by rw [upA_id], h⟩
        by_cases h1 : z < 0
        · rw [if_pos h1]
        · rw [if_neg h1, if_pos]
          exact Int32.not_le.mp (fun q => hz ((in0_le (k := 300) (by omega)).mp ⟨h1, Int32.not_lt.mpr q⟩))
    · rw [if_neg hy, if_neg hy]; exact same _
  · rw [if_neg hx, if_neg hx]; exact same _
/-! withdraw -/
theorem RF_drop {i : Nat} {os' : Mem} {s : Nat → Int32} (h : RF n v fo ro ra vc os li s) (hi : i < 8) (o4 : os' 4 0 = nI (msk (made (upd s (180 + 5 * i) 0)) 8)) (ok : ∀ k, k < 4 → os' k = os k) : RF n v fo ro ra vc os' li (upd s (180 + 5 * i) 0) := by
  have hn := h.1.n20
  obtain ⟨hf, hr, hb, hv, ho, hl, jt, jf, jg, jp, jd, jv, jr, jo, jl⟩ := id h
  have a1 : ag s (upd s (180 + 5 * i) 0) 0 160 := ag_upd (by omega)
  have a2 : ag s (upd s (180 + 5 * i) 0) 160 172 := ag_upd (by omega)
  have a4 : ag s (upd s (180 + 5 * i) 0) 252 1452 := ag_upd (by omega)
  have a5 : ag s (upd s (180 + 5 * i) 0) 216 252 := ag_upd (by omega)
  refine ⟨hf.cg a1 (pk_un (by omega)) (pk_un (by omega)), hr.cg a2, hb.cg hn a1 (pk_un (by omega)), hv.cg hn a1 a4, ⟨o4, fun j hj hz => ?_⟩, hl.cg (pk_un (by omega)) a5, jt.cg (pk_un (by omega)) (pk_un (by omega)), jf.cg hn a1, jg.cg hn a1, jp.cg hn a1 (pk_un (by omega)), jd.cg hn a1, jv.cg hn a1 a4, jr.cg a2, fun j hj => ?_, jl.cg (pk_un (by omega)) a5⟩
  · have hne : j ≠ i := fun e => by subst e; rw [pk_us] at hz; exact absurd hz (by decide)
    rw [pk_un (by omega)] at hz
    rw [ok 0 (by omega), ok 1 (by omega), ok 2 (by omega), ok 3 (by omega), pk_un (by omega), pk_un (by omega), pk_un (by omega), pk_un (by omega)]
    exact ho.2 j hj hz
  · by_cases e : j = i
    · subst e; exact Or.inl pk_us
    · rcases jo j hj with q | ⟨q, a', b', h1, h2, h3, h4, h5, h6⟩
      · exact Or.inl (by rw [pk_un (by omega)]; exact q)
      · refine Or.inr ⟨by rw [pk_un (by omega)]; exact q, a', b', h1, h2, h3, ?_, ?_, ?_⟩
        · rw [pk_un (by omega)]; exact h4
        · rw [pk_un (by omega)]; exact h5
        · rw [pk_un (by omega), pk_un (by omega)]; exact h6
theorem Of_drop_s {i : Nat} (h : Ros os (mo 0)) (hi : i < 8) (hm : made (mo 0) i = true) : Of_drop os (nI i) = some (upm os 4 0 (nI (msk (made (upd (mo 0) (180 + 5 * i) 0)) 8))) := by
  unfold Of_drop
  rw [Of_has_in h hi, bn1_r, bI_z, if_pos hm, h.1, stk_r, bit_clr (P := made (mo 0)) (Q := made (upd (mo 0) (180 + 5 * i) 0)) (by omega) hi]
  intro j hj
  unfold made
  by_cases e : j = i
  · subst e
    rw [pk_us, decide_eq_false (show ¬ (0 : Int32) = 1 by decide), decide_eq_true (show j = j from rfl), Bool.not_true, Bool.and_false]
  · rw [pk_un (by omega), decide_eq_false e, Bool.not_false, Bool.and_true]
theorem Mo_drop {i : Nat} (hi : i < 8) : (176 : Int32) + 5 * nI i + 4 = nI (180 + 5 * i) := by rw [show (176 : Int32) = nI 176 from rfl, show (5 : Int32) = nI 5 from rfl, show (4 : Int32) = nI 4 from rfl, pk_mul, nI_add, nI_add, show 176 + 5 * i + 4 = 180 + 5 * i by omega]
theorem q_withdraw (h : RF n v fo ro ra vc os li (mo 0)) : ∃ r os' s', St_withdraw os x = some (r, os') ∧ Mo_withdraw mo x = some (r, upA mo 0 s') ∧ RF n v fo ro ra vc os' li s' := by
  have same : ∀ (q : Int32), ∃ r os' s', some (q, os) = some (r, os') ∧ some (q, mo) = some (r, upA mo 0 s') ∧ RF n v fo ro ra vc os' li s' := fun q => ⟨q, os, mo 0, rfl, by rw [upA_id], h⟩
  unfold St_withdraw Mo_withdraw
  by_cases hx : in0 x 8
  · obtain ⟨i, hi, rfl⟩ := in0_of hx (by omega)
    have ho := h.2.2.2.2.1
    rw [Of_has_in ho hi, Mo_isOffer_in hi, bn1_r, bn1_r, bI_z, bI_z]
    by_cases hm : made (mo 0) i = true
    · rw [if_pos hm, if_pos hm, Of_drop_s ho hi hm, bn1_r, Mo_drop hi, ckI_nI _ (by omega) (by omega), nI_clamp (by omega), stk_r, upm_A]
      exact ⟨_, _, _, rfl, rfl, RF_drop h hi (by rw [upA_0, pk_us]) (fun k hk => upA_n _ _ (by omega))⟩
    · rw [if_neg hm, if_neg hm]; exact same _
  · rw [Of_has_out hx, Mo_isOffer_out hx]; exact same _
/-! offer -/
theorem Of_lowestFree_s (h : Ros os (mo 0)) : Of_lowestFree os = some (sA (seek (fun i => !made (mo 0) i) 0 8)) := by
  unfold Of_lowestFree
  have e := for_seek (fun k z => Of_lowestFree_b2 os k z) 8 (fun i => !made (mo 0) i) (fun i => some (nI i)) (some (-1)) (fun k i hi => ?_) (fun k => rfl) 8 fl 0 (by omega) (by rw [fl_v]; omega)
  · refine Eq.trans e ?_
    cases seek (fun i => !made (mo 0) i) 0 8 <;> rfl
  · show Of_lowestFree_b2B os (Of_lowestFree_b2 os k) (nI i) = _
    unfold Of_lowestFree_b2B
    rw [show (8 : Int32) = nI 8 from rfl, if_neg (nI_ge hi (by omega)), Of_has_in h hi, bn1_r, bI_z, stk_r, nI_1]
    cases hm : made (mo 0) i <;> rfl
/-- an offer is made -/
def ofS (s : Nat → Int32) (i : Nat) (a b c d : Int32) : Nat → Int32 := upd (upd (upd (upd (upd s (176 + 5 * i) a) (176 + 5 * i + 1) b) (176 + 5 * i + 2) c) (176 + 5 * i + 3) d) (176 + 5 * i + 4) 1
theorem Mo_offer_l {a b c d : Int32} : Mo_offer_b75 a b c d fl mo 0 = match seek (fun i => !made (mo 0) i) 0 8 with
    | some i => some (nI i, upA mo 0 (ofS (mo 0) i a b c d))
    | none => some (-3, mo) := by
  have put : ∀ i, i < 8 → Mo_offer_b100 a b c d mo (nI i) = some (nI i, upA mo 0 (ofS (mo 0) i a b c d)) := fun i hi => by
    unfold Mo_offer_b100
    rw [if_neg (show ¬ nI i = 8 from fun q => by have := (nI_eq (b := 8) (by omega) (by omega)).mp q; omega), show (176 : Int32) + 5 * nI i = nI (176 + 5 * i) by rw [show (176 : Int32) = nI 176 from rfl, show (5 : Int32) = nI 5 from rfl, pk_mul, nI_add], show (2 : Int32) = nI 2 from rfl, show (3 : Int32) = nI 3 from rfl, show (4 : Int32) = nI 4 from rfl]
    simp (disch := omega) only [stk_r, nI_1, nI_add, ckI_nI, nI_clamp, upm_A, upA_0, upA_A]
    rfl
  exact for_seek (fun k z => Mo_offer_b75 a b c d k mo z) 8 (fun i => !made (mo 0) i) (fun i => some (nI i, upA mo 0 (ofS (mo 0) i a b c d))) (some (-3, mo)) (fun k i hi => by
    show Mo_offer_b75B a b c d (Mo_offer_b75 a b c d k) mo (nI i) = _
    unfold Mo_offer_b75B
    rw [show (8 : Int32) = nI 8 from rfl, if_neg (nI_ge hi (by omega)), Mo_isOffer_in hi, bn1_r, bI_z, stk_r, nI_1, put i hi]
    cases hm : made (mo 0) i <;> rfl) (fun k => by
    show Mo_offer_b75B a b c d (Mo_offer_b75 a b c d k) mo (nI 8) = _
    unfold Mo_offer_b75B Mo_offer_b100
    rw [if_pos (show (8 : Int32) ≤ nI 8 by decide), if_pos (show nI 8 = 8 from rfl)]) 8 fl 0 (by omega) (by rw [fl_v]; omega)
theorem q_offer {a b : Int32} (h : RF n v fo ro ra vc os li (mo 0)) : ∃ r os' s', St_offer fo ro os a x b y = some (r, os') ∧ Mo_offer mo a x b y = some (r, upA mo 0 s') ∧ RF n v fo ro ra vc os' li s' := by
  have hn := h.f.n20
  have same : ∀ (q : Int32), ∃ r os' s', some (q, os) = some (r, os') ∧ some (q, mo) = some (r, upA mo 0 s') ∧ RF n v fo ro ra vc os' li s' := fun q => ⟨q, os, mo 0, rfl, by rw [upA_id], h⟩
  obtain ⟨hf, hr, hb, hv, ho, hl, jt, jf, jg, jp, jd, jv, jr, jo, jl⟩ := id h
  unfold St_offer Mo_offer
  rw [Fi_isFlight_x hn hf.rn, Fi_isFlight_x hn hf.rn, Mo_isFlight_s hn hf.sn, Mo_isFlight_s hn hf.sn, St_isMinute_s, St_isMinute_s, Mo_isMinute_s, Mo_isMinute_s]
  simp only [bn1_r, bI_z]
  by_cases ha : in0 a n
  · rw [if_pos ha, if_pos ha]
    by_cases hb' : in0 b n
    · rw [if_pos hb', if_pos hb']
      by_cases hab : a = b
      · rw [if_pos hab, if_pos hab]; exact same _
      · rw [if_neg hab, if_neg hab]
        by_cases hx : in0 x 1200
        · rw [if_pos hx, if_pos hx]
          by_cases hy : in0 y 1200
          · rw [if_pos hy, if_pos hy]
            obtain ⟨f, hfn, rfl⟩ := in0_of ha (by omega)
            obtain ⟨g, hgn, rfl⟩ := in0_of hb' (by omega)
            have hfg : f ≠ g := fun e => hab (by rw [e])
            rw [Fi_isGrounded_s hf (by omega), Fi_isGrounded_s hf (by omega), Mo_isGround_s (by omega), Mo_isGround_s (by omega), Ro_sameLine_s hf (by omega) (by omega), Mo_of_0 (by omega), Mo_of_0 (by omega), Of_lowestFree_s ho]
            simp only [bn1_r, bI_z]
            by_cases h1 : Gnd (mo 0) f
            · rw [if_pos ⟨hfn, h1⟩, if_pos h1]
              by_cases h2 : Gnd (mo 0) g
              · rw [if_pos ⟨hgn, h2⟩, if_pos h2]
                by_cases h3 : mo 0 (8 * f) = mo 0 (8 * g)
                · rw [if_pos ⟨hfn, hgn, h3⟩, if_pos h3, Mo_offer_l]
                  cases hs : seek (fun i => !made (mo 0) i) 0 8 with
                  | none =>
                    rw [if_pos (show sA none = -1 from rfl)]
                    exact same _
                  | some i =>
                    obtain ⟨-, hi, hm, -⟩ := seek_some hs
                    have hi8 : i < 8 := by omega
                    rw [show sA (some i) = nI i from rfl, if_neg (fun (q : nI i = -1) => by rw [nI_eqm (by omega)] at q; exact q)]
                    unfold Of_put
                    rw [if_neg (nI_pos (by omega)), if_pos (show nI i < 8 from nI_lt (b := 8) hi8 (by omega)), ho.1, bit_set (P := made (mo 0)) (Q := made (ofS (mo 0) i (nI f) x (nI g) y)) (by omega) hi8 ?hq]
                    case hq =>
                      intro j hj
                      unfold made ofS
                      by_cases e : j = i
                      · subst e
                        rw [show 180 + 5 * j = 176 + 5 * j + 4 by omega, pk_us, decide_eq_true (show (1 : Int32) = 1 from rfl), decide_eq_true (show j = j from rfl), Bool.or_true]
                      · rw [pk_un (by omega), pk_un (by omega), pk_un (by omega), pk_un (by omega), pk_un (by omega), decide_eq_false e, Bool.or_false]
                    simp (disch := omega) only [stk_r, ckI_nI, nI_clamp, bn1_r]
                    refine ⟨_, _, _, rfl, rfl, ?_⟩
                    have u : ∀ j, j < 176 + 5 * i ∨ 176 + 5 * i + 4 < j → ofS (mo 0) i (nI f) x (nI g) y j = mo 0 j := fun j hj => by
                      unfold ofS
                      rw [pk_un (by omega), pk_un (by omega), pk_un (by omega), pk_un (by omega), pk_un (by omega)]
                    have u0 : ofS (mo 0) i (nI f) x (nI g) y (176 + 5 * i) = nI f := by
                      unfold ofS
                      rw [pk_un (by omega), pk_un (by omega), pk_un (by omega), pk_un (by omega), pk_us]
                    have u1 : ofS (mo 0) i (nI f) x (nI g) y (177 + 5 * i) = x := by
                      unfold ofS
                      rw [show 177 + 5 * i = 176 + 5 * i + 1 by omega, pk_un (by omega), pk_un (by omega), pk_un (by omega), pk_us]
                    have u2 : ofS (mo 0) i (nI f) x (nI g) y (178 + 5 * i) = nI g := by
                      unfold ofS
                      rw [show 178 + 5 * i = 176 + 5 * i + 2 by omega, pk_un (by omega), pk_un (by omega), pk_us]
                    have u3 : ofS (mo 0) i (nI f) x (nI g) y (179 + 5 * i) = y := by
                      unfold ofS
                      rw [show 179 + 5 * i = 176 + 5 * i + 3 by omega, pk_un (by omega), pk_us]
                    have u4 : ofS (mo 0) i (nI f) x (nI g) y (180 + 5 * i) = 1 := by
                      unfold ofS
                      rw [show 180 + 5 * i = 176 + 5 * i + 4 by omega, pk_us]
                    generalize ofS (mo 0) i (nI f) x (nI g) y = s' at u u0 u1 u2 u3 u4
                    have a1 : ag (mo 0) s' 0 160 := fun j h1 h2 => u j (by omega)
                    have a2 : ag (mo 0) s' 160 172 := fun j h1 h2 => u j (by omega)
                    have a4 : ag (mo 0) s' 252 1452 := fun j h1 h2 => u j (by omega)
                    have a5 : ag (mo 0) s' 216 252 := fun j h1 h2 => u j (by omega)
                    refine ⟨hf.cg a1 (u _ (by omega)) (u _ (by omega)), hr.cg a2, hb.cg hn a1 (u _ (by omega)), hv.cg hn a1 a4, ⟨?_, fun j hj hz => ?_⟩, hl.cg (u _ (by omega)) a5, jt.cg (u _ (by omega)) (u _ (by omega)), jf.cg hn a1, jg.cg hn a1, jp.cg hn a1 (u _ (by omega)), jd.cg hn a1, jv.cg hn a1 a4, jr.cg a2, fun j hj => ?_, jl.cg (u _ (by omega)) a5⟩
                    · rw [upm_n _ _ _ (by omega), upm_n _ _ _ (by omega), upm_n _ _ _ (by omega), upm_n _ _ _ (by omega), upm_0, pk_us]
                    · by_cases e : j = i
                      · subst e
                        rw [u0, u1, u2, u3]
                        refine ⟨?_, ?_, ?_, ?_⟩
                        · rw [upm_n _ _ _ (by omega), upm_n _ _ _ (by omega), upm_n _ _ _ (by omega), upm_0, pk_us]
                        · rw [upm_n _ _ _ (by omega), upm_n _ _ _ (by omega), upm_0, pk_us]
                        · rw [upm_n _ _ _ (by omega), upm_0, pk_us]
                        · rw [upm_0, pk_us]
                      · rw [u _ (by omega)] at hz
                        obtain ⟨o0, o1, o2, o3⟩ := ho.2 j hj hz
                        rw [u _ (by omega), u _ (by omega), u _ (by omega), u _ (by omega)]
                        refine ⟨?_, ?_, ?_, ?_⟩
                        · rw [upm_n _ _ _ (by omega), upm_n _ _ _ (by omega), upm_n _ _ _ (by omega), upm_0, pk_un e, upm_n _ _ _ (by omega)]; exact o0
                        · rw [upm_n _ _ _ (by omega), upm_n _ _ _ (by omega), upm_0, pk_un e, upm_n _ _ _ (by omega), upm_n _ _ _ (by omega)]; exact o1
                        · rw [upm_n _ _ _ (by omega), upm_0, pk_un e, upm_n _ _ _ (by omega), upm_n _ _ _ (by omega), upm_n _ _ _ (by omega)]; exact o2
                        · rw [upm_0, pk_un e, upm_n _ _ _ (by omega), upm_n _ _ _ (by omega), upm_n _ _ _ (by omega), upm_n _ _ _ (by omega)]; exact o3
                    · by_cases e : j = i
                      · subst e
                        refine Or.inr ⟨u4, f, g, hfn, hgn, hfg, u0, u2, ?_⟩
                        rw [u _ (by omega), u _ (by omega)]; exact h3
                      · rcases jo j hj with q | ⟨q, a', b', p1, p2, p3, p4, p5, p6⟩
                        · exact Or.inl (by rw [u _ (by omega)]; exact q)
                        · refine Or.inr ⟨by rw [u _ (by omega)]; exact q, a', b', p1, p2, p3, ?_, ?_, ?_⟩
                          · rw [u _ (by omega)]; exact p4
                          · rw [u _ (by omega)]; exact p5
                          · rw [u _ (by omega), u _ (by omega)]; exact p6
                · rw [if_neg (fun q => h3 q.2.2), if_neg h3]; exact same _
              · rw [if_neg (fun q => h2 q.2), if_neg h2]; exact same _
            · rw [if_neg (fun q => h1 q.2), if_neg h1]; exact same _
          · rw [if_neg hy, if_neg hy]; exact same _
        · rw [if_neg hx, if_neg hx]; exact same _
    · rw [if_neg hb', if_neg hb']; exact same _
  · rw [if_neg ha, if_neg ha]; exact same _
end FL2
