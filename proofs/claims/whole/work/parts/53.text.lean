/-! feed, letter -/
section TX
variable {n v : Nat} {fo ro ra vc os li mo mo0 bs bsa bsb : Mem} {x y z w : Int32} {s s' : Nat → Int32}
/-- the tape -/
def RTp (p : Nat) (bsa mo : Mem) : Prop := bsa 1 0 = nI p ∧ mo 3 0 = nI p ∧ ∀ j, j < p → bsa 0 j = mo 2 j ∧ -128 ≤ (mo 2 j).toInt ∧ (mo 2 j).toInt < 128
def RT (bsa mo : Mem) : Prop := ∃ p, p ≤ 320 ∧ RTp p bsa mo
theorem byte_rng (x : Int32) : -128 ≤ x.toInt8.toInt32.toInt ∧ x.toInt8.toInt32.toInt < 128 := by
  rw [Int8.toInt_toInt32]
  exact ⟨Int8.le_toInt _, Int8.toInt_lt _⟩
theorem byte_small : ∀ c : Nat, c < 128 → (nI c).toInt8.toInt32 = nI c := by decide
theorem By_append_s {p : Nat} (hp : p < 320) (e : bs 1 0 = nI p) : By_append bs x = some (upm (upm bs 0 p x.toInt8.toInt32) 1 0 (nI (p + 1))) := by
  unfold By_append
  rw [e, if_neg (nI_pos (by omega)), if_neg (show ¬ 320 ≤ nI p from nI_ge (b := 320) hp (by omega)), ckI_nI _ hp (by omega), nI_clamp (by omega), stk_r, stk_r, pk_vb, upm_n _ _ _ (show (1 : Nat) ≠ 0 by omega), e, nI_1]
theorem RTp_step {p : Nat} (h : RTp p bsa mo) : RTp (p + 1) (upm (upm bsa 0 p x.toInt8.toInt32) 1 0 (nI (p + 1))) (upm (upm mo 2 p x.toInt8.toInt32) 3 0 (nI (p + 1))) := by
  refine ⟨by rw [upm_0, pk_us], by rw [upm_0, pk_us], fun j hj => ?_⟩
  rw [upm_n _ _ _ (show (0 : Nat) ≠ 1 by omega), upm_0, upm_n _ _ _ (show (2 : Nat) ≠ 3 by omega), upm_0]
  by_cases e : j = p
  · subst e; rw [pk_us, pk_us]; exact ⟨rfl, byte_rng x⟩
  · rw [pk_un e, pk_un e]; exact h.2.2 j (by omega)
theorem shr0 (x : Int32) : x >>> ((8 * nI 0) &&& 31) = x := by
  apply Int32.toInt_inj.mp
  rw [pk_shr x _ 0 (by decide)]
  simp
theorem four_s {p : Nat} (h : RTp p bsa mo) (hp : p + 4 ≤ 320) : ∃ bsa' mo', By_appendFour bsa x = some bsa' ∧ Mo_typed4 mo x = some mo' ∧ RTp (p + 4) bsa' mo' ∧ mo' 0 = mo 0 ∧ mo' 1 = mo 1 ∧ mo' 21 = mo 21 := by
  have st : ∀ (q k : Nat) (m : Mem), q < 320 → k < 4 → m 3 0 = nI q → ∀ K, Mo_typed4_b2B x K m (nI k) = K (upm (upm m 2 q (x >>> ((8 * nI k) &&& 31)).toInt8.toInt32) 3 0 (nI (q + 1))) (nI k + -1) := fun q k m hq hk e K => by
    unfold Mo_typed4_b2B
    rw [if_neg (nI_pos (by omega)), e, ckI_nI _ hq (by omega), nI_clamp (by omega), stk_r, stk_r, stk_r, pk_vb, upm_n _ _ _ (show (3 : Nat) ≠ 2 by omega), e, nI_1]
  have h1 := RTp_step (x := x >>> ((8 * nI 3) &&& 31)) h
  have h2 := RTp_step (x := x >>> ((8 * nI 2) &&& 31)) h1
  have h3 := RTp_step (x := x >>> ((8 * nI 1) &&& 31)) h2
  have h4 := RTp_step (x := x >>> ((8 * nI 0) &&& 31)) h3
  refine ⟨_, _, ?_, ?_, h4, ?_, ?_, ?_⟩
  · unfold By_appendFour
    rw [show (24 : Int32) &&& 31 = (8 * nI 3) &&& 31 from rfl, show (16 : Int32) &&& 31 = (8 * nI 2) &&& 31 from rfl, show (8 : Int32) &&& 31 = (8 * nI 1) &&& 31 from rfl, By_append_s (by omega) h.1, bn1_r, By_append_s (by omega) h1.1, bn1_r, By_append_s (by omega) h2.1, bn1_r, By_append_s (by omega) h3.1, bn1_r, shr0]
  · unfold Mo_typed4
    obtain ⟨N, hN⟩ : ∃ N, fl = N + 5 := ⟨999995, by rw [fl_v]⟩
    rw [hN]
    show Mo_typed4_b2B x (Mo_typed4_b2B x (Mo_typed4_b2B x (Mo_typed4_b2B x (Mo_typed4_b2B x (Mo_typed4_b2 x N))))) mo (nI 3) = _
    rw [st p 3 mo (by omega) (by omega) h.2.1, show nI 3 + -1 = nI 2 from rfl, st (p + 1) 2 _ (by omega) (by omega) h1.2.1, show nI 2 + -1 = nI 1 from rfl, st (p + 2) 1 _ (by omega) (by omega) h2.2.1, show nI 1 + -1 = nI 0 from rfl, st (p + 3) 0 _ (by omega) (by omega) h3.2.1]
    unfold Mo_typed4_b2B
    rw [if_pos (by decide)]
  · simp only [upm_x, reduceIte, Nat.reduceEqDiff]
  · simp only [upm_x, reduceIte, Nat.reduceEqDiff]
  · simp only [upm_x, reduceIte, Nat.reduceEqDiff]
theorem q_feed {a b c d e : Int32} (h : RT bsa mo) : ∃ r bsa' mo', St_feed bsa a b c d e = some (r, bsa') ∧ Mo_feed mo a b c d e = some (r, mo') ∧ RT bsa' mo' ∧ mo' 0 = mo 0 ∧ mo' 1 = mo 1 ∧ mo' 21 = mo 21 := by
  obtain ⟨p, hp, h⟩ := h
  unfold St_feed Mo_feed
  rw [h.1, h.2.1, show (20 : Int32) = nI 20 from rfl, nI_add, show (320 : Int32) = nI 320 from rfl]
  by_cases q : p + 20 ≤ 320
  · rw [if_pos (nI_le q (by omega)), if_pos (nI_le q (by omega))]
    obtain ⟨b1, m1, x1, y1, z1, w1⟩ := four_s (x := a) h (by omega)
    obtain ⟨b2, m2, x2, y2, z2, w2⟩ := four_s (x := b) z1 (by omega)
    obtain ⟨b3, m3, x3, y3, z3, w3⟩ := four_s (x := c) z2 (by omega)
    obtain ⟨b4, m4, x4, y4, z4, w4⟩ := four_s (x := d) z3 (by omega)
    obtain ⟨b5, m5, x5, y5, z5, w5⟩ := four_s (x := e) z4 (by omega)
    rw [x1, bn1_r, x2, bn1_r, x3, bn1_r, x4, bn1_r, x5, bn1_r, y1, bn1_r, y2, bn1_r, y3, bn1_r, y4, bn1_r, y5, bn1_r, z5.1, z5.2.1]
    exact ⟨_, b5, m5, rfl, rfl, ⟨_, by omega, z5⟩, by rw [w5.1, w4.1, w3.1, w2.1, w1.1], by rw [w5.2.1, w4.2.1, w3.2.1, w2.2.1, w1.2.1], by rw [w5.2.2, w4.2.2, w3.2.2, w2.2.2, w1.2.2]⟩
  · rw [if_neg (nI_ge (by omega) (by omega)), if_neg (nI_ge (by omega) (by omega))]
    exact ⟨_, bsa, mo, rfl, rfl, ⟨p, hp, h⟩, rfl, rfl, rfl⟩
/-! letter -/
def LR (p : Nat) (bs mo : Mem) (k : Int32) : Prop := bs 1 0 = nI p ∧ mo 10 0 = nI p ∧ mo 11 0 = k ∧ ∀ j, j < p → k = nI j → mo 12 0 = bs 0 j &&& 255
theorem and255 {c : Nat} (h : c < 128) : nI c &&& 255 = nI c := by
  rw [pk_andN (by omega) 8 (by decide), Nat.mod_eq_of_lt (by omega)]
theorem wr {p c : Nat} {k : Int32} (h : LR p bs mo k) (hp : p < 320) (hc : c < 128) : ∃ bs' mo', By_append bs (nI c) = some bs' ∧ Mo_writes mo (nI c) = some mo' ∧ LR (p + 1) bs' mo' k ∧ mo' 0 = mo 0 ∧ KP mo mo' := by
  obtain ⟨h1, h2, h3, h4⟩ := h
  have hb : ∀ j, j < p + 1 → upm (upm bs 0 p (nI c)) 1 0 (nI (p + 1)) 0 j = if j = p then nI c else bs 0 j := fun j hj => by
    rw [upm_n _ _ _ (show (0 : Nat) ≠ 1 by omega), upm_0]
    by_cases e : j = p
    · subst e; rw [pk_us, if_pos rfl]
    · rw [pk_un e, if_neg e]
  unfold Mo_writes Mo_writes_b16
  rw [By_append_s hp h1, byte_small c hc, h2, h3]
  by_cases q : nI p = k
  · rw [if_pos q, stk_r, stk_r, upm_n _ _ _ (show (10 : Nat) ≠ 12 by omega), h2, nI_1]
    refine ⟨_, _, rfl, rfl, ⟨by rw [upm_0, pk_us], by rw [upm_0, pk_us], by rw [upm_n _ _ _ (by omega), upm_n _ _ _ (by omega)]; exact h3, fun j hj e => ?_⟩, by rw [upm_n _ _ _ (by omega), upm_n _ _ _ (by omega)], (KP.um (by omega)).tr (KP.um (by omega))⟩
    have ej : j = p := by rw [← q] at e; exact ((nI_eq (by omega) (by omega)).mp e).symm
    rw [hb j hj, if_pos ej, upm_n _ _ _ (show (12 : Nat) ≠ 10 by omega), upm_0, pk_us, and255 hc]
  · rw [if_neg q, stk_r, nI_1]
    refine ⟨_, _, rfl, rfl, ⟨by rw [upm_0, pk_us], by rw [upm_0, pk_us], by rw [upm_n _ _ _ (by omega)]; exact h3, fun j hj e => ?_⟩, by rw [upm_n _ _ _ (by omega)], KP.um (by omega)⟩
    have ej : j ≠ p := fun z => q (by rw [e, z])
    rw [hb j hj, if_neg ej, upm_n _ _ _ (show (12 : Nat) ≠ 10 by omega)]
    exact h4 j (by omega) e
theorem wn {p c : Nat} {k : Int32} (h : LR p bs mo k) (hp : p + 3 ≤ 320) (hc : c < 1000) : ∃ q bs' mo', (q ≤ 3 ∧ (c < 10 → q ≤ 1)) ∧ By_appendNumber bs (nI c) = some bs' ∧ Mo_writesNumber mo (nI c) = some mo' ∧ LR (p + q) bs' mo' k ∧ mo' 0 = mo 0 ∧ KP mo mo' := by
  have d3 : (48 : Int32) + (nI c - nI c / 10 * 10) = nI (48 + c % 10) := by
    rw [show (48 : Int32) = nI 48 from rfl, show (10 : Int32) = nI 10 from rfl, pk_rem (by omega) (by omega) (by omega), nI_add]
  have d2 : (48 : Int32) + (nI c / 10 - nI c / 10 / 10 * 10) = nI (48 + c / 10 % 10) := by
    rw [show (48 : Int32) = nI 48 from rfl, show (10 : Int32) = nI 10 from rfl, pk_div (by omega) (by omega) (by omega), pk_rem (by omega) (by omega) (by omega), nI_add]
  have d1 : (48 : Int32) + nI c / 100 = nI (48 + c / 100) := by
    rw [show (48 : Int32) = nI 48 from rfl, show (100 : Int32) = nI 100 from rfl, pk_div (by omega) (by omega) (by omega), nI_add]
  have last : ∀ {p : Nat} {bs mo : Mem}, LR p bs mo k → p < 320 → ∃ bs' mo', By_appendNumber_b37 (nI c) bs = some bs' ∧ Mo_writesNumber_b37 (nI c) mo = some mo' ∧ LR (p + 1) bs' mo' k ∧ mo' 0 = mo 0 ∧ KP mo mo' := fun h hp => by
    obtain ⟨b1, m1, x1, y1, z1, w1⟩ := wr (c := 48 + c % 10) h hp (by omega)
    refine ⟨b1, m1, ?_, ?_, z1, w1⟩
    · unfold By_appendNumber_b37; rw [d3, x1, bn1_r]
    · unfold Mo_writesNumber_b37; rw [d3, y1, bn1_r]
  have mid : ∀ {p : Nat} {bs mo : Mem}, LR p bs mo k → p + 2 ≤ 320 → ∃ q bs' mo', (q ≤ 2 ∧ (c < 10 → q ≤ 1)) ∧ By_appendNumber_b17 (nI c) bs = some bs' ∧ Mo_writesNumber_b17 (nI c) mo = some mo' ∧ LR (p + q) bs' mo' k ∧ mo' 0 = mo 0 ∧ KP mo mo' := fun h hp => by
    unfold By_appendNumber_b17 Mo_writesNumber_b17
    rw [d2, show (10 : Int32) = nI 10 from rfl, show (9 : Int32) = nI 9 from rfl]
    by_cases q : c < 10
    · rw [if_pos (nI_lt q (by omega)), if_pos (nI_le (by omega) (by omega))]
      obtain ⟨b1, m1, x1, y1, z1, w1⟩ := last h (by omega)
      exact ⟨1, b1, m1, by omega, x1, y1, z1, w1⟩
    · rw [if_neg (nI_nlt (by omega) (by omega)), if_neg (nI_ge (by omega) (by omega))]
      obtain ⟨b1, m1, x1, y1, z1, w1, w1'⟩ := wr (c := 48 + c / 10 % 10) h (by omega) (by omega)
      obtain ⟨b2, m2, x2, y2, z2, w2, w2'⟩ := last z1 (by omega)
      rw [x1, bn1_r, y1, bn1_r]
      exact ⟨2, b2, m2, by omega, x2, y2, z2, w2.trans w1, w1'.tr w2'⟩
  unfold By_appendNumber Mo_writesNumber
  rw [d1, show (100 : Int32) = nI 100 from rfl, show (99 : Int32) = nI 99 from rfl]
  by_cases q : c < 100
  · rw [if_pos (nI_lt q (by omega)), if_pos (nI_le (by omega) (by omega))]
    obtain ⟨t, b1, m1, x0, x1, y1, z1, w1⟩ := mid h (by omega)
    exact ⟨t, b1, m1, by omega, x1, y1, z1, w1⟩
  · rw [if_neg (nI_nlt (by omega) (by omega)), if_neg (nI_ge (by omega) (by omega))]
    obtain ⟨b1, m1, x1, y1, z1, w1, w1'⟩ := wr (c := 48 + c / 100) h (by omega) (by omega)
    obtain ⟨t, b2, m2, x0, x2, y2, z2, w2, w2'⟩ := mid z1 (by omega)
    rw [x1, bn1_r, y1, bn1_r]
    rw [Nat.add_assoc] at z2
    exact ⟨1 + t, b2, m2, by omega, x2, y2, z2, w2.trans w1, w1'.tr w2'⟩
theorem fl_txt {f p : Nat} {k : Int32} (hR : RF n v fo ro ra vc os li (mo 0)) (hf : f < n) (h : LR p bs mo k) (hp : p + 12 ≤ 320) {k7 : Mem → Int32 → Option Mem} {k19 : Mem → Int32 → Option (Int32 × Mem)} : ∃ q bs' mo', q ≤ 10 ∧ Ro_writeTo_b31 ro k7 bs (nI f) = k7 bs' (nI (f + 1)) ∧ Mo_letter_b41 k k19 mo (nI f) = k19 mo' (nI (f + 1)) ∧ LR (p + q) bs' mo' k ∧ mo' 0 = mo 0 ∧ KP mo mo' := by
  have hn := hR.1.n20
  obtain ⟨a, b, c, d, e1, e2, e3, e4, e5, e6, e7, e8, e9⟩ := hR.2.2.2.2.2.2.2.1 f hf
  have cw : ∀ {m : Mem}, m 0 = mo 0 → (Mo_of m (nI f) 0 = some (nI a) ∧ Mo_of m (nI f) 1 = some (nI b) ∧ Mo_of m (nI f) 2 = some (nI c) ∧ Mo_of m (nI f) 3 = some (nI d)) := fun {m} e => by
    rw [Mo_of_0 (by omega), Mo_of_1 (by omega), Mo_of_2 (by omega), Mo_of_3 (by omega), e, e1, e3, e5, e7]
    exact ⟨rfl, rfl, rfl, rfl⟩
  obtain ⟨b1, m1, x1, y1, z1, w1, v1⟩ := wr (c := 97 + a) h (by omega) (by omega)
  obtain ⟨t2, b2, m2, s2, x2, y2, z2, w2, v2⟩ := wn (c := b) z1 (by omega) (by omega)
  obtain ⟨b3, m3, x3, y3, z3, w3, v3⟩ := wr (c := 47) z2 (by omega) (by omega)
  obtain ⟨t4, b4, m4, s4, x4, y4, z4, w4, v4⟩ := wn (c := c) z3 (by omega) (by omega)
  have l1 : m1 0 = mo 0 := w1
  have l2 : m2 0 = mo 0 := w2.trans l1
  have l3 : m3 0 = mo 0 := w3.trans l2
  have l4 : m4 0 = mo 0 := w4.trans l3
  have kp4 : KP mo m4 := ((v1.tr v2).tr v3).tr v4
  have e97 : (97 : Int32) + nI a = nI (97 + a) := by rw [show (97 : Int32) = nI 97 from rfl, nI_add]
  unfold Ro_writeTo_b31 Mo_letter_b41
  rw [ckI_nI _ (by omega) (by omega), nI_clamp (by omega), hR.1.ln hf, hR.1.et hf, hR.1.tm hf, hR.1.wt hf, e1, e3, e5, e7, e97, x1, bn1_r, x2, bn1_r, show (47 : Int32) = nI 47 from rfl, x3, bn1_r, x4, bn1_r, (cw rfl).1, bn1_r, e97, y1, bn1_r, (cw l1).2.1, bn1_r, y2, bn1_r, y3, bn1_r, (cw l3).2.2.1, bn1_r, y4, bn1_r, (cw l4).2.2.2, bn1_r]
  by_cases q : d ≤ 1
  · rw [if_pos (show nI d ≤ 1 from nI_le (b := 1) q (by omega)), if_pos (show nI d ≤ 1 from nI_le (b := 1) q (by omega)), stk_r, stk_r, nI_1]
    refine ⟨1 + t2 + 1 + t4, b4, m4, by omega, rfl, rfl, ?_, l4, kp4⟩
    rw [show p + (1 + t2 + 1 + t4) = p + 1 + t2 + 1 + t4 by omega]
    exact z4
  · obtain ⟨b5, m5, x5, y5, z5, w5, v5⟩ := wr (c := 42) z4 (by omega) (by omega)
    obtain ⟨t6, b6, m6, s6, x6, y6, z6, w6, v6⟩ := wn (c := d) z5 (by omega) (by omega)
    have l5 : m5 0 = mo 0 := w5.trans l4
    rw [if_neg (show ¬ nI d ≤ 1 from nI_ge (a := 1) (by omega) (by omega)), if_neg (show ¬ nI d ≤ 1 from nI_ge (a := 1) (by omega) (by omega)), show (42 : Int32) = nI 42 from rfl, x5, bn1_r, x6, bn1_r, stk_r, nI_1, y5, bn1_r, (cw l5).2.2.2, bn1_r, y6, bn1_r, stk_r]
    refine ⟨1 + t2 + 1 + t4 + 1 + t6, b6, m6, by omega, rfl, rfl, ?_, w6.trans l5, (kp4.tr v5).tr v6⟩
    rw [show p + (1 + t2 + 1 + t4 + 1 + t6) = p + 1 + t2 + 1 + t4 + 1 + t6 by omega]
    exact z6
def ltE (p : Int32) (m : Mem) : Option (Int32 × Mem) := if p = -1 then some (m 10 0, m) else if m 10 0 ≤ p then some (-2, m) else some (m 12 0, m)
theorem letter_l {k : Int32} : ∀ (r f N N' p : Nat) (bs mo : Mem), f + r = n → r < N → r < N' → p ≤ 11 * f → RF n v fo ro ra vc os li (mo 0) → LR p bs mo k → ∃ q bs' mo', q ≤ 11 * n ∧ Ro_writeTo_b7 ro N bs (nI f) = some bs' ∧ Mo_letter_b19 k N' mo (nI f) = ltE k mo' ∧ LR q bs' mo' k ∧ mo' 0 = mo 0 ∧ KP mo mo'
  | 0, f, N + 1, N' + 1, p, bs, mo, hf, _, _, hp, hR, h => by
    have hn := hR.1.n20
    have e : f = n := by omega
    subst e
    refine ⟨p, bs, mo, hp, ?_, ?_, h, rfl, KP.rf⟩
    · show Ro_writeTo_b7B ro (Ro_writeTo_b7 ro N) bs (nI f) = _
      unfold Ro_writeTo_b7B
      rw [hR.1.rn, if_pos (nI_le (Nat.le_refl _) (by omega))]
    · show Mo_letter_b19B k (Mo_letter_b19 k N') mo (nI f) = _
      unfold Mo_letter_b19B
      rw [n173 (mo := mo), k173, hR.1.sn, if_pos (nI_le (Nat.le_refl _) (by omega))]
      rfl
  | r + 1, f, N + 1, N' + 1, p, bs, mo, hf, hN, hN', hp, hR, h => by
    have hn := hR.1.n20
    have go : ∀ (p : Nat) (bs m : Mem), p ≤ 11 * f + 1 → m 0 = mo 0 → LR p bs m k → ∃ q bs' mo', q ≤ 11 * n ∧ Ro_writeTo_b31 ro (Ro_writeTo_b7 ro N) bs (nI f) = some bs' ∧ Mo_letter_b41 k (Mo_letter_b19 k N') m (nI f) = ltE k mo' ∧ LR q bs' mo' k ∧ mo' 0 = mo 0 ∧ KP m mo' := fun p bs m hp e0 h => by
      obtain ⟨q, b1, m1, x0, x1, y1, z1, w1, v1⟩ := fl_txt (mo := m) (by rw [e0]; exact hR) (show f < n by omega) h (by omega) (k7 := Ro_writeTo_b7 ro N) (k19 := Mo_letter_b19 k N')
      obtain ⟨q2, b2, m2, o0, o1, o2, o3, o4, o5⟩ := letter_l r (f + 1) N N' (p + q) b1 m1 (by omega) (by omega) (by omega) (by omega) (by rw [w1, e0]; exact hR) z1
      exact ⟨q2, b2, m2, o0, by rw [x1]; exact o1, by rw [y1]; exact o2, o3, by rw [o4, w1, e0], v1.tr o5⟩
    have e1 : Ro_writeTo_b7 ro (N + 1) bs (nI f) = if nI f ≤ 0 then Ro_writeTo_b31 ro (Ro_writeTo_b7 ro N) bs (nI f) else bn1 (By_append bs 59) (fun b => Ro_writeTo_b31 ro (Ro_writeTo_b7 ro N) b (nI f)) := by
      show Ro_writeTo_b7B ro (Ro_writeTo_b7 ro N) bs (nI f) = _
      unfold Ro_writeTo_b7B
      rw [hR.1.rn, if_neg (nI_ge (by omega) (by omega)), if_neg (show ¬ 20 ≤ nI f from nI_ge (b := 20) (by omega) (by omega))]
    have e2 : Mo_letter_b19 k (N' + 1) mo (nI f) = if nI f ≤ 0 then Mo_letter_b41 k (Mo_letter_b19 k N') mo (nI f) else bn1 (Mo_writes mo 59) (fun m => Mo_letter_b41 k (Mo_letter_b19 k N') m (nI f)) := by
      show Mo_letter_b19B k (Mo_letter_b19 k N') mo (nI f) = _
      unfold Mo_letter_b19B
      rw [n173 (mo := mo), k173, hR.1.sn, if_neg (nI_ge (by omega) (by omega))]
    rw [e1, e2]
    by_cases q : f = 0
    · rw [if_pos (show nI f ≤ 0 from nI_le (b := 0) (by omega) (by omega)), if_pos (show nI f ≤ 0 from nI_le (b := 0) (by omega) (by omega))]
      exact go p bs mo (by omega) rfl h
    · obtain ⟨b1, m1, x1, y1, z1, w1, v1⟩ := wr (c := 59) h (by omega) (by omega)
      rw [if_neg (nI_nle (by omega) (by omega)), if_neg (nI_nle (by omega) (by omega)), show (59 : Int32) = nI 59 from rfl, x1, y1, bn1_r, bn1_r]
      obtain ⟨q, b2, m2, o0, o1, o2, o3, o4, o5⟩ := go (p + 1) b1 m1 (by omega) w1 z1
      exact ⟨q, b2, m2, o0, o1, o2, o3, o4, v1.tr o5⟩
theorem q_letter (h : RF n v fo ro ra vc os li (mo 0)) : ∃ r bsb' mo', St_letter bsb ro x = some (r, bsb') ∧ Mo_letter mo x = some (r, mo') ∧ RF n v fo ro ra vc os li (mo' 0) ∧ KP mo mo' := by
  have hn := h.1.n20
  unfold St_letter Mo_letter
  by_cases hx : (-1 : Int32) ≤ x
  · rw [if_pos hx, if_pos hx, stk_r, stk_r]
    have h0 : LR 0 (upm bsb 1 0 0) (upm (upm mo 10 0 0) 11 0 x) x := ⟨by rw [upm_0, pk_us]; rfl, by rw [upm_n _ _ _ (by omega), upm_0, pk_us]; rfl, by rw [upm_0, pk_us], fun j hj => by omega⟩
    have m0 : upm (upm mo 10 0 0) 11 0 x 0 = mo 0 := by rw [upm_n _ _ _ (by omega), upm_n _ _ _ (by omega)]
    obtain ⟨q, b1, m1, o0, o1, o2, o3, o4, o5⟩ := letter_l (ro := ro) (n := n) n 0 fl fl 0 _ _ (by omega) (by rw [fl_v]; omega) (by rw [fl_v]; omega) (by omega) (by rw [m0]; exact h) h0
    have w : Ro_writeTo ro bsb = some b1 := by
      unfold Ro_writeTo
      rw [stk_r]
      exact o1
    have o2' : Mo_letter_b19 x fl (upm (upm mo 10 0 0) 11 0 x) 0 = ltE x m1 := o2
    have kp : KP mo m1 := ((KP.um (by omega)).tr (KP.um (by omega))).tr o5
    have R1 : RF n v fo ro ra vc os li (m1 0) := by rw [o4, m0]; exact h
    rw [w, bn1_r, o2', o3.1]
    unfold ltE
    rw [o3.2.1]
    by_cases q1 : x = -1
    · rw [if_pos q1, if_pos q1]; exact ⟨_, b1, m1, rfl, rfl, R1, kp⟩
    · rw [if_neg q1, if_neg q1]
      obtain ⟨j, hj, rfl⟩ := nI_of (x := x) (fun z => by
        have h1 : x ≤ -1 := by
          apply Int32.le_iff_toInt_le.mpr
          have := Int32.lt_iff_toInt_lt.mp z
          have e0 : (0 : Int32).toInt = 0 := rfl
          have e1 : (-1 : Int32).toInt = -1 := rfl
          omega
        exact q1 (Int32.le_antisymm h1 hx))
      by_cases q2 : q ≤ j
      · rw [if_pos (nI_le q2 hj), if_pos (nI_le q2 hj)]; exact ⟨_, b1, m1, rfl, rfl, R1, kp⟩
      · rw [if_neg (nI_ge (by omega) (by omega)), if_neg (nI_ge (by omega) (by omega))]
        unfold By_byteAt
        rw [if_neg (nI_pos (by omega)), o3.1, if_neg (nI_ge (by omega) (by omega)), if_neg (show ¬ 320 ≤ nI j from nI_ge (b := 320) (by omega) (by omega)), ckI_nI _ (by omega) (by omega), nI_clamp (by omega), bn1_r, o3.2.2.2 j (by omega) rfl]
        exact ⟨_, b1, m1, rfl, rfl, R1, kp⟩
  · rw [if_neg hx, if_neg hx]
    exact ⟨_, bsb, mo, rfl, rfl, h, KP.rf⟩
end TX
