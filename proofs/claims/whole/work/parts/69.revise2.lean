/-! a plan revised: all of it -/
section R2
variable {n v m k c f : Nat} {fo ro ra vc os li mo pn : Mem} {x y z : Int32} {s s' s1 : Nat → Int32} {U D D0 S : Nat → Bool} {K e : Nat → Nat} {kd : Bool}
theorem mk_fa : mkS false D n s = s := funext (fun i => if_neg (fun z => Bool.noConfusion z.1))
theorem lu_tail : ∀ (r i : Nat), luN n s (n + r) i = luN n s n i
  | 0, _ => rfl
  | r + 1, i => by
    show (luN n s (n + r) i || (lB n s (n + r) && decide (s (8 * (n + r) + 4) = nI i))) = _
    have : lB n s (n + r) = false := decide_eq_false (fun z => by omega)
    rw [this, Bool.false_and, Bool.or_false, lu_tail r i]
theorem can_s (h : Rf n fo ro s) (h8 : fo 8 0 = nI (msk (gone n s1) 20)) (hf : f < 20) : Fi_isCancelled fo ro (nI f) = some (bI (f < n ∧ s1 (8 * f + 7) = 1)) := by
  unfold Fi_isCancelled
  rw [Fi_isFlight_s h hf, h8]
  simp only [bn1_r, bI_z, bit_ask (P := gone n s1) (k := 20) (Nat.le_refl 20) hf]
  by_cases hin : f < n
  · rw [if_pos hin]
    unfold gone
    by_cases q : s1 (8 * f + 7) = 1
    · rw [if_neg (by rw [decide_eq_true ⟨hin, q⟩]; decide), bI_t ⟨hin, q⟩]
    · rw [if_pos (decide_eq_false (fun z => q z.2)), bI_f (fun z => q z.2)]
  · rw [if_neg hin, bI_f (fun z => hin z.1)]
/-- those that stay on the ground -/
theorem rv_enq (h : Rf n fo ro s) (h8 : fo 8 0 = nI (msk (gone n s1) 20)) (hE : ∀ f, f < n → s (8 * f + 1) = nI (K f)) (hKb : ∀ f, f < 20 → K f < 10000) (hC : ∀ f, f < n → ((Air s f ∨ s1 (8 * f + 7) = 1) ↔ D0 f = true)) : ∀ (r k N m : Nat) (e : Nat → Nat) (pn : Mem), k + r = 20 → r < N → QS k (Cq n D0 (fun _ => true)) K m e pn → ∃ m' e' pn', Pl_planOn_b106 ro ra N pn fo vc os x (nI k) = bn3 (Pl_seatGrounded pn' fo ro ra) (fun r_23 pn_24 fo_25 => stk (x + r_23) (fun x2_26 => bn2 (Fi_clearMarket vc os) (fun vc_28 os_29 => some (x2_26, pn_24, fo_25, vc_28, os_29)))) ∧ QS 20 (Cq n D0 (fun _ => true)) K m' e' pn' ∧ pn' 2 = pn 2 ∧ pn' 3 = pn 3
  | 0, k, N + 1, m, e, pn, hk, _, hq => by
    have e1 : k = 20 := by omega
    subst e1
    refine ⟨m, e, pn, ?_, hq, rfl, rfl⟩
    show Pl_planOn_b106B ro ra (Pl_planOn_b106 ro ra N) pn fo vc os x (nI 20) = _
    unfold Pl_planOn_b106B
    rw [if_pos (by decide)]
  | r + 1, k, N + 1, m, e, pn, hk, hN, hq => by
    have hn := h.n20
    show ∃ m' e' pn', Pl_planOn_b106B ro ra (Pl_planOn_b106 ro ra N) pn fo vc os x (nI k) = _ ∧ _
    unfold Pl_planOn_b106B
    rw [if_neg (show ¬ 20 ≤ nI k from nI_ge (b := 20) (by omega) (by omega)), Fi_isFlight_s h (by omega), bn1_r, bI_z]
    have no : Cq n D0 (fun _ => true) k = false → ∃ m' e' pn', Pl_planOn_b106 ro ra N pn fo vc os x (nI (k + 1)) = bn3 (Pl_seatGrounded pn' fo ro ra) (fun r_23 pn_24 fo_25 => stk (x + r_23) (fun x2_26 => bn2 (Fi_clearMarket vc os) (fun vc_28 os_29 => some (x2_26, pn_24, fo_25, vc_28, os_29)))) ∧ QS 20 (Cq n D0 (fun _ => true)) K m' e' pn' ∧ pn' 2 = pn 2 ∧ pn' 3 = pn 3 := fun hc => rv_enq h h8 hE hKb hC r (k + 1) N m e pn (by omega) (by omega) (hq.no hc)
    by_cases q : k < n
    · have dn : D0 k = true → Cq n D0 (fun _ => true) k = false := fun z => by
        show (decide (k < n) && (!D0 k && true)) = false
        rw [z]; exact Bool.and_false _
      rw [if_pos q, Fi_isAloft_s h (by omega), bn1_r, bI_z]
      by_cases q2 : k < n ∧ Air s k
      · rw [if_pos q2, stk_r, nI_1]
        exact no (dn ((hC k q).mp (Or.inl q2.2)))
      · rw [if_neg q2, can_s h h8 (by omega), bn1_r, bI_z]
        by_cases q3 : k < n ∧ s1 (8 * k + 7) = 1
        · rw [if_pos q3, stk_r, nI_1]
          exact no (dn ((hC k q).mp (Or.inr q3.2)))
        · have dk : D0 k = false := by
            cases z : D0 k with
            | false => rfl
            | true =>
              rcases (hC k q).mpr z with z1 | z1
              · exact absurd ⟨q, z1⟩ q2
              · exact absurd ⟨q, z1⟩ q3
          obtain ⟨e', pn', a1, a2, a3, a4⟩ := hq.add (cq_of q dk rfl) (by omega) hKb
          obtain ⟨m2, e2, pn2, b1, b2, b3, b4⟩ := rv_enq h h8 hE hKb hC r (k + 1) N (m + 1) e' pn' (by omega) (by omega) a2
          rw [if_neg q3, ckI_nI _ (by omega) (by omega), nI_clamp (by omega), h.et q, hE k q, a1, bn1_r, stk_r, nI_1]
          exact ⟨m2, e2, pn2, b1, b2, by rw [b3, a3], by rw [b4, a4]⟩
    · rw [if_neg q, stk_r, nI_1]
      exact no (by
        show (decide (k < n) && (!D0 k && true)) = false
        rw [decide_eq_false q]; rfl)
theorem b125_s {N b h t : Nat} (hf : f < 20) (h5 : mo 0 (8 * f + 5) = nI h) (h1 : mo 0 (8 * f + 1) = nI b) (ht : mo 0 172 = nI t) (hb : b + h < 2000) (ht' : t < 2000) (hk : Mo_takesFrom mo (nI (max (b + h) (t + 1))) = some (nI k, upm mo 13 k 1)) : Mo_revises_b125 (N + 1) mo (nI f) = bn1 (Mo_firstOf (stM mo k f (avS (mo 0) f (nI k) (nI h))) 2 3 (-1)) (fun r => Mo_revises_b125 N (stM mo k f (avS (mo 0) f (nI k) (nI h))) r) := by
  show Mo_revises_b125B (Mo_revises_b125 N) mo (nI f) = _
  unfold Mo_revises_b125B
  have e0 : upm mo 13 k 1 0 = mo 0 := upm_n _ _ _ (by omega)
  rw [if_neg (show ¬ nI f = -1 from fun z => by rw [nI_eqm (by omega)] at z; exact z), Mo_of_1 hf, bn1_r, Mo_of_5 hf, bn1_r, stk_r, n172 (mo := mo), k172, h1, h5, ht, nI_add, nI_1, Mo_more_s, bn1_r, mx_nI (by omega) (by omega), hk, bn2_r, show (4 : Int32) = nI 4 from rfl, Mo_sets_s (by omega), bn1_r, show (6 : Int32) = nI 6 from rfl, Mo_sets_s (by omega), bn1_r, ckI_nI _ (by omega) (by omega), nI_clamp (by omega), stk_r]
  simp only [upA_0, upA_A, e0]
  have e1 : upd (upd (mo 0) (8 * f + 4) (nI k)) (8 * f + 6) (nI k - nI (b + h)) = avS (mo 0) f (nI k) (nI h) := by
    unfold avS
    rw [h1, nI_add]
    funext i
    by_cases q6 : i = 8 * f + 6
    · subst q6; rw [pk_us, pk_us]
    · rw [pk_un q6, pk_un q6]
      by_cases q5 : i = 8 * f + 5
      · subst q5; rw [pk_us, pk_un (by omega)]; exact h5
      · rw [pk_un q5]
  rw [e1]
  rfl
def IRv (n : Nat) (s1 : Nat → Int32) (D : Nat → Bool) (mo : Mem) : Prop := IA n s1 D mo ∧ ∀ f, f < n → SA s1 f = true → mo 0 (8 * f + 5) = s1 (8 * f + 5)
def IGv (n : Nat) (s1 : Nat → Int32) (D : Nat → Bool) (mo : Mem) : Prop := IA n s1 D mo ∧ ∀ f, f < n → D f = false → s1 (8 * f + 7) = 0
theorem air_eq (h : IA n s1 D mo) (hf : f < n) (hd : D f = false) : Air (mo 0) f ↔ Air s1 f := by
  have r := (h.1 f hf).2.2.1 hd
  unfold Air Pd goS
  rw [r 4 (by omega), r 7 (by omega), r 1 (by omega), r 2 (by omega), r 5 (by omega), h.n172]
theorem hFr (hn : n ≤ 20) (j : J n s1) (D : Nat → Bool) (mo : Mem) (hI : IRv n s1 D mo) (hd : ∀ f, f < 20 → mo 14 f = if D f then 1 else 0) (hs : mo 0 173 = nI n) : Mo_firstOf mo 2 3 (-1) = some (bk (fun f => !D f && SA s1 f) (kR n s1) n) := by
  have h := hI.1
  refine firstOf_g hn hs (fo_hc (c := SA s1) (S := SA s1) hn hs hd (fun f hf hdf k6 x4 => ?_)) (fun f g hf hg cf cg => ?_)
  · unfold Mo_firstOf_b48
    rw [if_neg (by decide), if_neg (by decide), if_pos rfl, Mo_isAir_s (by omega), bn1_r]
    unfold SA
    by_cases q : Air s1 f
    · rw [bI_t ((air_eq h hf hdf).mpr q), if_pos (decide_eq_true q)]
    · have nz : ¬ decide (Air s1 f) = true := fun z => q (of_decide_eq_true z)
      rw [bI_f (fun z => q ((air_eq h hf hdf).mp z)), b122_0, if_neg nz]
  · have d1 : (!D f) = true ∧ SA s1 f = true := Bool.and_eq_true _ _ ▸ cf
    have d2 : (!D g) = true ∧ SA s1 g = true := Bool.and_eq_true _ _ ▸ cg
    have a1 : Air s1 f := of_decide_eq_true d1.2
    have a2 : Air s1 g := of_decide_eq_true d2.2
    obtain ⟨v1, v2, v3, v4, -⟩ := air_v j hf a1
    obtain ⟨w1, w2, w3, w4, -⟩ := air_v j hg a2
    have k1 : kR n s1 f = etN s1 f + hoN s1 f := if_pos ⟨hf, a1⟩
    have k2 : kR n s1 g = etN s1 g + hoN s1 g := if_pos ⟨hg, a2⟩
    unfold Mo_isAhead Mo_isAhead_b41 Mo_isAhead_b62 Mo_isAhead_b86
    rw [if_neg (by decide), Mo_of_1 (by omega), bn1_r, if_pos rfl, Mo_of_5 (by omega), bn1_r, stk_r, Mo_of_1 (by omega), bn1_r, if_pos rfl, Mo_of_5 (by omega), bn1_r, stk_r, (h.1 f hf).1 1 (by omega), (h.1 g hg).1 1 (by omega), hI.2 f hf d1.2, hI.2 g hg d2.2, v1, v3, w1, w3, nI_add, nI_add, k1, k2]
    by_cases q : etN s1 f + hoN s1 f < etN s1 g + hoN s1 g
    · rw [if_neg (nI_ge q (by omega)), bI_t q]
    · rw [if_pos (nI_le (by omega) (by omega)), bI_f q]
theorem hFg (hn : n ≤ 20) (j : Jf n s1) (hK : ∀ f, f < n → K f = etN s1 f) (D : Nat → Bool) (mo : Mem) (hI : IGv n s1 D mo) (hd : ∀ f, f < 20 → mo 14 f = if D f then 1 else 0) (hs : mo 0 173 = nI n) : Mo_firstOf mo 3 0 (-1) = some (bk (fun f => !D f && (fun _ => true) f) K n) := by
  have h := hI.1
  refine firstOf_g hn hs (fo_hc (c := fun _ => true) (S := fun _ => true) hn hs hd (fun f hf _ k6 x4 => ?_)) (fun f g hf hg _ _ => ?_)
  · unfold Mo_firstOf_b48
    rw [if_neg (by decide), if_neg (by decide), if_neg (by decide), if_pos rfl]
  · rw [ah_0 hn (h.jf j) (by decide) (by decide) f g hf hg, h.et hf, h.et hg, hK f hf, hK g hg]
theorem cn_disj3 {P Q R : Nat → Bool} : ∀ k, (∀ i, i < k → ¬ (P i = true ∧ Q i = true) ∧ ¬ (P i = true ∧ R i = true) ∧ ¬ (Q i = true ∧ R i = true)) → cn P k + cn Q k + cn R k ≤ k
  | 0, _ => by show 0 + 0 + 0 ≤ 0; omega
  | k + 1, h => by
    have h1 := cn_disj3 k (fun i hi => h i (by omega))
    obtain ⟨h2, h3, h4⟩ := h k (by omega)
    show cn P k + (if P k = true then 1 else 0) + (cn Q k + (if Q k = true then 1 else 0)) + (cn R k + (if R k = true then 1 else 0)) ≤ k + 1
    by_cases p : P k = true
    · rw [if_pos p, if_neg (fun q => h2 ⟨p, q⟩), if_neg (fun q => h3 ⟨p, q⟩)]; omega
    · rw [if_neg p]
      by_cases q : Q k = true
      · rw [if_pos q, if_neg (fun r => h4 ⟨q, r⟩)]; omega
      · rw [if_neg q]; split <;> omega
theorem planOn_s {M : Nat} (h : RF n v fo ro ra vc os li (mo 0)) (hM : PM M pn) (hMb : M < 2 ^ 30) : ∃ x pn' fo' vc' os' mo', Pl_planOn pn fo ro ra vc os = some (x, pn', fo', vc', os') ∧ Mo_revises mo = some mo' ∧ RF n 0 fo' ro ra vc' os' li (mo' 0) ∧ KP mo mo' ∧ PM (M + 1) pn' ∧ mo' 1 = mo 1 ∧ x = sT (fo 5) n fo' ∧ (∀ f, f < n → mo' 15 f = fo 5 f) ∧ ∀ f, f < n → ¬ Pd (mo' 0) f → fo 5 f = -1 := by
  obtain ⟨hF, hr, hb, hv, ho, hl, j⟩ := id h
  obtain ⟨jt, jf, jg, jp, jd, jv, jr, jo, jl⟩ := id j
  have hn := hF.n20
  obtain ⟨t, t1, t2⟩ := jt.1
  obtain ⟨mo1, b1, b2, b3, b4, b5, -, b7⟩ := Mo_begins_s (mo := mo)
  obtain ⟨mo2, d1, d2, d3, d4, d5, d6, d7⟩ := rv_mo hn hF.sn j n 0 fl mo1 (by omega) (by rw [fl_v]; omega) b4 (fun f hf => by omega) (fun f hf => by rw [b3 f hf, decide_eq_false (Nat.not_lt_zero f)]; rfl) (fun i hi => by rw [b2 i hi]; rfl)
  have s1e : ∃ s1, s1 = mo 0 := ⟨_, rfl⟩
  obtain ⟨s1, hs1⟩ := s1e
  rw [← hs1] at hF hr hb hl j jt jf jg jp jd jr jl t2 d2 d3 d4 d5
  have pe : ∃ p1, p1 = upm (upm pn 3 0 (nI (M + 1))) 1 0 0 := ⟨_, rfl⟩
  obtain ⟨pn1, hpn1⟩ := pe
  have p12 : pn1 2 = pn 2 := by rw [hpn1, upm_n _ _ _ (by omega), upm_n _ _ _ (by omega)]
  have p13 : pn1 3 0 = nI (M + 1) := by rw [hpn1, upm_n _ _ _ (by omega), upm_0, pk_us]
  have p11 : pn1 1 0 = 0 := by rw [hpn1, upm_0, pk_us]
  have u0 := UR0 (mo := mo1) hM hMb p12 p13 b2
  obtain ⟨m1, e1, pnA, q1, q2, q3, q4, q5⟩ := rv_cl (ra := ra) (vc := vc) (os := os) hF j 20 0 fl 0 (fun _ => 0) pn1 (by omega) (by rw [fl_v]; omega) (QS.zero p11) (fun i hi => u0.1 i hi)
  have lu20 : ∀ i, luN n s1 20 i = luN n s1 n i := fun i => by
    have := lu_tail (n := n) (s := s1) (20 - n) i
    rw [show n + (20 - n) = 20 by omega] at this
    exact this
  have dRf : ∀ f, (decide (f < n) && dR n s1 f) = dR n s1 f := fun f => by
    by_cases q : f < n
    · rw [decide_eq_true q, Bool.true_and]
    · have z : dR n s1 f = false := by
        show (decide (f < n ∧ s1 (8 * f + 7) = 1) || lB n s1 f) = false
        have : lB n s1 f = false := decide_eq_false (fun z => q z.1)
        rw [this, decide_eq_false (fun z => q z.1)]; rfl
      rw [z, Bool.and_false]
  have dRt : ∀ f, f < n → dR n s1 f = true → s1 (8 * f + 7) = 1 ∨ lB n s1 f = true := fun f hf z => by
    rcases Bool.or_eq_true _ _ ▸ (show (decide (f < n ∧ s1 (8 * f + 7) = 1) || lB n s1 f) = true from z) with z | z
    · exact Or.inl (of_decide_eq_true z).2
    · exact Or.inr z
  have P0 : PSt false n (luN n s1 20) (dR n s1) (cn (lB n s1) 20) pnA fo ro ra mo2 := by
    have mP : ∀ f, f < n → dR n s1 f = true → Pd s1 f → lB n s1 f = true := fun f hf hd hp => by
      rcases dRt f hf hd with z | z
      · rw [hp.2] at z; exact absurd z (by decide)
      · exact z
    refine ⟨⟨q3, fun k hk => by rw [lu20]; exact d5 k hk⟩, lu_cn j 20, fun f hf => by rw [d4 f hf, dRf], ?_, ?_, ?_, ?_, ?_, ?_⟩
    · rw [mk_fa, d2]; exact hF
    · rw [d2]; exact hr
    · rw [d2]; exact jr
    · rw [d2]; exact jf
    · rw [d2]; exact jt.1
    · rw [d2]
      refine ⟨fun f hf hd hp => ⟨jp f hf hp, ?_⟩, fun f g hf hg _ _ hp hq => jd f g hf hg hp hq⟩
      have lk := mP f hf hd hp
      have lk' := of_decide_eq_true lk
      obtain ⟨-, -, -, -, v5, v6, -⟩ := air_v j hf lk'.2.1
      exact ⟨slN s1 f, v6, v5, lu_in (by omega) lk v5⟩
  have I0 : IRv n s1 (dR n s1) mo2 := by
    refine ⟨⟨fun f hf => ?_, fun i _ => by rw [d2]⟩, fun f hf _ => by rw [d2]⟩
    rw [d2]
    refine ⟨fun _ _ => rfl, fun hd hz => ?_, fun _ _ _ => rfl, fun _ _ _ => rfl⟩
    rcases dRt f hf hd with z | z
    · rw [hz] at z; exact absurd z (by decide)
    · exact (of_decide_eq_true z).2.1.1.1
  have Kb : ∀ f, f < 20 → kR n s1 f < 10000 := fun f hf => by
    unfold kR
    by_cases q : f < n ∧ Air s1 f
    · rw [if_pos q]; have := (air_v j q.1 q.2).2.2.2.1; omega
    · rw [if_neg q]; omega
  have m1b : m1 ≤ 20 := by rw [q2.2.1]; exact cn_le _ _
  have cb1 : cn (lB n s1) 20 + m1 ≤ 20 := by
    rw [q2.2.1]
    refine cn_disj 20 (fun i _ z => ?_)
    have z2 := (cq_t z.2).2.1
    have : dR n s1 i = true := by show (_ || lB n s1 i) = true; rw [z.1, Bool.or_true]
    rw [this] at z2
    exact Bool.noConfusion z2
  obtain ⟨pnB, fo2, mo3, x2, o1, o2, ⟨⟨U2, P2⟩, I2, g3, g4, g5, g6, g7, g9, g8⟩, o4⟩ := air_loop (kd := false) (ro := ro) (ra := ra) (n := n) (L := Mo_revises_b125) (FIN := fun mo => bn1 (Mo_firstOf mo 3 0 (-1)) (fun r => Mo_revises_b206 fl mo r)) (sort := 2) (ord := 3) (S := SA s1) (I := IRv n s1) (H := hoN s1) (from' := t + 1) (K := kR n s1) (D0 := dR n s1) (m := m1) (e := e1) (pq := pnA) (fo0 := fo 5) (fun N mo => by
      show Mo_revises_b125B (Mo_revises_b125 N) mo (-1) = _
      unfold Mo_revises_b125B
      rw [if_pos rfl]) (fun N D mo f k hI hf hd hS hs ht => by
      have ha : Air s1 f := of_decide_eq_true hS
      obtain ⟨v1, v2, v3, v4, -⟩ := air_v j hf ha
      rw [hI.1.et hf] at ht
      exact b125_s (t := t) (by omega) (by rw [hI.2 f hf hS]; exact v3) (by rw [(hI.1.1 f hf).1 1 (by omega)]; exact v1) (by rw [hI.1.n172]; exact t2) (by omega) (by omega) ht) (fun D mo f k hI hf hd hS hk => by
      obtain ⟨v1, v2, v3, v4, v5, v6, v7, -⟩ := air_v j hf (of_decide_eq_true hS)
      refine ⟨hI.1.step hn hf hd v7 (fun i a b c => av_un ⟨a, b, c⟩) (by rw [av_4]; exact nI_pos' (by omega)), fun g hg hgS => ?_⟩
      rw [stM_0]
      by_cases q : g = f
      · subst q; rw [av_5]; exact v3.symm
      · rw [av_un (by omega)]; exact hI.2 g hg hgS) (hFr hn j) (fun D mo f hI hf _ hS => by rw [(hI.1.1 f hf).1 7 (by omega)]; exact (air_v j hf (of_decide_eq_true hS)).2.2.2.2.2.2.1) (fun U D c pn fo mo f hP hI hf hd hS => by
      have ha : Air s1 f := of_decide_eq_true hS
      obtain ⟨v1, v2, v3, v4, v5, v6, v7, v8⟩ := air_v j hf ha
      have hR := hP.2.2.2.1
      rw [mk_fa] at hR
      have hp : Pd (mo 0) f := ((air_eq hI.1 hf hd).mpr ha).1
      refine ⟨by rw [(hR.pd hf hp).2.1, hI.2 f hf hS]; exact v3, by rw [hI.1.et hf]; omega, fun t' cc a1 a2 a3 a4 => ?_⟩
      rw [hI.1.et hf]
      exact v8 t' cc (by rw [← hI.1.n172]; exact a1) a2 (by rw [← (hI.1.1 f hf).1 2 (by omega)]; exact a3) a4) (by omega) hn q2 Kb m1b m1 0 fl fl (cn (lB n s1) 20) pnA fo mo2 0 (luN n s1 20) (by omega) (by rw [fl_v]; omega) (by rw [fl_v]; omega) (by omega) q2.1 (by rw [Dq_0]; exact P0) (by rw [Dq_0]; exact I0) (fun f hf _ => rfl)
  have pk := q_pick hn q2 (show 0 ≤ m1 by omega)
  rw [Dq_0] at pk
  -- who is done
  have dA : ∀ f, f < n → (Dq (dR n s1) e1 m1 f = true ↔ s1 (8 * f + 7) = 1 ∨ Air s1 f) := fun f hf => by
    constructor
    · intro z
      have : dR n s1 f = true ∨ anyN (fun q => e1 q % 32) m1 f = true := Bool.or_eq_true _ _ ▸ z
      rcases this with z | z
      · rcases dRt f hf z with z | z
        · exact Or.inl z
        · exact Or.inr (of_decide_eq_true z).2.1
      · obtain ⟨q, z1, z2⟩ := any_ex z
        have z2 : e1 q % 32 = f := z2
        obtain ⟨f', c1, c2, c3⟩ := q2.2.2.2.1 q z1
        have : f' = f := by omega
        subst this
        exact Or.inr (of_decide_eq_true (cq_t c2).2.2)
    · intro z
      show (dR n s1 f || anyN (fun q => e1 q % 32) m1 f) = true
      by_cases dd : dR n s1 f = true
      · rw [dd]; rfl
      · have dd' : dR n s1 f = false := by rw [Bool.not_eq_true] at dd; exact dd
        have ha : Air s1 f := by
          rcases z with z | z
          · exfalso
            have : dR n s1 f = true := by
              show (decide (f < n ∧ s1 (8 * f + 7) = 1) || lB n s1 f) = true
              rw [decide_eq_true ⟨hf, z⟩]; rfl
            exact dd this
          · exact z
        obtain ⟨q, z1, z2⟩ := q2.2.2.2.2 f (by omega) (cq_of hf dd' (decide_eq_true ha))
        have := any_in (g := fun q => e1 q % 32) (i := q) (k := m1) z1
        have e3 : (fun q => e1 q % 32) q = f := by show e1 q % 32 = f; omega
        rw [← e3, this, Bool.or_true]
  generalize hDD : Dq (dR n s1) e1 m1 = DD at *
  have R2 : Rf n fo2 ro (mo3 0) := by have := P2.2.2.2.1; rw [mk_fa] at this; exact this
  have f28 : fo2 8 0 = nI (msk (gone n s1) 20) := by rw [g7 8 (by omega) (by omega) (by omega)]; exact hb.2
  have hC : ∀ f, f < n → ((Air (mo3 0) f ∨ s1 (8 * f + 7) = 1) ↔ DD f = true) := fun f hf => by
    cases dd : DD f with
    | false =>
      have nd := mt (dA f hf).mpr (by rw [dd]; decide)
      rw [air_eq I2.1 hf dd]
      exact ⟨fun z => absurd z.symm nd, fun z => Bool.noConfusion z⟩
    | true =>
      refine ⟨fun _ => rfl, fun _ => ?_⟩
      rcases (dA f hf).mp dd with z | z
      · exact Or.inr z
      · left
        obtain ⟨v1, v2, v3, v4, v5, v6, v7, -⟩ := air_v j hf z
        have w := I2.1.1 f hf
        refine ⟨⟨w.2.1 dd v7, by rw [w.1 7 (by omega)]; exact v7⟩, ?_⟩
        show mo3 0 (8 * f + 1) - mo3 0 (8 * f + 2) + mo3 0 (8 * f + 5) ≤ mo3 0 172
        rw [w.1 1 (by omega), w.1 2 (by omega), I2.2 f hf (decide_eq_true z), I2.1.n172]
        exact z.2
  have K1b : ∀ f, f < 20 → (fun f => if f < n then etN s1 f else 0) f < 10000 := fun f _ => by
    show (if f < n then etN s1 f else 0) < 10000
    by_cases q : f < n
    · rw [if_pos q]; have := (et_v jf q).2; omega
    · rw [if_neg q]; omega
  have K1e : ∀ f, f < n → (fun f => if f < n then etN s1 f else 0) f = etN s1 f := fun f hf => if_pos hf
  generalize (fun f => if f < n then etN s1 f else 0) = K1 at K1b K1e
  obtain ⟨m2, e2, pnC, r1, r2, r3, r4⟩ := rv_enq (ra := ra) (vc := vc) (os := os) (x := x2) (D0 := DD) (K := K1) R2 f28 (fun f hf => by rw [(I2.1.1 f hf).1 1 (by omega), K1e f hf]; exact (et_v jf hf).1) K1b hC 20 0 fl 0 (fun _ => 0) (upm pnB 1 0 0) (by omega) (by rw [fl_v]; omega) (QS.zero (by rw [upm_0, pk_us]))
  have r3' : pnC 2 = pnB 2 := by rw [r3, upm_n _ _ _ (by omega)]
  have r4' : pnC 3 = pnB 3 := by rw [r4, upm_n _ _ _ (by omega)]
  have m2b : m2 ≤ 20 := by rw [r2.2.1]; exact cn_le _ _
  have m12 : cn (lB n s1) 20 + m1 + m2 ≤ 20 := by
    rw [q2.2.1, r2.2.1]
    have di : ∀ i, i < n → DD i = false → ¬ Air s1 i := fun i hi dd z => by
      have := (dA i hi).mpr (Or.inr z)
      rw [dd] at this
      exact Bool.noConfusion this
    refine cn_disj3 20 (fun i _ => ⟨fun z => ?_, fun z => ?_, fun z => ?_⟩)
    · have z2 := (cq_t z.2).2.1
      have : dR n s1 i = true := by show (_ || lB n s1 i) = true; rw [z.1, Bool.or_true]
      rw [this] at z2
      exact Bool.noConfusion z2
    · have z1 := of_decide_eq_true z.1
      have z2 := cq_t z.2
      exact di i z2.1 z2.2.1 z1.2.1
    · have z1 := cq_t z.1
      have z2 := cq_t z.2
      exact di i z2.1 z2.2.1 (of_decide_eq_true z1.2.2)
  have IG : IGv n s1 DD mo3 := ⟨I2.1, fun f hf dd => by
    rcases (show s1 (8 * f + 7) = 0 ∨ s1 (8 * f + 7) = 1 from by rcases jg f hf with z | z; exact Or.inl z.1; exact z.1) with z | z
    · exact z
    · have := (dA f hf).mpr (Or.inl z)
      rw [dd] at this
      exact Bool.noConfusion this⟩
  obtain ⟨pnD, fo3, mo4, x3, u1, u2, ⟨U3, P3⟩, I3, w3, w4, w5, w6, w7, w9, w8⟩ := ground_loop (kd := false) (ro := ro) (ra := ra) (L := Mo_revises_b206) (FIN := fun mo => bn1 (Mo_clearsPlan mo) (fun m => some m)) (sort := 3) (ord := 0) (S := fun _ => true) (I := IGv n s1) (fo0 := fo 5) (n := n) (K := K1) (D0 := DD) (m := m2) (e := e2) (pq := pnC) (fun N mo x => rfl) (fun D mo f k hI hf hd _ hk => by
      refine ⟨hI.1.step hn hf hd (hI.2 f hf hd) (fun i a b c => gv_un ⟨a, b, c⟩) (by rw [gv_4]; exact nI_pos' (by omega)), fun g hg hgd => ?_⟩
      by_cases q : g = f
      · subst q; rw [orD_s] at hgd; exact Bool.noConfusion hgd
      · rw [orD_n q] at hgd; exact hI.2 g hg hgd) (hFg hn jf K1e) (fun D mo f hI hf hd _ => by rw [(hI.1.1 f hf).1 7 (by omega)]; exact hI.2 f hf hd) hn r2 K1b m2b m2 0 fl fl (cn (lB n s1) 20 + m1) pnC fo2 mo3 0 U2 (by omega) (by rw [fl_v]; omega) (by rw [fl_v]; omega) (by omega) r2.1 (by rw [Dq_0]; exact P2.pq r3' r4') (by rw [Dq_0]; exact IG) (by rw [Dq_0]; exact o4)
  have pk2 := q_pick hn r2 (show 0 ≤ m2 by omega)
  rw [Dq_0] at pk2
  have hall : ∀ f, f < n → Dq DD e2 m2 f = true := fun f hf => by
    cases dd : DD f with
    | true => show (DD f || _) = true; rw [dd]; rfl
    | false =>
      obtain ⟨i, z1, z2⟩ := r2.2.2.2.2 f (by omega) (cq_of hf dd rfl)
      have := any_in (g := fun q => e2 q % 32) (i := i) (k := m2) z1
      have e3 : (fun q => e2 q % 32) i = f := by show e2 i % 32 = f; omega
      show (DD f || anyN (fun q => e2 q % 32) m2 f) = true
      rw [← e3, this, Bool.or_true]
  have f3 : ∀ q, q ≠ 5 → q ≠ 6 → q ≠ 7 → fo3 q = fo q := fun q a b c => by rw [w7 q a b c, g7 q a b c]
  have fin := RF_fin (v0 := 0) (s0 := s1) (fo1 := fo) (vc' := upm vc 2 0 0) (os' := upm os 4 0 0) (fo' := fo3) (pl := s1 174) (li := li) P3 I3.1 hall (fun f hf => by rcases jg f hf with z | z; exact Or.inl z.1; exact z.1) (fun f hf z => by
    rcases jg f hf with q | q
    · rw [q.1] at z; exact absurd z (by decide)
    · exact q.2) jt.2 hl jl rfl rfl rfl rfl (by rw [f3 10 (by omega) (by omega) (by omega)]; exact hb.1) (by rw [f3 8 (by omega) (by omega) (by omega)]; exact hb.2) (by rw [upm_0, pk_us]) (by rw [upm_0, pk_us])
  have c174 : cpS (mo4 0) 174 = s1 174 := by
    unfold cpS
    rw [if_neg (by omega)]
    exact I3.1.2 174 (by omega)
  rw [upd_id c174] at fin
  have u1' : Pl_seatGrounded pnC fo2 ro ra = some (x3, pnD, fo3) := u1
  refine ⟨x2 + x3, pnD, fo3, upm vc 2 0 0, upm os 4 0 0, upA mo4 0 (cpS (mo4 0)), ?_, ?_, by rw [upA_0]; exact fin, ?_, ?_, ?_, ?_, ?_, ?_⟩
  · unfold Pl_planOn
    rw [hM.1, nI_1, stk_r, stk_r, ← hpn1]
    have q1' : Pl_planOn_b17 ro ra fl pn1 fo vc os 0 = _ := q1
    have o1' : Pl_seatAirborne pnA fo ro ra (nI (t + 1)) = some (x2, pnB, fo2) := o1
    have r1' : Pl_planOn_b106 ro ra fl (upm pnB 1 0 0) fo2 vc os x2 0 = _ := r1
    have cm : Fi_clearMarket vc os = some (upm vc 2 0 0, upm os 4 0 0) := by
      unfold Fi_clearMarket Of_dropAll
      rw [stk_r, stk_r, bn1_r]
    rw [q1', hF.ck, t2, nI_1, o1', bn3_r, stk_r, r1', u1', bn3_r, stk_r, cm, bn2_r]
  · unfold Mo_revises
    have d1' : Mo_revises_b6 fl mo1 0 = _ := d1
    rw [b1, bn1_r, d1', hFr hn j _ _ I0 P0.2.2.1 P0.sn, bn1_r, pk]
    refine o2.trans ?_
    show bn1 (Mo_firstOf mo3 3 0 (-1)) (fun r => Mo_revises_b206 fl mo3 r) = _
    rw [hFg hn jf K1e _ _ IG P2.2.2.1 P2.sn, bn1_r, pk2]
    refine u2.trans ?_
    show bn1 (Mo_clearsPlan mo4) (fun m => some m) = _
    rw [Mo_clearsPlan_s, bn1_r]
  · exact (((b5.tr d6).tr g4).tr w4).tr (KP.up (by omega))
  · refine hM.up ?_ (fun k hk => ?_)
    · rw [w3, r4', g3, q4]; exact p13
    · rcases w5 k hk with z | z
      · rw [r3'] at z
        rcases g5 k hk with z' | z'
        · rcases q5 k hk with z2 | z2
          · left; rw [z, z', z2, p12]
          · right; rw [z, z', z2]; exact p13
        · right; rw [z, z', q4]; exact p13
      · right; rw [z, r4', g3, q4]; exact p13
  · rw [upA_n _ _ (by omega), w8, g8, d7, b7]
  · have z0 : sT (fo 5) n fo = 0 := by
      unfold sT
      rw [sm_congr (h := fun _ => 0) (fun j _ => if_pos rfl), sm_zero]
    rw [z0] at g6
    grind
  · intro f hf
    rw [upA_n _ _ (by omega), w9, g9, d3 f hf]
    unfold waP
    by_cases q : Pd s1 f
    · rw [if_pos q, (hF.pd hf q).1]
    · rw [if_neg q, (hF.np (by omega) (fun z => q z.2)).1]
  · intro f hf np
    rw [upA_0] at np
    refine (hF.np (by omega) (fun z => np ?_)).1
    have e4 : cpS (mo4 0) (8 * f + 4) = mo4 0 (8 * f + 4) := if_neg (by omega)
    have e7 : cpS (mo4 0) (8 * f + 7) = mo4 0 (8 * f + 7) := if_neg (by omega)
    refine ⟨?_, ?_⟩
    · rw [e4]; exact (I3.1.1 f hf).2.1 (hall f hf) z.2.2
    · rw [e7, (I3.1.1 f hf).1 7 (by omega)]; exact z.2.2
end R2
