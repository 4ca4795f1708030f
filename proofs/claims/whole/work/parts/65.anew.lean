/-! a plan anew: all of it -/
section P4
variable {n v m k c f : Nat} {fo ro ra vc os li mo pn mo0 : Mem} {x y sort ord : Int32} {s s' s1 : Nat → Int32} {U D D0 S : Nat → Bool} {K e : Nat → Nat} {kd : Bool}
/-- what a plan anew asks of field and row -/
def RP (n : Nat) (fo ro ra li : Mem) (s : Nat → Int32) : Prop := (n ≤ 20 ∧ ro 4 0 = nI n ∧ s 173 = nI n ∧ fo 9 0 = s 172 ∧ ∀ f, f < n → s (8 * f) = ro 0 f ∧ s (8 * f + 1) = ro 1 f ∧ s (8 * f + 2) = ro 2 f ∧ s (8 * f + 3) = ro 3 f) ∧ Rr ra s ∧ Jr s ∧ Jf n s ∧ (∃ t, t < 720 ∧ s 172 = nI t) ∧ Rl li s ∧ Jl n s
theorem RF.rp (h : RF n v fo ro ra vc os li s) : RP n fo ro ra li s := by
  obtain ⟨⟨a1, a2, a3, a4, a5, -⟩, hr, -, -, -, hl, jt, jf, -, -, -, -, jr, -, jl⟩ := h
  exact ⟨⟨a1, a2, a3, a4, a5⟩, hr, jr, jf, jt.1, hl, jl⟩
theorem PSt.pq {pn' : Mem} (h : PSt kd n U D c pn fo ro ra mo) (h2 : pn' 2 = pn 2) (h3 : pn' 3 = pn 3) : PSt kd n U D c pn' fo ro ra mo := ⟨⟨fun k hk => by rw [h2, h3]; exact h.1.1 k hk, h.1.2⟩, h.2⟩
theorem PSt.nh (h : PSt true n U D c pn fo ro ra mo) (hf : f < n) (hd : D f = false) : fo 5 f = -1 ∧ fo 6 f = 0 ∧ fo 7 f = 0 := by
  rcases h.2.2.2.1.2.2.2.2.2.1 f hf with z | z
  · exfalso
    have : mkS true D n (mo 0) (8 * f + 4) = -1 := if_pos ⟨rfl, by omega, by omega, by rw [show (8 * f + 4) / 8 = f by omega]; exact hd⟩
    have z1 := z.1.1
    rw [this] at z1
    exact absurd z1 (by decide)
  · exact z.2
theorem PSt.cq (h : PSt kd n U D c pn fo ro ra mo) (hI : IA n s1 D mo) : CQ n fo ro s1 := by
  have hn := h.n20
  have hR := h.2.2.2.1
  refine ⟨fun f hf => Fi_isFlight_s hR hf, fun f hf => ?_, ?_, fun f hf => ?_⟩
  · rw [Fi_off_s hR hf]
    show some (mkS kd D n (mo 0) (8 * f + 1) - mkS kd D n (mo 0) (8 * f + 2)) = _
    rw [mk_o (by omega), mk_o (by omega)]
    exact congrArg some (hI.off hf)
  · rw [hR.ck, mk_o (by omega)]; exact hI.n172
  · rw [hR.et hf, mk_o (by omega)]; exact (hI.1 f hf).1 1 (by omega)
theorem off_le {b c t : Nat} (hb : b < 720) (hc : c ≤ 300) (ht : t < 720) : (nI b - nI c ≤ nI t) ↔ b ≤ t + c := by
  have ti : (nI b - nI c).toInt = (b : Int) - (c : Int) := pk_sub_toInt (by omega) (by omega)
  rw [Int32.le_iff_toInt_le, ti, nI_toInt (by omega)]
  omega
theorem S01 : S1 s f = !S0 s f := by
  unfold S1 S0
  by_cases q : offS s f ≤ s 172
  · rw [decide_eq_true q, decide_eq_false (fun z => z q)]; rfl
  · rw [decide_eq_false q, decide_eq_true q]; rfl
theorem keyOf_s {p : Nat} (hp : p ≤ 2) (h : PSt true n U D c pn fo ro ra mo) (hI : IA n s1 D mo) (j : Jf n s1) (hf : f < n) : Pl_keyOf fo ro (nI f) (nI p) = some (nI (if p = 1 then wtN s1 f else if p = 2 then 5 * tuN n s1 f + lnN s1 f else etN s1 f)) := by
  have hn := h.n20
  have hR := h.2.2.2.1
  have e1 : ro 1 f = nI (etN s1 f) := by rw [hR.et hf, mk_o (by omega), (hI.1 f hf).1 1 (by omega)]; exact (et_v j hf).1
  unfold Pl_keyOf
  rw [ckI_nI _ (by omega) (by omega), nI_clamp (by omega), stk_r, e1]
  by_cases p1 : p = 1
  · subst p1
    obtain ⟨-, -, -, d, -, -, -, -, -, -, g1, g2, g3⟩ := j f hf
    have e3 : ro 3 f = nI d := by rw [hR.wt hf, mk_o (by omega), (hI.1 f hf).1 3 (by omega)]; exact g1
    rw [if_pos (show nI 1 = 1 from rfl), if_pos rfl, e3]
    unfold wtN
    rw [g1, nI_clamp (by omega), show (9 : Int32) = nI 9 from rfl, pk_sub (by omega), show (720 : Int32) = nI 720 from rfl, pk_mul, nI_add]
  · rw [if_neg (show ¬ nI p = 1 from fun z => p1 ((nI_eq (b := 1) (by omega) (by omega)).mp z)), if_neg p1]
    by_cases p2 : p = 2
    · subst p2
      have t := Pl_turnOf_s (f := f) hR j (by rw [hR.ck, mk_o (by omega)]; exact hI.n172) (fun g hg => by
        show mkS true D n (mo 0) (8 * g + 1) - mkS true D n (mo 0) (8 * g + 2) = _
        rw [mk_o (by omega), mk_o (by omega)]
        exact hI.off hg) (fun g hg => by rw [mk_o (by omega)]; exact (hI.1 g hg).1 0 (by omega)) (fun g hg => by rw [mk_o (by omega)]; exact (hI.1 g hg).1 1 (by omega)) hf
      have e0 : ro 0 f = nI (lnN s1 f) := by rw [hR.ln hf, mk_o (by omega), show mo 0 (8 * f) = s1 (8 * f) from (hI.1 f hf).1 0 (by omega)]; exact (ln_v j hf).1
      rw [if_pos (show nI 2 = 2 from rfl), if_pos rfl, t, bn1_r, e0, show (5 : Int32) = nI 5 from rfl, pk_mul, nI_add, Nat.mul_comm]
    · rw [if_neg (show ¬ nI p = 2 from fun z => p2 ((nI_eq (b := 2) (by omega) (by omega)).mp z)), if_neg p2]
theorem planAnew_s {M p : Nat} (h : RP n fo ro ra li (mo 0)) (hM : PM M pn) (hMb : M < 2 ^ 30) (hp : p ≤ 2) : ∃ pn' fo' vc' os' mo', Pl_planAnew pn fo ro ra vc os (nI p) = some (pn', fo', vc', os') ∧ Mo_plansBy mo (nI p) = some mo' ∧ RF n 0 fo' ro ra vc' os' li (mo' 0) ∧ KP mo mo' ∧ PM (M + 1) pn' ∧ mo' 1 = mo 1 ∧ fo' 9 = fo 9 := by
  obtain ⟨⟨hn, hrn, hsn, hck, hro⟩, hr, jr, jf, jt, hl, jl⟩ := h
  obtain ⟨fo1, c1, c2, c3, c4, c5⟩ := Fi_clearPlan_s (fo := fo) (vc := vc) (os := os)
  obtain ⟨mo1, b1, b2, b3, b4, b5, -, b7⟩ := Mo_begins_s (mo := mo)
  have s1e : ∃ s1, s1 = gcS n (mo 0) := ⟨_, rfl⟩
  obtain ⟨s1, hs1⟩ := s1e
  have moB : ∃ m, m = upA mo1 0 s1 := ⟨_, rfl⟩
  obtain ⟨moB, hmB⟩ := moB
  have mB0 : moB 0 = s1 := by rw [hmB, upA_0]
  have so : ∀ i, i % 8 ≠ 7 ∨ n ≤ i / 8 → s1 i = mo 0 i := fun i hi => by rw [hs1]; exact gc_o hi
  have h7 : ∀ f, f < n → s1 (8 * f + 7) = 0 := fun f hf => by rw [hs1]; exact gc_7 hf
  have j1 : Jf n s1 := fun f hf => by
    rw [so (8 * f) (by omega), so (8 * f + 1) (by omega), so (8 * f + 2) (by omega), so (8 * f + 3) (by omega)]
    exact jf f hf
  have a2 : ag (mo 0) s1 160 172 := fun i _ _ => so i (by omega)
  have pe : ∃ p1, p1 = upm (upm pn 3 0 (nI (M + 1))) 1 0 0 := ⟨_, rfl⟩
  obtain ⟨pn1, hpn1⟩ := pe
  have p12 : pn1 2 = pn 2 := by rw [hpn1, upm_n _ _ _ (by omega), upm_n _ _ _ (by omega)]
  have p13 : pn1 3 0 = nI (M + 1) := by rw [hpn1, upm_n _ _ _ (by omega), upm_0, pk_us]
  have p11 : pn1 1 0 = 0 := by rw [hpn1, upm_0, pk_us]
  -- at the start
  have P0 : PSt true n (fun _ => false) (fun _ => false) 0 pn1 fo1 ro ra moB := by
    refine ⟨UR0 hM hMb p12 p13 (fun k hk => by rw [hmB, upA_n _ _ (by omega)]; exact b2 k hk), by rw [cn_f]; omega, fun f hf => by rw [hmB, upA_n _ _ (by omega)]; exact b3 f hf, ?_, by rw [mB0]; exact hr.cg a2, by rw [mB0]; exact jr.cg a2, by rw [mB0]; exact j1, by rw [mB0, so 172 (by omega)]; exact jt, fun f hf hd => Bool.noConfusion hd, fun f g hf hg hd => Bool.noConfusion hd⟩
    rw [mB0]
    refine ⟨hn, hrn, by rw [mk_o (by omega), so 173 (by omega)]; exact hsn, by rw [c4, mk_o (by omega), so 172 (by omega)]; exact hck, fun f hf => ?_, fun f hf => Or.inr ⟨fun z => ?_, c2 f (by omega)⟩, fun f _ hf => c2 f hf⟩
    · rw [mk_o (by omega), mk_o (by omega), mk_o (by omega), mk_o (by omega), so (8 * f) (by omega), so (8 * f + 1) (by omega), so (8 * f + 2) (by omega), so (8 * f + 3) (by omega)]
      exact hro f hf
    · have : mkS true (fun _ => false) n s1 (8 * f + 4) = -1 := if_pos ⟨rfl, by omega, by omega, rfl⟩
      have z1 := z.1
      rw [this] at z1
      exact absurd z1 (by decide)
  have I0 : IA n s1 (fun _ => false) moB := by
    refine ⟨fun f hf => ?_, fun i hi => by rw [mB0]⟩
    rw [mB0]
    exact ⟨fun _ _ => rfl, fun z => Bool.noConfusion z, fun _ _ _ => rfl, fun _ _ _ => rfl⟩
  -- those in the air
  have K0b : ∀ f, f < 20 → (fun f => if f < n then etN s1 f else 0) f < 10000 := fun f _ => by
    show (if f < n then etN s1 f else 0) < 10000
    by_cases q : f < n
    · rw [if_pos q]; have := (et_v j1 q).2; omega
    · rw [if_neg q]; omega
  have K0e : ∀ f, f < n → (fun f => if f < n then etN s1 f else 0) f = etN s1 f := fun f hf => if_pos hf
  obtain ⟨m1, e1, pnA, q1, q2, q3, q4⟩ := enq1 (ra := ra) (vc := upm vc 2 0 0) (os := upm os 4 0 0) (p2 := nI p) hn (P0.cq I0) j1 K0e K0b 20 0 fl 0 (fun _ => 0) pn1 (by omega) (by rw [fl_v]; omega) (QS.zero p11)
  have m1b : m1 ≤ 20 := by rw [q2.2.1]; exact cn_le _ _
  obtain ⟨pnB, fo2, mo2, x2, o1, o2, ⟨⟨U2, P2⟩, I2, g3, g4, g5, -, g7, -, g8⟩, o4⟩ := air_loop (kd := true) (ro := ro) (ra := ra) (n := n) (L := Mo_plansBy_b40 (nI p)) (FIN := REST (nI p)) (sort := 0) (ord := 0) (S := S0 s1) (I := IA n s1) (H := fun _ => 0) (from' := 0) (K := fun f => if f < n then etN s1 f else 0) (D0 := fun _ => false) (m := m1) (e := e1) (pq := pnA) (fo0 := fun _ => -1) (fun N mo => b40_e) (fun N D mo f k hI hf hd hS hs ht => by
      have ev := (et_v (hI.jf j1) hf).1
      have z0 : max (etN (mo 0) f + 0) 0 = etN (mo 0) f := by omega
      rw [z0, ← ev] at ht
      exact b40_s (by omega) ht) (fun D mo f k h hf hd hS hk => h.step hn hf hd (h7 f hf) (fun i a b c => av_un ⟨a, b, c⟩) (by rw [av_4]; exact nI_pos' (by omega))) (hF0 hn j1 K0e) (fun D mo f hI hf _ _ => by rw [(hI.1 f hf).1 7 (by omega)]; exact h7 f hf) (fun U D c pn fo mo f hP hI hf hd hS => by
      refine ⟨(hP.nh hf hd).2.1, ?_, fun t cc t1 t2 t3 t4 => ?_⟩
      · have := (et_v (hI.jf j1) hf).2; omega
      · have hS' : offS s1 f ≤ s1 172 := of_decide_eq_true hS
        rw [← hI.off hf, ← hI.n172] at hS'
        obtain ⟨v1, v2⟩ := et_v (hI.jf j1) hf
        have hS2 : mo 0 (8 * f + 1) - mo 0 (8 * f + 2) ≤ mo 0 172 := hS'
        rw [v1, t1, t3] at hS2
        exact (off_le v2 t4 t2).mp hS2) (by omega) hn q2 K0b m1b m1 0 fl fl 0 pnA fo1 moB 0 (fun _ => false) (by omega) (by rw [fl_v]; omega) (by rw [fl_v]; omega) (by omega) q2.1 (by rw [Dq_0]; exact P0.pq q3 q4) (by rw [Dq_0]; exact I0) (fun f hf _ => (c2 f (by omega)).1)
  rw [Nat.zero_add] at P2
  have pk := q_pick hn q2 (show 0 ≤ m1 by omega)
  rw [Dq_0] at pk
  -- what is left
  have dA : ∀ f, f < n → (Dq (fun _ => false) e1 m1 f = true ↔ S0 s1 f = true) := fun f hf => by
    constructor
    · intro z
      have : false = true ∨ anyN (fun q => e1 q % 32) m1 f = true := Bool.or_eq_true _ _ ▸ z
      rcases this with z | z
      · exact Bool.noConfusion z
      · obtain ⟨q, z1, z2⟩ := any_ex z
        have z2 : e1 q % 32 = f := z2
        obtain ⟨f', d1, d2, d3⟩ := q2.2.2.2.1 q z1
        have : f' = f := by omega
        subst this
        exact (cq_t d2).2.2
    · intro z
      obtain ⟨q, z1, z2⟩ := q2.2.2.2.2 f (by omega) (cq_of hf rfl z)
      have := any_in (g := fun q => e1 q % 32) (i := q) (k := m1) z1
      have e3 : (fun q => e1 q % 32) q = f := by show e1 q % 32 = f; omega
      show (false || anyN (fun q => e1 q % 32) m1 f) = true
      rw [← e3, this, Bool.or_true]
  have hD0 : ∀ f, f < n → S1 s1 f = true → Dq (fun _ => false) e1 m1 f = false := fun f hf hs => by
    cases q : Dq (fun _ => false) e1 m1 f with
    | false => rfl
    | true => rw [S01, (dA f hf).mp q] at hs; exact Bool.noConfusion hs
  have hD1 : ∀ f, f < n → S1 s1 f = false → Dq (fun _ => false) e1 m1 f = true := fun f hf hs => by
    refine (dA f hf).mpr ?_
    rw [S01] at hs
    cases q : S0 s1 f with
    | true => rfl
    | false => rw [q] at hs; exact Bool.noConfusion hs
  generalize hDD : Dq (fun _ => false) e1 m1 = DD at *
  -- those on the ground
  have K1b : ∀ f, f < 20 → (fun f => if f < n then (if p = 1 then wtN s1 f else if p = 2 then 5 * tuN n s1 f + lnN s1 f else etN s1 f) else 0) f < 10000 := fun f _ => by
    show (if f < n then (if p = 1 then wtN s1 f else if p = 2 then 5 * tuN n s1 f + lnN s1 f else etN s1 f) else 0) < 10000
    by_cases q : f < n
    · have t0 := (et_v j1 q).2
      have t1 := (ln_v j1 q).2
      have t2 : tuN n s1 f ≤ 20 := cn_le _ 20
      have t3 : wtN s1 f < 10000 := by
        unfold wtN
        have : (9 - (s1 (8 * f + 3)).toNatClampNeg) * 720 ≤ 9 * 720 := Nat.mul_le_mul_right 720 (by omega)
        omega
      rw [if_pos q]
      by_cases z1 : p = 1
      · rw [if_pos z1]; exact t3
      · rw [if_neg z1]
        by_cases z2 : p = 2
        · rw [if_pos z2]; omega
        · rw [if_neg z2]; omega
    · rw [if_neg q]; omega
  have K1e : ∀ f, f < n → (fun f => if f < n then (if p = 1 then wtN s1 f else if p = 2 then 5 * tuN n s1 f + lnN s1 f else etN s1 f) else 0) f = (if p = 1 then wtN s1 f else if p = 2 then 5 * tuN n s1 f + lnN s1 f else etN s1 f) := fun f hf => if_pos hf
  generalize (fun f => if f < n then (if p = 1 then wtN s1 f else if p = 2 then 5 * tuN n s1 f + lnN s1 f else etN s1 f) else 0) = K1 at K1b K1e
  obtain ⟨m2, e2, pnC, r1, r2, r3, r4⟩ := enq2 (ra := ra) (vc := upm vc 2 0 0) (os := upm os 4 0 0) (p2 := nI p) (D0 := DD) (K := K1) hn (P2.cq I2) (fun f hf _ => by rw [keyOf_s hp P2 I2 j1 hf, K1e f hf]) K1b hD0 20 0 fl 0 (fun _ => 0) (upm pnB 1 0 0) (by omega) (by rw [fl_v]; omega) (QS.zero (by rw [upm_0, pk_us]))
  have r3' : pnC 2 = pnB 2 := by rw [r3, upm_n _ _ _ (by omega)]
  have r4' : pnC 3 = pnB 3 := by rw [r4, upm_n _ _ _ (by omega)]
  have m12 : m1 + m2 ≤ 20 := by
    rw [q2.2.1, r2.2.1]
    refine cn_disj 20 (fun i _ z => ?_)
    have z1 := cq_t z.1
    have z2 := cq_t z.2
    have : S1 s1 i = true := z2.2.2
    rw [S01, z1.2.2] at this
    exact Bool.noConfusion this
  have G : ∃ pn' fo' mo' x', Pl_seatGrounded pnC fo2 ro ra = some (x', pn', fo') ∧ REST (nI p) mo2 = finP mo' ∧ GE true n ro ra mo2 (fun _ => -1) (IA n s1) (Dq DD e2 m2) (m1 + m2) pnC fo2 0 pn' fo' mo' x' := by
    by_cases z2 : p = 2
    · subst z2
      exact gp2 (P2.pq r3' r4') I2 j1 h7 r2 (fun f hf => by rw [K1e f hf, if_neg (by omega), if_pos rfl]) K1b hD0 hD1 (by omega) (by omega) o4
    · refine gp01 (p := nI p) ?_ (P2.pq r3' r4') I2 j1 h7 r2 (fun f hf => ?_) K1b (by omega) (by omega) o4
      · by_cases z1 : p = 1
        · subst z1; exact Or.inr rfl
        · have : p = 0 := by omega
          subst this; exact Or.inl rfl
      · rw [K1e f hf]
        by_cases z1 : p = 1
        · subst z1; rw [if_pos rfl, if_pos (show nI 1 = 1 from rfl)]
        · rw [if_neg z1, if_neg z2, if_neg (show ¬ nI p = 1 from fun z => z1 ((nI_eq (b := 1) (by omega) (by omega)).mp z))]
  obtain ⟨pnD, fo3, mo3, x3, u1, u2, ⟨U3, P3⟩, I3, w3, w4, w5, -, w7, -, w8⟩ := G
  have hall : ∀ f, f < n → Dq DD e2 m2 f = true := fun f hf => by
    cases q : S1 s1 f with
    | false => show (DD f || _) = true; rw [hD1 f hf q]; rfl
    | true =>
      obtain ⟨i, z1, z2⟩ := r2.2.2.2.2 f (by omega) (cq_of hf (hD0 f hf q) q)
      have := any_in (g := fun q => e2 q % 32) (i := i) (k := m2) z1
      have e3 : (fun q => e2 q % 32) i = f := by show e2 i % 32 = f; omega
      show (DD f || anyN (fun q => e2 q % 32) m2 f) = true
      rw [← e3, this, Bool.or_true]
  have f3 : ∀ q, q ≠ 5 → q ≠ 6 → q ≠ 7 → fo3 q = fo1 q := fun q a b c => by rw [w7 q a b c, g7 q a b c]
  have al : ∀ i, 160 ≤ i → s1 i = mo 0 i := fun i hi => so i (by omega)
  have fin := RF_fin (v0 := 0) (s0 := s1) (fo1 := fo1) (vc' := upm vc 2 0 0) (os' := upm os 4 0 0) (fo' := upm fo3 10 0 1) (pl := 1) (li := li) P3 I3 hall (fun f hf => Or.inl (h7 f hf)) (fun f hf z => by rw [h7 f hf] at z; exact absurd z (by decide)) (Or.inr rfl) (hl.cg (al 175 (by omega)) (fun i a b => al i (by omega))) (jl.cg (al 175 (by omega)) (fun i a b => al i (by omega))) (upm_n _ _ _ (by omega)) (upm_n _ _ _ (by omega)) (upm_n _ _ _ (by omega)) (upm_n _ _ _ (by omega)) (by rw [upm_0, pk_us]) (by
    have g0 : ∀ i, gone n s1 i = false := fun i => decide_eq_false (fun z => by have := z.2; rw [h7 i z.1] at this; exact absurd this (by decide))
    rw [upm_n _ _ _ (by omega), f3 8 (by omega) (by omega) (by omega), c3, msk_0 (fun i _ => g0 i)]
    rfl) (by rw [upm_0, pk_us]) (by rw [upm_0, pk_us])
  refine ⟨pnD, upm fo3 10 0 1, upm vc 2 0 0, upm os 4 0 0, upA mo3 0 (upd (cpS (mo3 0)) 174 1), ?_, ?_, by rw [upA_0]; exact fin, ?_, ?_, ?_, ?_⟩
  · unfold Pl_planAnew
    rw [hM.1, nI_1, stk_r, c1, bn3_r, stk_r, ← hpn1]
    have q1' : Pl_planAnew_b21 ro ra (nI p) fl pn1 fo1 (upm vc 2 0 0) (upm os 4 0 0) 0 = _ := q1
    have o1' : Pl_seatAirborne pnA fo1 ro ra 0 = some (x2, pnB, fo2) := o1
    have r1' : Pl_planAnew_b81 ro ra (nI p) fl (upm pnB 1 0 0) fo2 (upm vc 2 0 0) (upm os 4 0 0) 0 = _ := r1
    rw [q1', o1', bn3_r, stk_r, r1', u1, bn3_r, stk_r]
  · unfold Mo_plansBy
    rw [b1, bn1_r, b6_s hn (by rw [b4]; exact hsn), b4, ← hs1, ← hmB, hF0 hn j1 K0e _ _ I0 P0.2.2.1 P0.sn, bn1_r, pk]
    exact (o2.trans u2).trans finP_s
  · exact (((b5.tr (by rw [hmB]; exact KP.up (by omega))).tr g4).tr w4).tr (KP.up (by omega))
  · refine hM.up ?_ (fun k hk => ?_)
    · rw [w3, r4', g3, q4]; exact p13
    · rcases w5 k hk with z | z
      · rw [r3'] at z
        rcases g5 k hk with z' | z'
        · left; rw [z, z', q3, p12]
        · right; rw [z, z', q4]; exact p13
      · right; rw [z, r4', g3, q4]; exact p13
  · rw [upA_n _ _ (by omega), w8, g8, hmB, upA_n _ _ (by omega), b7]
  · rw [upm_n _ _ _ (by omega), f3 9 (by omega) (by omega) (by omega), c4]
end P4
