/-! a plan anew: in turn, and all of it -/
section P3
variable {n v m k c f : Nat} {fo ro ra vc os li mo pn mo0 : Mem} {x y sort ord : Int32} {s s' s1 : Nat → Int32} {U D D0 S : Nat → Bool} {K e : Nat → Nat} {kd : Bool}
theorem nx5 (κ : Nat) : (nI (κ % 5) + 1) - (nI (κ % 5) + 1) / 5 * 5 = nI ((κ + 1) % 5) := by
  have h : κ % 5 = 0 ∨ κ % 5 = 1 ∨ κ % 5 = 2 ∨ κ % 5 = 3 ∨ κ % 5 = 4 := by omega
  rcases h with h | h | h | h | h
  · rw [h, show (κ + 1) % 5 = 1 by omega]; decide
  · rw [h, show (κ + 1) % 5 = 2 by omega]; decide
  · rw [h, show (κ + 1) % 5 = 3 by omega]; decide
  · rw [h, show (κ + 1) % 5 = 4 by omega]; decide
  · rw [h, show (κ + 1) % 5 = 0 by omega]; decide
theorem turn_loop {fo0 : Nat → Int32} {pq : Mem} (hn : n ≤ 20) (j : Jf n s1) (h7 : ∀ f, f < n → s1 (8 * f + 7) = 0) (hq : QS 20 (Cq n D0 (S1 s1)) K m e pq) (hK : ∀ f, f < n → K f = 5 * tuN n s1 f + lnN s1 f) (hKb : ∀ f, f < 20 → K f < 10000) (hD0 : ∀ f, f < n → S1 s1 f = true → D0 f = false) (hm : m ≤ 20) :
    ∀ (q i κ N N' c : Nat) (pn fo mo : Mem) (x : Int32) (U : Nat → Bool), κ + q = 200 → i ≤ m → m - i < N → q < N' → c + (m - i) ≤ 35 → QR m e pn → PSt true n U (Dq D0 e i) c pn fo ro ra mo → IA n s1 (Dq D0 e i) mo → (∀ f, f < n → Dq D0 e i f = false → fo 5 f = fo0 f) → (∀ q, q < i → e q / 32 < κ) → (∀ q, i ≤ q → q < m → κ ≤ e q / 32) → ∃ pn' fo' mo' x', Pl_seatGrounded_b4 ro ra N pn fo x (nI i) = some (x', pn', fo') ∧ Mo_turns_b48 N' mo (nI (m - i)) (nI (κ % 5)) = some mo' ∧ GE true n ro ra mo fo0 (IA n s1) (Dq D0 e m) (c + (m - i)) pn fo x pn' fo' mo' x' := by
  have inv : ∀ q, q < m → ∃ f, f < n ∧ S1 s1 f = true ∧ e q = 32 * K f + f ∧ K f < 200 := fun q hq' => by
    obtain ⟨f, a1, a2, a3⟩ := hq.2.2.2.1 q hq'
    obtain ⟨b1, b2, b3⟩ := cq_t a2
    have t1 : tuN n s1 f ≤ 20 := cn_le _ 20
    have t2 := (ln_v j b1).2
    exact ⟨f, b1, b3, a3, by rw [hK f b1]; omega⟩
  intro q
  induction q with
  | zero =>
    intro i κ N N' c pn fo mo x U hk hi hN hN' hc hQ h hi' hfo lo hi2
    obtain ⟨N, rfl⟩ : ∃ q, N = q + 1 := ⟨N - 1, by omega⟩
    obtain ⟨N', rfl⟩ : ∃ q, N' = q + 1 := ⟨N' - 1, by omega⟩
    have e1 : i = m := by
      by_cases z : i = m
      · exact z
      · obtain ⟨f, b1, b2, b3, b4⟩ := inv i (by omega)
        have := hi2 i (Nat.le_refl _) (by omega)
        omega
    subst e1
    refine ⟨pn, fo, mo, x, ?_, ?_, ⟨U, by rw [Nat.sub_self, Nat.add_zero]; exact h⟩, hi', rfl, KP.rf, fun k _ => Or.inl rfl, rfl, fun _ _ _ _ => rfl, rfl, rfl⟩
    · show Pl_seatGrounded_b4B ro ra (Pl_seatGrounded_b4 ro ra N) pn fo x (nI i) = _
      unfold Pl_seatGrounded_b4B
      rw [hQ.1, if_pos (nI_le (Nat.le_refl _) (by omega))]
    · show Mo_turns_b48B (Mo_turns_b48 N') mo _ _ = _
      unfold Mo_turns_b48B
      rw [Nat.sub_self, if_pos (show nI 0 ≤ 0 by decide)]
  | succ q ih =>
    intro i κ N N' c pn fo mo x U hk hi hN hN' hc hQ h hi' hfo lo hi2
    obtain ⟨N, rfl⟩ : ∃ q, N = q + 1 := ⟨N - 1, by omega⟩
    obtain ⟨N', rfl⟩ : ∃ q, N' = q + 1 := ⟨N' - 1, by omega⟩
    by_cases e1 : i = m
    · subst e1
      refine ⟨pn, fo, mo, x, ?_, ?_, ⟨U, by rw [Nat.sub_self, Nat.add_zero]; exact h⟩, hi', rfl, KP.rf, fun k _ => Or.inl rfl, rfl, fun _ _ _ _ => rfl, rfl, rfl⟩
      · show Pl_seatGrounded_b4B ro ra (Pl_seatGrounded_b4 ro ra N) pn fo x (nI i) = _
        unfold Pl_seatGrounded_b4B
        rw [hQ.1, if_pos (nI_le (Nat.le_refl _) (by omega))]
      · show Mo_turns_b48B (Mo_turns_b48 N') mo _ _ = _
        unfold Mo_turns_b48B
        rw [Nat.sub_self, if_pos (show nI 0 ≤ 0 by decide)]
    · have im : i < m := by omega
      obtain ⟨r, hr⟩ : ∃ r, m - i = r + 1 := ⟨m - i - 1, by omega⟩
      have pk := turn_pick hn j hq hK hD0 hi lo hi2
      have fo1 := hFl (l := κ % 5) hn j (by omega) hi' h.2.2.1 h.sn
      rw [pk] at fo1
      have un : Mo_turns_b48 (N' + 1) mo (nI (m - i)) (nI (κ % 5)) = (if (if i < m ∧ e i / 32 = κ then nI (e i % 32) else -1) = (-1 : Int32) then Mo_turns_b48 N' mo (nI (m - i)) (nI ((κ + 1) % 5)) else bn1 (Mo_grounds mo (if i < m ∧ e i / 32 = κ then nI (e i % 32) else -1)) (fun mo_16 => Mo_turns_b48 N' mo_16 (nI r) (nI ((κ + 1) % 5)))) := by
        show Mo_turns_b48B (Mo_turns_b48 N') mo _ _ = _
        unfold Mo_turns_b48B Mo_turns_b77
        rw [hr, if_neg (nI_nle (by omega) (by omega)), fo1, bn1_r]
        simp only [stk_r, nx5]
        rw [show nI (r + 1) - 1 = nI r from pk_sub (a := r + 1) (b := 1) (by omega)]
      by_cases ek : e i / 32 = κ
      · obtain ⟨a1, a2, a3, a4, a5⟩ := qu_at hn hq hKb im
        have cnd : i < m ∧ e i / 32 = κ := ⟨im, ek⟩
        simp only [if_pos cnd] at un
        generalize hf : e i % 32 = f at a2 a3 a4 a5 un
        obtain ⟨k, k1, k2, k3, k4, k5, k6, k7⟩ := ground_step h (by omega) a2 a3 (by rw [(hi'.1 f a2).1 7 (by omega)]; exact h7 f a2)
        have I2 := hIg hn (fun f hf _ => h7 f hf) _ _ _ k hi' a2 a3 a4 k1
        have D2 : orD (Dq D0 e i) f = Dq D0 e (i + 1) := by rw [Dq_1, hf]
        rw [D2] at k7 I2
        have nf : ¬ nI f = -1 := fun z => by rw [nI_eqm (by omega)] at z; exact z
        have s5 : sgM fo f (nI k) (mo 0 (8 * f + 1)) 5 = upd (fo 5) f (nI k) := sg_5
        have t1 := sT_1 (n := n) (fo := fo) (fo' := sgM fo f (nI k) (mo 0 (8 * f + 1))) (fo0 := fo0) a2 (fun g hg => by rw [s5, pk_un hg]) (hfo f a2 a3)
        obtain ⟨pn', fo', mo', x', o1, o2, o3⟩ := ih (i + 1) (κ + 1) N N' (c + 1) (upm pn 2 k (pn 3 0)) (sgM fo f (nI k) (mo 0 (8 * f + 1))) (stM mo k f (gvS (mo 0) f (nI k))) (x + (if sgM fo f (nI k) (mo 0 (8 * f + 1)) 5 f = fo0 f then 0 else 1)) _ (by omega) (by omega) (by omega) (by omega) (by omega) hQ.mk2 k7 I2 (fun g hg hd => by
          rw [← D2] at hd
          have gf : g ≠ f := fun z => by subst z; rw [orD_s] at hd; exact Bool.noConfusion hd
          rw [orD_n gf] at hd
          rw [s5, pk_un gf]
          exact hfo g hg hd) (fun z hz => by
          by_cases zi : z = i
          · subst zi; omega
          · have := lo z (by omega); omega) (fun z hz hzm => by
          have h1 := hi2 z (by omega) hzm
          have h2 := hq.2.2.1 i z (by omega) hzm
          obtain ⟨f1, c1, c2, c3, c4⟩ := inv i im
          obtain ⟨f2, d1, d2, d3, d4⟩ := inv z hzm
          by_cases z2 : e z / 32 = κ
          · exfalso
            have l1 := (ln_v j c1).2
            have l2 := (ln_v j d1).2
            have kk : K f1 = K f2 := by omega
            rw [hK f1 c1, hK f2 d1] at kk
            have := tu_inj hn c1 d1 c2 d2 (by rw [(ln_v j c1).1, (ln_v j d1).1, show lnN s1 f1 = lnN s1 f2 by omega]) (by omega)
            subst this
            omega
          · omega)
        obtain ⟨p1, p2, p3, p4, p5, p6, p7, p8⟩ := o3
        refine ⟨pn', fo', mo', x', ?_, ?_, ?_, p2, ?_, stM_kp.tr p4, fun j hj => ?_, ?_, fun q q1 q2 q3 => ?_, ⟨by rw [p8.1, stM_15], by rw [p8.2, stM_1]⟩⟩
        · show Pl_seatGrounded_b4B ro ra (Pl_seatGrounded_b4 ro ra N) pn fo x (nI i) = _
          unfold Pl_seatGrounded_b4B
          rw [hQ.1, if_neg (nI_ge im (by omega)), if_neg (show ¬ 20 ≤ nI i from nI_ge (b := 20) (by omega) (by omega)), ckI_nI _ (by omega) (by omega), nI_clamp (by omega), hQ.2 i im, a5, stk_r, Fi_isFlight_s h.2.2.2.1 (by omega), bn1_r, bI_z, if_pos a2, ckI_nI _ (by omega) (by omega), nI_clamp (by omega), stk_r, k3, bn1_r, k4, bn2_r, k5, bn1_r, hfo f a2 a3]
          simp only [stk_r, nI_1]
          by_cases q : sgM fo f (nI k) (mo 0 (8 * f + 1)) 5 f = fo0 f
          · rw [if_pos q] at o1 ⊢; exact o1
          · rw [if_neg q] at o1 ⊢; exact o1
        · rw [un, if_neg nf, k6, bn1_r]
          rw [show m - (i + 1) = r by omega] at o2
          exact o2
        · rw [show c + (m - i) = c + 1 + (m - (i + 1)) by omega]; exact p1
        · rw [p3, upm_n _ _ _ (by omega)]
        · rcases p5 j hj with q | q
          · rw [upm_0] at q
            by_cases z : j = k
            · subst z; rw [pk_us] at q; exact Or.inr q
            · rw [pk_un z] at q; exact Or.inl q
          · rw [upm_n _ _ _ (by omega)] at q; exact Or.inr q
        · rw [t1] at p6
          grind
        · rw [p7 q q1 q2 q3, sg_n ⟨q1, q2, q3⟩]
      · have cnd : ¬ (i < m ∧ e i / 32 = κ) := fun z => ek z.2
        rw [show (if i < m ∧ e i / 32 = κ then nI (e i % 32) else -1) = (-1 : Int32) from if_neg cnd, if_pos rfl] at un
        rw [un]
        exact ih i (κ + 1) (N + 1) N' c pn fo mo x U (by omega) hi hN (by omega) hc hQ h hi' hfo (fun z hz => by have := lo z hz; omega) (fun z hz hzm => by
          have h1 := hi2 z hz hzm
          by_cases zi : z = i
          · subst zi; omega
          · have h2 := hq.2.2.1 i z (by omega) hzm
            have h3 := hi2 i (Nat.le_refl _) im
            omega)
/-- how many are left -/
theorem cn_lo {P : Nat → Bool} : ∀ k, k ≤ n → cn (fun f => decide (f < n) && P f) k = cn P k
  | 0, _ => rfl
  | k + 1, hk => by
    show cn (fun f => decide (f < n) && P f) k + (if (decide (k < n) && P k) = true then 1 else 0) = cn P k + (if P k = true then 1 else 0)
    rw [cn_lo k (by omega), decide_eq_true (show k < n by omega), Bool.true_and]
theorem cn_hi {P : Nat → Bool} : ∀ r, cn (fun f => decide (f < n) && P f) (n + r) = cn (fun f => decide (f < n) && P f) n
  | 0 => rfl
  | r + 1 => by
    show cn (fun f => decide (f < n) && P f) (n + r) + (if (decide (n + r < n) && P (n + r)) = true then 1 else 0) = _
    rw [cn_hi r, decide_eq_false (show ¬ n + r < n by omega)]
    rfl
theorem cn_cmp {P Q : Nat → Bool} : ∀ k, (∀ f, f < k → Q f = !P f) → cn P k + cn Q k = k
  | 0, _ => rfl
  | k + 1, h => by
    have h1 := cn_cmp (P := P) (Q := Q) k (fun f hf => h f (by omega))
    have h2 := h k (by omega)
    show cn P k + (if P k = true then 1 else 0) + (cn Q k + (if Q k = true then 1 else 0)) = k + 1
    rw [h2]
    cases P k
    · show cn P k + 0 + (cn Q k + 1) = k + 1; omega
    · show cn P k + 1 + (cn Q k + 0) = k + 1; omega
theorem b11_s (hn : n ≤ 20) (hs : mo 0 173 = nI n) (hd : ∀ f, f < 20 → mo 14 f = if D f then 1 else 0) : Mo_turns mo = Mo_turns_b48 fl mo (nI (n - cn D n)) 0 := by
  have l : ∀ (r k N : Nat), k + r = n → r < N → Mo_turns_b11 N mo (nI (n - cn D k)) (nI k) = Mo_turns_b48 fl mo (nI (n - cn D n)) 0 := by
    intro r
    induction r with
    | zero =>
      intro k N hk hN
      obtain ⟨N, rfl⟩ : ∃ q, N = q + 1 := ⟨N - 1, by omega⟩
      have e : k = n := by omega
      subst e
      show Mo_turns_b11B (Mo_turns_b11 N) mo _ (nI k) = _
      unfold Mo_turns_b11B
      rw [n173 (mo := mo), k173, hs, if_pos (nI_le (Nat.le_refl _) (by omega))]
    | succ r ih =>
      intro k N hk hN
      obtain ⟨N, rfl⟩ : ∃ q, N = q + 1 := ⟨N - 1, by omega⟩
      have ih' := ih (k + 1) N (by omega) (by omega)
      have cu : cn D (k + 1) = cn D k + (if D k = true then 1 else 0) := rfl
      have cl := cn_le D k
      rw [cu] at ih'
      show Mo_turns_b11B (Mo_turns_b11 N) mo _ (nI k) = _
      unfold Mo_turns_b11B
      rw [n173 (mo := mo), k173, hs, if_neg (nI_ge (by omega) (by omega)), ckI_nI _ (by omega) (by omega), nI_clamp (by omega), hd k (by omega)]
      simp only [stk_r, nI_1]
      cases q : D k with
      | false =>
        rw [q] at ih'
        rw [if_neg (show ¬ false = true by decide), if_pos rfl, Int32.sub_zero]
        exact ih'
      | true =>
        rw [q, if_pos rfl] at ih'
        rw [if_pos rfl, if_neg (by decide), show nI (n - cn D k) - 1 = nI (n - (cn D k + 1)) from (pk_sub (a := n - cn D k) (b := 1) (by omega)).trans (by congr 1)]
        exact ih'
  unfold Mo_turns
  rw [n173 (mo := mo), k173, hs, stk_r]
  exact l n 0 fl (by omega) (by rw [fl_v]; omega)
theorem gp2 {fo0 : Nat → Int32} (h : PSt true n U D0 c pn fo ro ra mo) (hI : IA n s1 D0 mo) (j : Jf n s1) (h7 : ∀ f, f < n → s1 (8 * f + 7) = 0) (hq : QS 20 (Cq n D0 (S1 s1)) K m e pn) (hK : ∀ f, f < n → K f = 5 * tuN n s1 f + lnN s1 f) (hKb : ∀ f, f < 20 → K f < 10000) (hD0 : ∀ f, f < n → S1 s1 f = true → D0 f = false) (hD1 : ∀ f, f < n → S1 s1 f = false → D0 f = true) (hc : c + m ≤ 35) (hm : m ≤ 20) (hfo : ∀ f, f < n → D0 f = false → fo 5 f = fo0 f) : ∃ pn' fo' mo' x', Pl_seatGrounded pn fo ro ra = some (x', pn', fo') ∧ REST 2 mo = finP mo' ∧ GE true n ro ra mo fo0 (IA n s1) (Dq D0 e m) (c + m) pn fo 0 pn' fo' mo' x' := by
  have hn := h.n20
  obtain ⟨pn', fo', mo', x', o1, o2, o3⟩ := turn_loop (ro := ro) (ra := ra) (fo0 := fo0) (pq := pn) hn j h7 hq hK hKb hD0 hm 200 0 0 fl fl c pn fo mo 0 U (by omega) (by omega) (by rw [fl_v]; omega) (by rw [fl_v]; omega) hc hq.1 (by rw [Dq_0]; exact h) (by rw [Dq_0]; exact hI) (by rw [Dq_0]; exact hfo) (fun q hq => by omega) (fun q _ _ => by omega)
  refine ⟨pn', fo', mo', x', o1, ?_, o3⟩
  obtain ⟨⟨U', hP⟩, hI', -⟩ := id o3
  have cm : cn D0 n + m = n := by
    rw [hq.2.1, show (20 : Nat) = n + (20 - n) by omega, cn_hi, cn_lo n (Nat.le_refl n)]
    refine cn_cmp n (fun f hf => ?_)
    cases q : D0 f with
    | false =>
      cases q2 : S1 s1 f with
      | false => rw [hD1 f hf q2] at q; exact Bool.noConfusion q
      | true => rfl
    | true => rfl
  unfold REST
  rw [if_pos rfl, b11_s hn h.sn h.2.2.1, show n - cn D0 n = m by omega]
  rw [show m - 0 = m by omega, show nI (0 % 5) = 0 from rfl] at o2
  rw [o2, bn1_r]
  unfold Mo_plansBy_b112
  rw [hF1 (K := etN s1) hn j (fun f hf => rfl) (by decide) (by decide) _ _ hI' hP.2.2.1 hP.sn, bn1_r]
  have no : bk (fun f => !Dq D0 e m f && S1 s1 f) (etN s1) n = -1 := by
    rcases bk_spec (c := fun f => !Dq D0 e m f && S1 s1 f) (K := etN s1) n hn with ⟨e1, -⟩ | ⟨g, hg, e1, cg, -⟩
    · exact e1
    · exfalso
      have d1 : (!Dq D0 e m g) = true ∧ S1 s1 g = true := Bool.and_eq_true _ _ ▸ cg
      obtain ⟨q, q1, q2⟩ := hq.2.2.2.2 g (by omega) (cq_of hg (hD0 g hg d1.2) d1.2)
      have := any_in (g := fun q => e q % 32) (i := q) (k := m) q1
      have e3 : (fun q => e q % 32) q = g := by show e q % 32 = g; omega
      have e4 : Dq D0 e m g = true := by
        show (D0 g || anyN (fun q => e q % 32) m g) = true
        rw [← e3, this, Bool.or_true]
      rw [e4] at d1
      exact Bool.noConfusion d1.1
  rw [no]
  exact b120_s (fl - 1) mo' (-1)
end P3
