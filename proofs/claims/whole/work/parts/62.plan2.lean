/-! a plan anew: the class's queues, the end -/
section P2
variable {n v m k c f : Nat} {fo ro ra vc os li mo pn mo0 : Mem} {x y sort ord : Int32} {s s' s1 : Nat → Int32} {U D D0 S : Nat → Bool} {K e : Nat → Nat} {kd : Bool}
/-- what the class asks of a flight while it lays its queues -/
def CQ (n : Nat) (fo ro : Mem) (s1 : Nat → Int32) : Prop := (∀ f, f < 20 → Fi_isFlight ro (nI f) = some (bI (f < n))) ∧ (∀ f, f < n → Fi_off ro (nI f) = some (offS s1 f)) ∧ fo 9 0 = s1 172 ∧ ∀ f, f < n → ro 1 f = s1 (8 * f + 1)
theorem enq1 {p2 : Int32} (hn : n ≤ 20) (h : CQ n fo ro s1) (j : Jf n s1) (hK : ∀ f, f < n → K f = etN s1 f) (hKb : ∀ f, f < 20 → K f < 10000) : ∀ (r k N m : Nat) (e : Nat → Nat) (pn : Mem), k + r = 20 → r < N → QS k (Cq n (fun _ => false) (S0 s1)) K m e pn → ∃ m' e' pn', Pl_planAnew_b21 ro ra p2 N pn fo vc os (nI k) = bn3 (Pl_seatAirborne pn' fo ro ra 0) (fun r_9 pn_10 fo_11 => stk (upm pn_10 1 0 0) (fun pn_12 => Pl_planAnew_b81 ro ra p2 fl pn_12 fo_11 vc os 0)) ∧ QS 20 (Cq n (fun _ => false) (S0 s1)) K m' e' pn' ∧ pn' 2 = pn 2 ∧ pn' 3 = pn 3
  | 0, k, N + 1, m, e, pn, hk, _, hq => by
    have e1 : k = 20 := by omega
    subst e1
    refine ⟨m, e, pn, ?_, hq, rfl, rfl⟩
    show Pl_planAnew_b21B ro ra p2 (Pl_planAnew_b21 ro ra p2 N) pn fo vc os (nI 20) = _
    unfold Pl_planAnew_b21B
    rw [if_pos (by decide)]
  | r + 1, k, N + 1, m, e, pn, hk, hN, hq => by
    show ∃ m' e' pn', Pl_planAnew_b21B ro ra p2 (Pl_planAnew_b21 ro ra p2 N) pn fo vc os (nI k) = _ ∧ _
    unfold Pl_planAnew_b21B
    rw [if_neg (show ¬ 20 ≤ nI k from nI_ge (b := 20) (by omega) (by omega)), h.1 k (by omega), bn1_r, bI_z]
    have no : Cq n (fun _ => false) (S0 s1) k = false → ∃ m' e' pn', Pl_planAnew_b21 ro ra p2 N pn fo vc os (nI (k + 1)) = bn3 (Pl_seatAirborne pn' fo ro ra 0) (fun r_9 pn_10 fo_11 => stk (upm pn_10 1 0 0) (fun pn_12 => Pl_planAnew_b81 ro ra p2 fl pn_12 fo_11 vc os 0)) ∧ QS 20 (Cq n (fun _ => false) (S0 s1)) K m' e' pn' ∧ pn' 2 = pn 2 ∧ pn' 3 = pn 3 := fun hc => enq1 hn h j hK hKb r (k + 1) N m e pn (by omega) (by omega) (hq.no hc)
    by_cases q : k < n
    · rw [if_pos q, h.2.1 k q, bn1_r, h.2.2.1]
      by_cases q2 : offS s1 k ≤ s1 172
      · have cc : Cq n (fun _ => false) (S0 s1) k = true := cq_of q rfl (decide_eq_true q2)
        obtain ⟨e', pn', a1, a2, a3, a4⟩ := hq.add cc (by omega) hKb
        obtain ⟨m2, e2, pn2, b1, b2, b3, b4⟩ := enq1 hn h j hK hKb r (k + 1) N (m + 1) e' pn' (by omega) (by omega) a2
        rw [if_neg (Int32.not_lt.mpr q2), ckI_nI _ (by omega) (by omega), nI_clamp (by omega), h.2.2.2 k q, (et_v j q).1, ← hK k q, a1, bn1_r, stk_r, nI_1]
        exact ⟨m2, e2, pn2, b1, b2, by rw [b3, a3], by rw [b4, a4]⟩
      · rw [if_pos (Int32.not_le.mp q2), stk_r, nI_1]
        exact no (by
          have : S0 s1 k = false := decide_eq_false q2
          show (decide (k < n) && (!false && S0 s1 k)) = false
          rw [this]; exact Bool.and_false _)
    · rw [if_neg q, stk_r, nI_1]
      exact no (by
        show (decide (k < n) && (!false && S0 s1 k)) = false
        rw [decide_eq_false q]; rfl)
theorem enq2 {p2 : Int32} (hn : n ≤ 20) (h : CQ n fo ro s1) (hK : ∀ f, f < n → S1 s1 f = true → Pl_keyOf fo ro (nI f) p2 = some (nI (K f))) (hKb : ∀ f, f < 20 → K f < 10000) (hD : ∀ f, f < n → S1 s1 f = true → D0 f = false) : ∀ (r k N m : Nat) (e : Nat → Nat) (pn : Mem), k + r = 20 → r < N → QS k (Cq n D0 (S1 s1)) K m e pn → ∃ m' e' pn', Pl_planAnew_b81 ro ra p2 N pn fo vc os (nI k) = bn3 (Pl_seatGrounded pn' fo ro ra) (fun r_27 pn_28 fo_29 => stk (upm fo_29 10 0 1) (fun fo_30 => some (pn_28, fo_30, vc, os))) ∧ QS 20 (Cq n D0 (S1 s1)) K m' e' pn' ∧ pn' 2 = pn 2 ∧ pn' 3 = pn 3
  | 0, k, N + 1, m, e, pn, hk, _, hq => by
    have e1 : k = 20 := by omega
    subst e1
    refine ⟨m, e, pn, ?_, hq, rfl, rfl⟩
    show Pl_planAnew_b81B ro ra p2 (Pl_planAnew_b81 ro ra p2 N) pn fo vc os (nI 20) = _
    unfold Pl_planAnew_b81B
    rw [if_pos (by decide)]
  | r + 1, k, N + 1, m, e, pn, hk, hN, hq => by
    show ∃ m' e' pn', Pl_planAnew_b81B ro ra p2 (Pl_planAnew_b81 ro ra p2 N) pn fo vc os (nI k) = _ ∧ _
    unfold Pl_planAnew_b81B
    rw [if_neg (show ¬ 20 ≤ nI k from nI_ge (b := 20) (by omega) (by omega)), h.1 k (by omega), bn1_r, bI_z]
    have no : Cq n D0 (S1 s1) k = false → ∃ m' e' pn', Pl_planAnew_b81 ro ra p2 N pn fo vc os (nI (k + 1)) = bn3 (Pl_seatGrounded pn' fo ro ra) (fun r_27 pn_28 fo_29 => stk (upm fo_29 10 0 1) (fun fo_30 => some (pn_28, fo_30, vc, os))) ∧ QS 20 (Cq n D0 (S1 s1)) K m' e' pn' ∧ pn' 2 = pn 2 ∧ pn' 3 = pn 3 := fun hc => enq2 hn h hK hKb hD r (k + 1) N m e pn (by omega) (by omega) (hq.no hc)
    by_cases q : k < n
    · rw [if_pos q, h.2.1 k q, bn1_r, h.2.2.1]
      by_cases q2 : offS s1 k ≤ s1 172
      · rw [if_pos q2, stk_r, nI_1]
        exact no (by
          have : S1 s1 k = false := decide_eq_false (fun z => z q2)
          show (decide (k < n) && (!D0 k && S1 s1 k)) = false
          rw [this, Bool.and_false, Bool.and_false])
      · have sk1 : S1 s1 k = true := decide_eq_true q2
        have cc : Cq n D0 (S1 s1) k = true := cq_of q (hD k q sk1) sk1
        obtain ⟨e', pn', a1, a2, a3, a4⟩ := hq.add cc (by omega) hKb
        obtain ⟨m2, e2, pn2, b1, b2, b3, b4⟩ := enq2 hn h hK hKb hD r (k + 1) N (m + 1) e' pn' (by omega) (by omega) a2
        rw [if_neg q2, hK k q sk1, bn1_r, a1, bn1_r, stk_r, nI_1]
        exact ⟨m2, e2, pn2, b1, b2, by rw [b3, a3], by rw [b4, a4]⟩
    · rw [if_neg q, stk_r, nI_1]
      exact no (by
        show (decide (k < n) && (!D0 k && S1 s1 k)) = false
        rw [decide_eq_false q]; rfl)
/-- the class's marks -/
def PM (M : Nat) (pn : Mem) : Prop := pn 3 0 = nI M ∧ ∀ k, k < 1200 → ∃ a, a ≤ M ∧ pn 2 k = nI a
theorem PM.up {M : Nat} {pn' : Mem} (h : PM M pn) (h3 : pn' 3 0 = nI (M + 1)) (h2 : ∀ k, k < 1200 → pn' 2 k = pn 2 k ∨ pn' 2 k = nI (M + 1)) : PM (M + 1) pn' := ⟨h3, fun k hk => by
  rcases h2 k hk with q | q
  · obtain ⟨a, h1, e⟩ := h.2 k hk; exact ⟨a, by omega, by rw [q]; exact e⟩
  · exact ⟨M + 1, Nat.le_refl _, q⟩⟩
theorem UR0 {M : Nat} {pn' : Mem} (h : PM M pn) (hM : M < 2 ^ 30) (h2 : pn' 2 = pn 2) (h3 : pn' 3 0 = nI (M + 1)) (hm : ∀ k, k < 1200 → mo 13 k = 0) : UR (fun _ => false) pn' mo := by
  refine ⟨fun k hk => ⟨fun z => ?_, fun z => Bool.noConfusion z⟩, fun k hk => by rw [hm k hk]; rfl⟩
  obtain ⟨a, h1, e⟩ := h.2 k hk
  rw [h2, e, h3] at z
  have := (nI_eq (by omega) (by omega)).mp z
  omega
theorem cn_f : ∀ k, cn (fun _ => false) k = 0
  | 0 => rfl
  | k + 1 => by show cn (fun _ => false) k + 0 = 0; rw [cn_f k]
theorem cn_disj {P Q : Nat → Bool} : ∀ k, (∀ i, i < k → ¬ (P i = true ∧ Q i = true)) → cn P k + cn Q k ≤ k
  | 0, _ => by show 0 + 0 ≤ 0; omega
  | k + 1, h => by
    have h1 := cn_disj k (fun i hi => h i (by omega))
    have h2 := h k (by omega)
    show cn P k + (if P k = true then 1 else 0) + (cn Q k + (if Q k = true then 1 else 0)) ≤ k + 1
    by_cases p : P k = true
    · rw [if_pos p, if_neg (fun q => h2 ⟨p, q⟩)]; omega
    · rw [if_neg p]; split <;> omega
/-- all have their slots: the field again -/
theorem RF_fin {v0 : Nat} {s0 : Nat → Int32} {fo1 vc' os' fo' : Mem} {pl : Int32} (h : PSt kd n U D c pn fo ro ra mo) (hI : IA n s1 D mo) (hall : ∀ f, f < n → D f = true) (h7 : ∀ f, f < n → s1 (8 * f + 7) = 0 ∨ s1 (8 * f + 7) = 1) (hgs : ∀ f, f < n → s1 (8 * f + 7) = 1 → ∃ m, m < 1200 ∧ s1 (8 * f + 4) = nI m) (hpl : pl = 0 ∨ pl = 1) (hl : Rl li s1) (jl : Jl n s1) (e9 : fo' 9 = fo 9) (e5 : fo' 5 = fo 5) (e6 : fo' 6 = fo 6) (e7 : fo' 7 = fo 7) (e10 : fo' 10 0 = pl) (e8 : fo' 8 0 = nI (msk (gone n s1) 20)) (ev : vc' 2 0 = 0) (eo : os' 4 0 = 0) : RF n 0 fo' ro ra vc' os' li (upd (cpS (mo 0)) 174 pl) := by
  have hn := h.n20
  obtain ⟨h1, h2, h3, h4, h5, h6, hj, ht, hp1, hp2⟩ := h
  have em : mkS kd D n (mo 0) = mo 0 := funext (fun i => if_neg (fun z => by
    have := hall (i / 8) z.2.2.1
    rw [this] at z
    exact Bool.noConfusion z.2.2.2))
  rw [em] at h4
  have u : ∀ i, i < 174 → upd (cpS (mo 0)) 174 pl i = mo 0 i := fun i hi => by
    rw [pk_un (by omega)]
    unfold cpS
    rw [if_neg (by omega)]
  have u5 : upd (cpS (mo 0)) 174 pl 175 = mo 0 175 := by rw [pk_un (by omega)]; unfold cpS; rw [if_neg (by omega)]
  have ul : ∀ i, 216 ≤ i → i < 252 → upd (cpS (mo 0)) 174 pl i = mo 0 i := fun i h1 h2 => by rw [pk_un (by omega)]; unfold cpS; rw [if_neg (by omega)]
  have zv : ∀ m, m < 1200 → upd (cpS (mo 0)) 174 pl (252 + m) = 0 := fun m hm => by rw [pk_un (by omega)]; unfold cpS; rw [if_pos (by omega)]
  have zo : ∀ i, i < 8 → upd (cpS (mo 0)) 174 pl (180 + 5 * i) = 0 := fun i hi => by rw [pk_un (by omega)]; unfold cpS; rw [if_pos (by omega)]
  have z4 : upd (cpS (mo 0)) 174 pl 174 = pl := pk_us
  generalize upd (cpS (mo 0)) 174 pl = s' at *
  have a1 : ag (mo 0) s' 0 160 := fun i _ h2 => u i (by omega)
  have a2 : ag (mo 0) s' 160 172 := fun i _ h2 => u i (by omega)
  have mm0 : ∀ i, i < 8 → made s' i = false := fun i hi => decide_eq_false (fun q => by rw [zo i hi] at q; exact absurd q (by decide))
  have h4' : Rf n fo' ro (mo 0) := by
    obtain ⟨r1, r2, r3, r4, r5, r6, r7⟩ := h4
    exact ⟨r1, r2, r3, by rw [e9]; exact r4, r5, fun f hf => by rw [e5, e6, e7]; exact r6 f hf, fun f p q => by rw [e5, e6, e7]; exact r7 f p q⟩
  have g7 : ∀ f, f < n → s' (8 * f + 7) = s1 (8 * f + 7) := fun f hf => by rw [u _ (by omega)]; exact (hI.1 f hf).1 7 (by omega)
  have go : ∀ i, gone n s' i = gone n s1 i := fun i => by
    unfold gone
    by_cases q : i < n
    · rw [g7 i q]
    · rw [decide_eq_false (fun z => q z.1), decide_eq_false (fun z => q z.1)]
  have pdm : ∀ f, f < n → (Pd s' f ↔ Pd (mo 0) f) := fun f hf => Pd_cg a1 (by omega)
  refine ⟨h4'.cg a1 (u _ (by omega)) (u _ (by omega)), h5.cg a2, ⟨by rw [z4]; exact e10, by rw [e8, msk_congr (fun i _ => go i)]⟩, ⟨by omega, ev, fun _ => 0, fun _ => 0, fun i hi => by omega, fun i j _ hj => by omega, fun m hm hz => absurd (zv m hm) hz⟩, ⟨by rw [eo, msk_0 mm0]; rfl, fun i hi hz => by rw [zo i hi] at hz; exact absurd hz (by decide)⟩, ?_, ⟨by rw [u _ (by omega)]; exact ht, by rw [z4]; exact hpl⟩, ?_, ?_, ?_, ?_, ⟨fun m hm => ⟨0, by omega, zv m hm⟩, fun f hf _ m hm _ => zv m hm⟩, h6.cg a2, fun i hi => Or.inl (zo i hi), ?_⟩
  · exact (hl.cg (hI.2 175 (by omega)) (fun i a b => hI.2 i (by omega))).cg u5 (fun i a b => ul i a b)
  · intro f hf
    rw [u _ (by omega), u _ (by omega), u _ (by omega), u _ (by omega)]
    exact hj f hf
  · intro f hf
    rw [g7 f hf, u (8 * f + 4) (by omega)]
    rcases h7 f hf with q | q
    · have p0 := (hI.1 f hf).2.1 (hall f hf) q
      obtain ⟨-, m', m1, m2, -⟩ := hp1 f hf (hall f hf) ⟨p0, by rw [(hI.1 f hf).1 7 (by omega)]; exact q⟩
      exact Or.inr ⟨Or.inl q, m', m1, m2⟩
    · obtain ⟨m', m1, m2⟩ := hgs f hf q
      exact Or.inr ⟨Or.inr q, m', m1, by rw [(hI.1 f hf).2.2.2 q 4 (by omega)]; exact m2⟩
  · intro f hf hp
    rw [u (8 * f + 1) (by omega), u (8 * f + 2) (by omega), u (8 * f + 4) (by omega), u (8 * f + 5) (by omega), u (8 * f + 6) (by omega), u 172 (by omega)]
    exact (hp1 f hf (hall f hf) ((pdm f hf).mp hp)).1
  · intro f g hf hg p q he
    rw [u (8 * f + 4) (by omega), u (8 * g + 4) (by omega)] at he
    exact hp2 f g hf hg (hall f hf) (hall g hg) ((pdm f hf).mp p) ((pdm g hg).mp q) he
  · exact (jl.cg (hI.2 175 (by omega)) (fun i a b => hI.2 i (by omega))).cg u5 (fun i a b => ul i a b)
end P2
