/-! planning: the loops over the queue -/
section LO
variable {n v m k c f : Nat} {fo ro ra vc os li mo pn mo0 : Mem} {x y sort ord : Int32} {s s' : Nat → Int32} {U D D0 S : Nat → Bool} {K e : Nat → Nat} {kd : Bool}
def Dq (D0 : Nat → Bool) (e : Nat → Nat) (i : Nat) : Nat → Bool := fun f => D0 f || anyN (fun j => e j % 32) i f
abbrev Cq (n : Nat) (D0 S : Nat → Bool) : Nat → Bool := fun f => decide (f < n) && (!D0 f && S f)
theorem any_no {g : Nat → Nat} {z : Nat} : ∀ {i : Nat}, (∀ j, j < i → g j ≠ z) → anyN g i z = false
  | 0, _ => rfl
  | i + 1, h => by
    unfold anyN
    rw [any_no (fun j hj => h j (by omega)), decide_eq_false (h i (by omega))]
    rfl
theorem any_ex {g : Nat → Nat} {z : Nat} : ∀ {i : Nat}, anyN g i z = true → ∃ j, j < i ∧ g j = z
  | 0, h => Bool.noConfusion h
  | i + 1, h => by
    unfold anyN at h
    rcases Bool.or_eq_true _ _ ▸ h with q | q
    · obtain ⟨j, hj, e⟩ := any_ex q; exact ⟨j, by omega, e⟩
    · exact ⟨i, by omega, of_decide_eq_true q⟩
theorem Dq_0 : Dq D0 e 0 = D0 := funext (fun f => by show (D0 f || false) = D0 f; rw [Bool.or_false])
theorem Dq_1 {i : Nat} : Dq D0 e (i + 1) = orD (Dq D0 e i) (e i % 32) := funext (fun f => by
  show (D0 f || (anyN (fun j => e j % 32) i f || decide (e i % 32 = f))) = ((D0 f || anyN (fun j => e j % 32) i f) || decide (f = e i % 32))
  rw [Bool.or_assoc]
  congr 2
  by_cases q : f = e i % 32
  · rw [decide_eq_true q, decide_eq_true q.symm]
  · rw [decide_eq_false q, decide_eq_false (fun z => q z.symm)])
theorem cq_t (h : Cq n D0 S f = true) : f < n ∧ D0 f = false ∧ S f = true := by
  have h1 : decide (f < n) = true ∧ (!D0 f && S f) = true := Bool.and_eq_true _ _ ▸ h
  have h2 : (!D0 f) = true ∧ S f = true := Bool.and_eq_true _ _ ▸ h1.2
  refine ⟨of_decide_eq_true h1.1, ?_, h2.2⟩
  cases q : D0 f with
  | false => rfl
  | true => rw [q] at h2; exact Bool.noConfusion h2.1
theorem cq_of (h1 : f < n) (h2 : D0 f = false) (h3 : S f = true) : Cq n D0 S f = true := by
  show (decide (f < n) && (!D0 f && S f)) = true
  rw [decide_eq_true h1, h2, h3]
  rfl
/-- the queue's i-th -/
theorem qu_at {i : Nat} {pq : Mem} (hn : n ≤ 20) (hq : QS 20 (Cq n D0 S) K m e pq) (hK : ∀ f, f < 20 → K f < 10000) (hi : i < m) : e i < 2 ^ 30 ∧ e i % 32 < n ∧ Dq D0 e i (e i % 32) = false ∧ S (e i % 32) = true ∧ nI (e i) &&& 31 = nI (e i % 32) := by
  obtain ⟨f, h1, h2, h3⟩ := hq.2.2.2.1 i hi
  obtain ⟨a1, a2, a3⟩ := cq_t h2
  have hk := hK f h1
  have ef : e i % 32 = f := by omega
  rw [ef]
  refine ⟨by omega, a1, ?_, a3, ?_⟩
  · show (D0 f || anyN (fun j => e j % 32) i f) = false
    rw [a2, any_no (fun j hj z => ?_)]
    · rfl
    · have z : e j % 32 = f := z
      obtain ⟨g, b1, b2, b3⟩ := hq.2.2.2.1 j (by omega)
      have : g = f := by omega
      subst this
      have := hq.2.2.1 j i hj hi
      omega
  · rw [pk_andN (by omega) 5 (by decide), show e i % 2 ^ 5 = e i % 32 from rfl, ef]
theorem q_pick {i : Nat} {pq : Mem} (hn : n ≤ 20) (hq : QS 20 (Cq n D0 S) K m e pq) (hi : i ≤ m) : bk (fun f => !Dq D0 e i f && S f) K n = if i < m then nI (e i % 32) else -1 := by
  refine pick_s hn hq (fun f _ hc => (cq_t hc).1) hi (fun f hf => ?_)
  constructor
  · intro h
    have h2 : (!Dq D0 e i f) = true ∧ S f = true := Bool.and_eq_true _ _ ▸ h
    have h3 : Dq D0 e i f = false := by
      cases q : Dq D0 e i f with
      | false => rfl
      | true => rw [q] at h2; exact Bool.noConfusion h2.1
    have h4 : D0 f = false ∧ anyN (fun j => e j % 32) i f = false := Bool.or_eq_false_iff.mp h3
    refine ⟨cq_of hf h4.1 h2.2, fun j hj z => ?_⟩
    have := any_in (g := fun j => e j % 32) (i := j) (k := i) hj
    rw [show e j % 32 = f by omega, h4.2] at this
    exact Bool.noConfusion this
  · rintro ⟨h1, h2⟩
    obtain ⟨a1, a2, a3⟩ := cq_t h1
    have : Dq D0 e i f = false := by
      show (D0 f || anyN (fun j => e j % 32) i f) = false
      rw [a2, any_no (fun j hj z => ?_)]
      · rfl
      · have z : e j % 32 = f := z
        obtain ⟨g, b1, b2, b3⟩ := hq.2.2.2.1 j (by omega)
        have : g = f := by omega
        subst this
        exact h2 j hj b3
    show (!Dq D0 e i f && S f) = true
    rw [this, a3]
    rfl
/-- seats that are others than they were -/
def sT (fo0 : Nat → Int32) (n : Nat) (fo : Mem) : Int32 := sm (fun f => if fo 5 f = fo0 f then 0 else 1) n
theorem sT_1 {fo0 : Nat → Int32} {fo' : Mem} (hf : f < n) (e : ∀ g, g ≠ f → fo' 5 g = fo 5 g) (e0 : fo 5 f = fo0 f) : sT fo0 n fo' = sT fo0 n fo + (if fo' 5 f = fo0 f then 0 else 1) := by
  unfold sT
  rw [sm_one (g := fun f => if fo' 5 f = fo0 f then 0 else 1) (h := fun f => if fo 5 f = fo0 f then 0 else 1) (f := f) (fun j _ hj => by
    show (if fo' 5 j = fo0 j then (0 : Int32) else 1) = if fo 5 j = fo0 j then 0 else 1
    rw [e j hj]) hf]
  show _ + ((if fo' 5 f = fo0 f then (0 : Int32) else 1) - (if fo 5 f = fo0 f then 0 else 1)) = _
  rw [if_pos e0]
  congr 1
  grind
theorem QR.mk2 (h : QR m e pn) {z : Int32} : QR m e (upm pn 2 k z) := ⟨by rw [upm_n _ _ _ (by omega)]; exact h.1, fun i hi => by rw [upm_n _ _ _ (by omega)]; exact h.2 i hi⟩
def GE (kd : Bool) (n : Nat) (ro ra mo0 : Mem) (fo0 : Nat → Int32) (I : (Nat → Bool) → Mem → Prop) (D : Nat → Bool) (c : Nat) (pn0 : Mem) (fo : Mem) (x : Int32) (pn' fo' mo' : Mem) (x' : Int32) : Prop := (∃ U', PSt kd n U' D c pn' fo' ro ra mo') ∧ I D mo' ∧ pn' 3 = pn0 3 ∧ KP mo0 mo' ∧ (∀ k, k < 1200 → pn' 2 k = pn0 2 k ∨ pn' 2 k = pn0 3 0) ∧ x' + sT fo0 n fo = x + sT fo0 n fo' ∧ (∀ q, q ≠ 5 → q ≠ 6 → q ≠ 7 → fo' q = fo q) ∧ (mo' 15 = mo0 15 ∧ mo' 1 = mo0 1)
theorem stM_1 : stM mo k f s 1 = mo 1 := by unfold stM; rw [upm_n _ _ _ (by omega), upA_n _ _ (by omega), upm_n _ _ _ (by omega)]
theorem ground_loop {FIN : Mem → Option Mem} {L : Nat → Mem → Int32 → Option Mem} {I : (Nat → Bool) → Mem → Prop} {fo0 : Nat → Int32} {pq : Mem}
    (hL : ∀ N mo x, L (N + 1) mo x = if x = -1 then FIN mo else bn1 (Mo_grounds mo x) (fun mo' => bn1 (Mo_firstOf mo' sort ord (-1)) (fun r => L N mo' r)))
    (hI : ∀ D mo f k, I D mo → f < n → D f = false → S f = true → k < 1196 → I (orD D f) (stM mo k f (gvS (mo 0) f (nI k))))
    (hF : ∀ D mo, I D mo → (∀ f, f < 20 → mo 14 f = if D f then 1 else 0) → mo 0 173 = nI n → Mo_firstOf mo sort ord (-1) = some (bk (fun f => !D f && S f) K n))
    (hG : ∀ D mo f, I D mo → f < n → D f = false → S f = true → mo 0 (8 * f + 7) = 0)
    (hn : n ≤ 20) (hq : QS 20 (Cq n D0 S) K m e pq) (hK : ∀ f, f < 20 → K f < 10000) (hm : m ≤ 20) :
    ∀ (r i N N' c : Nat) (pn fo mo : Mem) (x : Int32) (U : Nat → Bool), i + r = m → r < N → r < N' → c + r ≤ 35 → QR m e pn → PSt kd n U (Dq D0 e i) c pn fo ro ra mo → I (Dq D0 e i) mo → (∀ f, f < n → Dq D0 e i f = false → fo 5 f = fo0 f) → ∃ pn' fo' mo' x', Pl_seatGrounded_b4 ro ra N pn fo x (nI i) = some (x', pn', fo') ∧ L N' mo (if i < m then nI (e i % 32) else -1) = FIN mo' ∧ GE kd n ro ra mo fo0 I (Dq D0 e m) (c + r) pn fo x pn' fo' mo' x' := by
  intro r
  induction r with
  | zero =>
    intro i N N' c pn fo mo x U hi hN hN' hc hQ h hi' hfo
    obtain ⟨N, rfl⟩ : ∃ q, N = q + 1 := ⟨N - 1, by omega⟩
    obtain ⟨N', rfl⟩ : ∃ q, N' = q + 1 := ⟨N' - 1, by omega⟩
    have e1 : i = m := by omega
    subst e1
    refine ⟨pn, fo, mo, x, ?_, ?_, ⟨U, h⟩, hi', rfl, KP.rf, fun k _ => Or.inl rfl, rfl, fun _ _ _ _ => rfl, rfl, rfl⟩
    · show Pl_seatGrounded_b4B ro ra (Pl_seatGrounded_b4 ro ra N) pn fo x (nI i) = _
      unfold Pl_seatGrounded_b4B
      rw [hQ.1, if_pos (nI_le (Nat.le_refl _) (by omega))]
    · rw [if_neg (Nat.lt_irrefl i), hL, if_pos rfl]
  | succ r ih =>
    intro i N N' c pn fo mo x U hi hN hN' hc hQ h hi' hfo
    obtain ⟨N, rfl⟩ : ∃ q, N = q + 1 := ⟨N - 1, by omega⟩
    obtain ⟨N', rfl⟩ : ∃ q, N' = q + 1 := ⟨N' - 1, by omega⟩
    have im : i < m := by omega
    obtain ⟨a1, a2, a3, a4, a5⟩ := qu_at hn hq hK im
    generalize hf : e i % 32 = f at a2 a3 a4 a5
    obtain ⟨k, k1, k2, k3, k4, k5, k6, k7⟩ := ground_step h (by omega) a2 a3 (hG _ _ _ hi' a2 a3 a4)
    have I2 := hI _ _ _ k hi' a2 a3 a4 k1
    have D2 : orD (Dq D0 e i) f = Dq D0 e (i + 1) := by rw [Dq_1, hf]
    rw [D2] at k7 I2
    have nf : ¬ nI f = -1 := fun z => by rw [nI_eqm (by omega)] at z; exact z
    have s5 : sgM fo f (nI k) (mo 0 (8 * f + 1)) 5 = upd (fo 5) f (nI k) := sg_5
    have t1 := sT_1 (n := n) (fo := fo) (fo' := sgM fo f (nI k) (mo 0 (8 * f + 1))) (fo0 := fo0) a2 (fun g hg => by rw [s5, pk_un hg]) (hfo f a2 a3)
    obtain ⟨pn', fo', mo', x', o1, o2, o3⟩ := ih (i + 1) N N' (c + 1) (upm pn 2 k (pn 3 0)) (sgM fo f (nI k) (mo 0 (8 * f + 1))) (stM mo k f (gvS (mo 0) f (nI k))) (x + (if sgM fo f (nI k) (mo 0 (8 * f + 1)) 5 f = fo0 f then 0 else 1)) _ (by omega) (by omega) (by omega) (by omega) hQ.mk2 k7 I2 (fun g hg hd => by
      rw [← D2] at hd
      have gf : g ≠ f := fun z => by subst z; rw [orD_s] at hd; exact Bool.noConfusion hd
      rw [orD_n gf] at hd
      rw [s5, pk_un gf]
      exact hfo g hg hd)
    obtain ⟨p1, p2, p3, p4, p5, p6, p7, p8⟩ := o3
    refine ⟨pn', fo', mo', x', ?_, ?_, ?_, p2, ?_, stM_kp.tr p4, fun j hj => ?_, ?_, fun q q1 q2 q3 => ?_, ⟨by rw [p8.1, stM_15], by rw [p8.2, stM_1]⟩⟩
    · show Pl_seatGrounded_b4B ro ra (Pl_seatGrounded_b4 ro ra N) pn fo x (nI i) = _
      unfold Pl_seatGrounded_b4B
      rw [hQ.1, if_neg (nI_ge im (by omega)), if_neg (show ¬ 20 ≤ nI i from nI_ge (b := 20) (by omega) (by omega)), ckI_nI _ (by omega) (by omega), nI_clamp (by omega), hQ.2 i im, a5, stk_r, Fi_isFlight_s h.2.2.2.1 (by omega), bn1_r, bI_z, if_pos a2, ckI_nI _ (by omega) (by omega), nI_clamp (by omega), stk_r, k3, bn1_r, k4, bn2_r, k5, bn1_r, hfo f a2 a3]
      simp only [stk_r, nI_1]
      by_cases q : sgM fo f (nI k) (mo 0 (8 * f + 1)) 5 f = fo0 f
      · rw [if_pos q] at o1 ⊢; exact o1
      · rw [if_neg q] at o1 ⊢; exact o1
    · rw [if_pos im, hL, if_neg nf, k6, bn1_r, hF _ _ I2 k7.2.2.1 k7.sn, bn1_r, q_pick hn hq (by omega)]
      exact o2
    · rw [show c + (r + 1) = c + 1 + r by omega]; exact p1
    · rw [p3, upm_n _ _ _ (by omega)]
    · rcases p5 j hj with q | q
      · rw [upm_0] at q
        by_cases z : j = k
        · subst z; rw [pk_us] at q; exact Or.inr q
        · rw [pk_un z] at q; exact Or.inl q
      · rw [upm_n _ _ _ (by omega)] at q; exact Or.inr q
    · rw [t1] at p6
      grind
    · rw [p7 q q1 q2 q3, sg_n ⟨q1, q2, q3⟩]
/-- those in the air -/
theorem air_loop {FIN : Mem → Option Mem} {L : Nat → Mem → Int32 → Option Mem} {I : (Nat → Bool) → Mem → Prop} {fo0 : Nat → Int32} {pq : Mem} {H : Nat → Nat} {from' : Nat}
    (hL0 : ∀ N mo, L (N + 1) mo (-1) = FIN mo)
    (hL : ∀ N D mo f k, I D mo → f < n → D f = false → S f = true → mo 0 173 = nI n → Mo_takesFrom mo (nI (max (etN (mo 0) f + H f) from')) = some (nI k, upm mo 13 k 1) → L (N + 1) mo (nI f) = bn1 (Mo_firstOf (stM mo k f (avS (mo 0) f (nI k) (nI (H f)))) sort ord (-1)) (fun r => L N (stM mo k f (avS (mo 0) f (nI k) (nI (H f)))) r))
    (hI : ∀ D mo f k, I D mo → f < n → D f = false → S f = true → k < 1196 → I (orD D f) (stM mo k f (avS (mo 0) f (nI k) (nI (H f)))))
    (hF : ∀ D mo, I D mo → (∀ f, f < 20 → mo 14 f = if D f then 1 else 0) → mo 0 173 = nI n → Mo_firstOf mo sort ord (-1) = some (bk (fun f => !D f && S f) K n))
    (hG : ∀ D mo f, I D mo → f < n → D f = false → S f = true → mo 0 (8 * f + 7) = 0)
    (hH : ∀ U D c pn fo mo f, PSt kd n U D c pn fo ro ra mo → I D mo → f < n → D f = false → S f = true → fo 6 f = nI (H f) ∧ etN (mo 0) f + H f ≤ 1020 ∧ ∀ t cc, mo 0 172 = nI t → t < 720 → mo 0 (8 * f + 2) = nI cc → cc ≤ 300 → etN (mo 0) f + H f ≤ t + cc)
    (hfr : from' ≤ 1020) (hn : n ≤ 20) (hq : QS 20 (Cq n D0 S) K m e pq) (hK : ∀ f, f < 20 → K f < 10000) (hm : m ≤ 20) :
    ∀ (r i N N' c : Nat) (pn fo mo : Mem) (x : Int32) (U : Nat → Bool), i + r = m → r < N → r < N' → c + r ≤ 35 → QR m e pn → PSt kd n U (Dq D0 e i) c pn fo ro ra mo → I (Dq D0 e i) mo → (∀ f, f < n → Dq D0 e i f = false → fo 5 f = fo0 f) → ∃ pn' fo' mo' x', Pl_seatAirborne_b5 ro ra (nI from') N pn fo x (nI i) = some (x', pn', fo') ∧ L N' mo (if i < m then nI (e i % 32) else -1) = FIN mo' ∧ GE kd n ro ra mo fo0 I (Dq D0 e m) (c + r) pn fo x pn' fo' mo' x' ∧ ∀ f, f < n → Dq D0 e m f = false → fo' 5 f = fo0 f := by
  intro r
  induction r with
  | zero =>
    intro i N N' c pn fo mo x U hi hN hN' hc hQ h hi' hfo
    obtain ⟨N, rfl⟩ : ∃ q, N = q + 1 := ⟨N - 1, by omega⟩
    obtain ⟨N', rfl⟩ : ∃ q, N' = q + 1 := ⟨N' - 1, by omega⟩
    have e1 : i = m := by omega
    subst e1
    refine ⟨pn, fo, mo, x, ?_, ?_, ⟨⟨U, h⟩, hi', rfl, KP.rf, fun k _ => Or.inl rfl, rfl, fun _ _ _ _ => rfl, rfl, rfl⟩, hfo⟩
    · show Pl_seatAirborne_b5B ro ra (nI from') (Pl_seatAirborne_b5 ro ra (nI from') N) pn fo x (nI i) = _
      unfold Pl_seatAirborne_b5B
      rw [hQ.1, if_pos (nI_le (Nat.le_refl _) (by omega))]
    · rw [if_neg (Nat.lt_irrefl i), hL0]
  | succ r ih =>
    intro i N N' c pn fo mo x U hi hN hN' hc hQ h hi' hfo
    obtain ⟨N, rfl⟩ : ∃ q, N = q + 1 := ⟨N - 1, by omega⟩
    obtain ⟨N', rfl⟩ : ∃ q, N' = q + 1 := ⟨N' - 1, by omega⟩
    have im : i < m := by omega
    obtain ⟨a1, a2, a3, a4, a5⟩ := qu_at hn hq hK im
    generalize hf : e i % 32 = f at a2 a3 a4 a5
    obtain ⟨h6, hb, hcd⟩ := hH _ _ _ _ _ _ _ h hi' a2 a3 a4
    obtain ⟨k, k1, k2, k4, k5, k6, k7⟩ := air_step (a := max (etN (mo 0) f + H f) from') h (by omega) a2 a3 (hG _ _ _ hi' a2 a3 a4) h6 (by omega) (by omega) hcd
    have I2 := hI _ _ _ k hi' a2 a3 a4 k1
    have D2 : orD (Dq D0 e i) f = Dq D0 e (i + 1) := by rw [Dq_1, hf]
    rw [D2] at k7 I2
    have s5 : aM fo f (nI k) (mo 0 (8 * f + 1)) (nI (H f)) 5 = upd (fo 5) f (nI k) := by unfold aM; rw [upm_n _ _ _ (by omega), upm_0]
    have sn : ∀ q, q ≠ 5 → q ≠ 7 → aM fo f (nI k) (mo 0 (8 * f + 1)) (nI (H f)) q = fo q := fun q q1 q2 => by unfold aM; rw [upm_n _ _ _ q2, upm_n _ _ _ q1]
    have t1 := sT_1 (n := n) (fo := fo) (fo' := aM fo f (nI k) (mo 0 (8 * f + 1)) (nI (H f))) (fo0 := fo0) a2 (fun g hg => by rw [s5, pk_un hg]) (hfo f a2 a3)
    obtain ⟨pn', fo', mo', x', o1, o2, o3, o4⟩ := ih (i + 1) N N' (c + 1) (upm pn 2 k (pn 3 0)) (aM fo f (nI k) (mo 0 (8 * f + 1)) (nI (H f))) (stM mo k f (avS (mo 0) f (nI k) (nI (H f)))) (x + (if aM fo f (nI k) (mo 0 (8 * f + 1)) (nI (H f)) 5 f = fo0 f then 0 else 1)) _ (by omega) (by omega) (by omega) (by omega) hQ.mk2 k7 I2 (fun g hg hd => by
      rw [← D2] at hd
      have gf : g ≠ f := fun z => by subst z; rw [orD_s] at hd; exact Bool.noConfusion hd
      rw [orD_n gf] at hd
      rw [s5, pk_un gf]
      exact hfo g hg hd)
    obtain ⟨p1, p2, p3, p4, p5, p6, p7, p8⟩ := o3
    refine ⟨pn', fo', mo', x', ?_, ?_, ⟨?_, p2, ?_, stM_kp.tr p4, fun j hj => ?_, ?_, fun q q1 q2 q3 => ?_, ⟨by rw [p8.1, stM_15], by rw [p8.2, stM_1]⟩⟩, o4⟩
    · show Pl_seatAirborne_b5B ro ra (nI from') (Pl_seatAirborne_b5 ro ra (nI from') N) pn fo x (nI i) = _
      unfold Pl_seatAirborne_b5B
      have hn20 := h.n20
      have et : ro 1 f = nI (etN (mo 0) f) := by rw [h.2.2.2.1.et a2, mk_o (by omega)]; exact (et_v h.2.2.2.2.2.2.1 a2).1
      have mxe : (if nI (etN (mo 0) f + H f) < nI from' then nI from' else nI (etN (mo 0) f + H f)) = nI (max (etN (mo 0) f + H f) from') := mx_nI (by omega) (by omega)
      rw [hQ.1, if_neg (nI_ge im (by omega)), if_neg (show ¬ 20 ≤ nI i from nI_ge (b := 20) (by omega) (by omega)), ckI_nI _ (by omega) (by omega), nI_clamp (by omega), hQ.2 i im, a5, stk_r, Fi_isFlight_s h.2.2.2.1 (by omega), bn1_r, bI_z, if_pos a2, ckI_nI _ (by omega) (by omega), nI_clamp (by omega), stk_r, stk_r, et, h6, nI_add, mxe, k4, bn2_r, k6, bn1_r, hfo f a2 a3]
      simp only [stk_r, nI_1]
      by_cases q : aM fo f (nI k) (mo 0 (8 * f + 1)) (nI (H f)) 5 f = fo0 f
      · rw [if_pos q] at o1 ⊢; exact o1
      · rw [if_neg q] at o1 ⊢; exact o1
    · rw [if_pos im, hL N' _ mo f k hi' a2 a3 a4 h.sn k5, hF _ _ I2 k7.2.2.1 k7.sn, bn1_r, q_pick hn hq (by omega)]
      exact o2
    · rw [show c + (r + 1) = c + 1 + r by omega]; exact p1
    · rw [p3, upm_n _ _ _ (by omega)]
    · rcases p5 j hj with q | q
      · rw [upm_0] at q
        by_cases z : j = k
        · subst z; rw [pk_us] at q; exact Or.inr q
        · rw [pk_un z] at q; exact Or.inl q
      · rw [upm_n _ _ _ (by omega)] at q; exact Or.inr q
    · rw [t1] at p6
      grind
    · rw [p7 q q1 q2 q3, sn q q1 q3]
end LO
