/-! a plan anew -/
section PN
variable {n v m k c f : Nat} {fo ro ra vc os li mo pn mo0 : Mem} {x y sort ord : Int32} {s s' s1 : Nat → Int32} {U D D0 S : Nat → Bool} {K e : Nat → Nat} {kd : Bool}
/-- what stays while slots are given -/
def IA (n : Nat) (s1 : Nat → Int32) (D : Nat → Bool) (mo : Mem) : Prop := (∀ f, f < n → (∀ w, w < 4 ∨ w = 7 → mo 0 (8 * f + w) = s1 (8 * f + w)) ∧ (D f = true → s1 (8 * f + 7) = 0 → 0 ≤ mo 0 (8 * f + 4)) ∧ (D f = false → ∀ w, w < 8 → mo 0 (8 * f + w) = s1 (8 * f + w)) ∧ (s1 (8 * f + 7) = 1 → ∀ w, w < 8 → mo 0 (8 * f + w) = s1 (8 * f + w))) ∧ ∀ i, 160 ≤ i → mo 0 i = s1 i
theorem IA.et (h : IA n s1 D mo) (hf : f < n) : etN (mo 0) f = etN s1 f := by unfold etN; rw [(h.1 f hf).1 1 (by omega)]
theorem IA.jf (h : IA n s1 D mo) (j : Jf n s1) : Jf n (mo 0) := fun f hf => by
  rw [show mo 0 (8 * f) = s1 (8 * f) from (h.1 f hf).1 0 (by omega), (h.1 f hf).1 1 (by omega), (h.1 f hf).1 2 (by omega), (h.1 f hf).1 3 (by omega)]
  exact j f hf
theorem IA.off (h : IA n s1 D mo) (hf : f < n) : offS (mo 0) f = offS s1 f := by unfold offS; rw [(h.1 f hf).1 1 (by omega), (h.1 f hf).1 2 (by omega)]
theorem IA.step (h : IA n s1 D mo) (hn : n ≤ 20) (hf : f < n) (hd : D f = false) (hg : s1 (8 * f + 7) = 0) (ech : ∀ i, i ≠ 8 * f + 4 → i ≠ 8 * f + 5 → i ≠ 8 * f + 6 → s' i = mo 0 i) (e4 : 0 ≤ s' (8 * f + 4)) : IA n s1 (orD D f) (stM mo k f s') := by
  refine ⟨fun g hg' => ?_, fun i hi => by rw [stM_0, ech i (by omega) (by omega) (by omega)]; exact h.2 i hi⟩
  rw [stM_0]
  obtain ⟨h1, h2, h3, h4⟩ := h.1 g hg'
  by_cases q : g = f
  · subst q
    refine ⟨fun w hw => by rw [ech _ (by omega) (by omega) (by omega)]; exact h1 w hw, fun _ _ => e4, fun z => ?_, fun z => ?_⟩
    · rw [orD_s] at z; exact Bool.noConfusion z
    · rw [hg] at z; exact absurd z (by decide)
  · rw [orD_n q]
    refine ⟨fun w hw => by rw [ech _ (by omega) (by omega) (by omega)]; exact h1 w hw, fun a b => by rw [ech _ (by omega) (by omega) (by omega)]; exact h2 a b, fun z w hw => by rw [ech _ (by omega) (by omega) (by omega)]; exact h3 z w hw, fun z w hw => by rw [ech _ (by omega) (by omega) (by omega)]; exact h4 z w hw⟩
/-- a choice of a sort, of all lines -/
theorem fo_hc {c : Nat → Bool} (hn : n ≤ 20) (hs : mo 0 173 = nI n) (hd : ∀ f, f < 20 → mo 14 f = if D f then 1 else 0) (h48 : ∀ f, f < n → D f = false → ∀ k6 x4, Mo_firstOf_b48 mo sort ord (-1) k6 x4 (nI f) = if S f then Mo_firstOf_b122 mo sort ord (-1) k6 x4 (nI f) 1 else k6 x4 (nI (f + 1))) : ∀ f, f < n → ∀ k6 x4, Mo_firstOf_b6B mo sort ord (-1) k6 x4 (nI f) = if (!D f && S f) then Mo_firstOf_b122 mo sort ord (-1) k6 x4 (nI f) 1 else k6 x4 (nI (f + 1)) := fun f hf k6 x4 => by
  unfold Mo_firstOf_b6B
  rw [n173 (mo := mo), k173, hs, if_neg (nI_ge hf (by omega)), ckI_nI _ (by omega) (by omega), nI_clamp (by omega), hd f (by omega), stk_r, nI_1]
  cases q : D f with
  | false =>
    rw [if_neg (show ¬ false = true by decide), if_pos rfl, if_pos rfl, h48 f hf q]
    rfl
  | true =>
    rw [if_pos rfl, if_neg (by decide)]
    rfl
theorem b122_0 {k6 : Int32 → Int32 → Option Int32} {x4 p3 : Int32} : Mo_firstOf_b122 mo sort ord p3 k6 x4 (nI f) 0 = k6 x4 (nI (f + 1)) := by
  unfold Mo_firstOf_b122
  rw [if_pos rfl, stk_r, nI_1]
theorem h48_0 {p3 : Int32} (hf : f < 20) {k6 : Int32 → Int32 → Option Int32} {x4 : Int32} : Mo_firstOf_b48 mo 0 ord p3 k6 x4 (nI f) = if decide (offS (mo 0) f ≤ mo 0 172) = true then Mo_firstOf_b122 mo 0 ord p3 k6 x4 (nI f) 1 else k6 x4 (nI (f + 1)) := by
  unfold Mo_firstOf_b48
  rw [if_pos rfl, Mo_offOf_s hf, bn1_r, n172 (mo := mo), k172, b122_0]
  by_cases q : offS (mo 0) f ≤ mo 0 172
  · rw [if_neg (Int32.not_lt.mpr q), if_pos (decide_eq_true q)]
  · rw [if_pos (Int32.not_le.mp q), if_neg (fun z => q (of_decide_eq_true z))]
theorem h48_1 {p3 : Int32} (hf : f < 20) {k6 : Int32 → Int32 → Option Int32} {x4 : Int32} : Mo_firstOf_b48 mo 1 ord p3 k6 x4 (nI f) = if decide (¬ offS (mo 0) f ≤ mo 0 172) = true then Mo_firstOf_b122 mo 1 ord p3 k6 x4 (nI f) 1 else k6 x4 (nI (f + 1)) := by
  unfold Mo_firstOf_b48
  rw [if_neg (by decide), if_pos rfl, Mo_offOf_s hf, bn1_r, n172 (mo := mo), k172, b122_0]
  by_cases q : offS (mo 0) f ≤ mo 0 172
  · have nz : ¬ decide (¬ offS (mo 0) f ≤ mo 0 172) = true := fun z => (of_decide_eq_true z : ¬ offS (mo 0) f ≤ mo 0 172) q
    rw [if_pos q, if_neg nz]
  · rw [if_neg q, if_pos (decide_eq_true q)]
/-- off by now; not yet -/
def S0 (s : Nat → Int32) (f : Nat) : Bool := decide (offS s f ≤ s 172)
def S1 (s : Nat → Int32) (f : Nat) : Bool := decide (¬ offS s f ≤ s 172)
theorem IA.n172 (h : IA n s1 D mo) : mo 0 172 = s1 172 := h.2 172 (by omega)
theorem hF0 (hn : n ≤ 20) (j : Jf n s1) (hK : ∀ f, f < n → K f = etN s1 f) (D : Nat → Bool) (mo : Mem) (h : IA n s1 D mo) (hd : ∀ f, f < 20 → mo 14 f = if D f then 1 else 0) (hs : mo 0 173 = nI n) : Mo_firstOf mo 0 0 (-1) = some (bk (fun f => !D f && S0 s1 f) K n) := by
  refine firstOf_g hn hs (fo_hc (c := S0 s1) (S := S0 s1) hn hs hd (fun f hf _ k6 x4 => ?_)) (fun f g hf hg _ _ => ?_)
  · rw [h48_0 (by omega), h.off hf, h.n172]; rfl
  · rw [ah_0 hn (h.jf j) (by decide) (by decide) f g hf hg, h.et hf, h.et hg, hK f hf, hK g hg]
theorem hF1 (hn : n ≤ 20) (j : Jf n s1) (hK : ∀ f, f < n → K f = etN s1 f) (ho : ¬ ord = 1) (ho3 : ¬ ord = 3) (D : Nat → Bool) (mo : Mem) (h : IA n s1 D mo) (hd : ∀ f, f < 20 → mo 14 f = if D f then 1 else 0) (hs : mo 0 173 = nI n) : Mo_firstOf mo 1 ord (-1) = some (bk (fun f => !D f && S1 s1 f) K n) := by
  refine firstOf_g hn hs (fo_hc (c := S1 s1) (S := S1 s1) hn hs hd (fun f hf _ k6 x4 => ?_)) (fun f g hf hg _ _ => ?_)
  · rw [h48_1 (by omega), h.off hf, h.n172]; rfl
  · rw [ah_0 hn (h.jf j) ho ho3 f g hf hg, h.et hf, h.et hg, hK f hf, hK g hg]
theorem hF1w (hn : n ≤ 20) (j : Jf n s1) (hK : ∀ f, f < n → K f = wtN s1 f) (D : Nat → Bool) (mo : Mem) (h : IA n s1 D mo) (hd : ∀ f, f < 20 → mo 14 f = if D f then 1 else 0) (hs : mo 0 173 = nI n) : Mo_firstOf mo 1 1 (-1) = some (bk (fun f => !D f && S1 s1 f) K n) := by
  have wt : ∀ f, f < n → wtN (mo 0) f = wtN s1 f := fun f hf => by unfold wtN; rw [h.et hf, (h.1 f hf).1 3 (by omega)]
  refine firstOf_g hn hs (fo_hc (c := S1 s1) (S := S1 s1) hn hs hd (fun f hf _ k6 x4 => ?_)) (fun f g hf hg _ _ => ?_)
  · rw [h48_1 (by omega), h.off hf, h.n172]; rfl
  · rw [ah_1 hn (h.jf j) f g hf hg, wt f hf, wt g hg, hK f hf, hK g hg]
/-- the loops of the reference's plan -/
theorem b40_e {p : Int32} {N : Nat} : Mo_plansBy_b40 p (N + 1) mo (-1) = if p = 2 then bn1 (Mo_turns mo) (fun m => Mo_plansBy_b112 p m) else Mo_plansBy_b112 p mo := by
  show Mo_plansBy_b40B p (Mo_plansBy_b40 p N) mo (-1) = _
  unfold Mo_plansBy_b40B
  rw [if_pos rfl]
theorem b40_s {p : Int32} {N : Nat} (hf : f < 20) (hk : Mo_takesFrom mo (mo 0 (8 * f + 1)) = some (nI k, upm mo 13 k 1)) : Mo_plansBy_b40 p (N + 1) mo (nI f) = bn1 (Mo_firstOf (stM mo k f (avS (mo 0) f (nI k) (nI 0))) 0 0 (-1)) (fun r => Mo_plansBy_b40 p N (stM mo k f (avS (mo 0) f (nI k) (nI 0))) r) := by
  show Mo_plansBy_b40B p (Mo_plansBy_b40 p N) mo (nI f) = _
  unfold Mo_plansBy_b40B
  have e0 : upm mo 13 k 1 0 = mo 0 := upm_n _ _ _ (by omega)
  rw [if_neg (show ¬ nI f = -1 from fun z => by rw [nI_eqm (by omega)] at z; exact z), Mo_of_1 hf, bn1_r, hk, bn2_r, show (4 : Int32) = nI 4 from rfl, Mo_sets_s (by omega), bn1_r, show (5 : Int32) = nI 5 from rfl, Mo_sets_s (by omega), bn1_r, Mo_of_1 hf, bn1_r, show (6 : Int32) = nI 6 from rfl, Mo_sets_s (by omega), bn1_r, ckI_nI _ (by omega) (by omega), nI_clamp (by omega), stk_r]
  simp only [upA_0, upA_A, e0]
  have e1 : upd (upd (upd (mo 0) (8 * f + 4) (nI k)) (8 * f + 5) 0) (8 * f + 6) (nI k - upd (upd (mo 0) (8 * f + 4) (nI k)) (8 * f + 5) 0 (8 * f + 1)) = avS (mo 0) f (nI k) (nI 0) := by
    unfold avS
    rw [pk_un (by omega), pk_un (by omega), show nI 0 = (0 : Int32) from rfl, Int32.add_zero]
  rw [e1]
  rfl
def finP (mo : Mem) : Option Mem := bn1 (Mo_clearsPlan mo) (fun mo_35 => ckI 174 1452 (stk (upm mo_35 0 (174 : Int32).toNatClampNeg 1) (fun mo_37 => some mo_37)))
theorem b120_s {p : Int32} (N : Nat) (mo : Mem) (x : Int32) : Mo_plansBy_b120 p (N + 1) mo x = if x = -1 then finP mo else bn1 (Mo_grounds mo x) (fun mo' => bn1 (Mo_firstOf mo' 1 p (-1)) (fun r => Mo_plansBy_b120 p N mo' r)) := rfl
theorem finP_s : finP mo = some (upA mo 0 (upd (cpS (mo 0)) 174 1)) := by
  unfold finP
  rw [Mo_clearsPlan_s, bn1_r, n174, k174, stk_r, upm_A, upA_0, upA_A]
/-- gone ones are back -/
def gcS (n : Nat) (s : Nat → Int32) (i : Nat) : Int32 := if i % 8 = 7 ∧ i / 8 < n then 0 else s i
theorem gc_7 (h : f < n) : gcS n s (8 * f + 7) = 0 := if_pos ⟨by omega, by omega⟩
theorem gc_o {i : Nat} (h : i % 8 ≠ 7 ∨ n ≤ i / 8) : gcS n s i = s i := if_neg (fun z => by omega)
theorem Mo_begins_s : ∃ mo', Mo_beginsPlan mo = some mo' ∧ (∀ k, k < 1200 → mo' 13 k = 0) ∧ (∀ f, f < 20 → mo' 14 f = 0) ∧ mo' 0 = mo 0 ∧ KP mo mo' ∧ mo' 15 = mo 15 ∧ mo' 1 = mo 1 := by
  have l2 : ∀ (r k N : Nat) (m : Mem), k + r = 20 → r < N → (∀ f, f < k → m 14 f = 0) → ∃ m', Mo_beginsPlan_b24 N m (nI k) = some m' ∧ m' 13 = m 13 ∧ (∀ f, f < 20 → m' 14 f = 0) ∧ m' 0 = m 0 ∧ KP m m' ∧ m' 15 = m 15 ∧ m' 1 = m 1 := by
    intro r
    induction r with
    | zero =>
      intro k N m hk hN h
      obtain ⟨N, rfl⟩ : ∃ q, N = q + 1 := ⟨N - 1, by omega⟩
      have e : k = 20 := by omega
      subst e
      refine ⟨m, ?_, rfl, h, rfl, KP.rf, rfl, rfl⟩
      show Mo_beginsPlan_b24B (Mo_beginsPlan_b24 N) m (nI 20) = _
      unfold Mo_beginsPlan_b24B
      rw [if_pos (by decide)]
    | succ r ih =>
      intro k N m hk hN h
      obtain ⟨N, rfl⟩ : ∃ q, N = q + 1 := ⟨N - 1, by omega⟩
      obtain ⟨m', o1, o2, o3, o4, o5, o6⟩ := ih (k + 1) N (upm m 14 k (vp_nar .boolean 0)) (by omega) (by omega) (fun f hf => by
        rw [upm_0]
        by_cases q : f = k
        · subst q; rw [pk_us]; rfl
        · rw [pk_un q]; exact h f (by omega))
      refine ⟨m', ?_, by rw [o2, upm_n _ _ _ (by omega)], o3, by rw [o4, upm_n _ _ _ (by omega)], (KP.um (by omega)).tr o5, by rw [o6.1, upm_n _ _ _ (by omega)], by rw [o6.2, upm_n _ _ _ (by omega)]⟩
      show Mo_beginsPlan_b24B (Mo_beginsPlan_b24 N) m (nI k) = _
      unfold Mo_beginsPlan_b24B
      rw [if_neg (show ¬ 20 ≤ nI k from nI_ge (b := 20) (by omega) (by omega)), ckI_nI _ (by omega) (by omega), nI_clamp (by omega), stk_r, stk_r, nI_1]
      exact o1
  have l1 : ∀ (r k N : Nat) (m : Mem), k + r = 1200 → r < N → (∀ f, f < k → m 13 f = 0) → ∃ m', Mo_beginsPlan_b2 N m (nI k) = some m' ∧ (∀ f, f < 1200 → m' 13 f = 0) ∧ (∀ f, f < 20 → m' 14 f = 0) ∧ m' 0 = m 0 ∧ KP m m' ∧ m' 15 = m 15 ∧ m' 1 = m 1 := by
    intro r
    induction r with
    | zero =>
      intro k N m hk hN h
      obtain ⟨N, rfl⟩ : ∃ q, N = q + 1 := ⟨N - 1, by omega⟩
      have e : k = 1200 := by omega
      subst e
      obtain ⟨m', o1, o2, o3, o4, o5, o6⟩ := l2 20 0 fl m (by omega) (by rw [fl_v]; omega) (fun f hf => by omega)
      refine ⟨m', ?_, fun f hf => by rw [o2]; exact h f hf, o3, o4, o5, o6⟩
      show Mo_beginsPlan_b2B (Mo_beginsPlan_b2 N) m (nI 1200) = _
      unfold Mo_beginsPlan_b2B
      rw [if_pos (by decide)]
      exact o1
    | succ r ih =>
      intro k N m hk hN h
      obtain ⟨N, rfl⟩ : ∃ q, N = q + 1 := ⟨N - 1, by omega⟩
      obtain ⟨m', o1, o2, o3, o4, o5, o6⟩ := ih (k + 1) N (upm m 13 k (vp_nar .boolean 0)) (by omega) (by omega) (fun f hf => by
        rw [upm_0]
        by_cases q : f = k
        · subst q; rw [pk_us]; rfl
        · rw [pk_un q]; exact h f (by omega))
      refine ⟨m', ?_, o2, o3, by rw [o4, upm_n _ _ _ (by omega)], (KP.um (by omega)).tr o5, by rw [o6.1, upm_n _ _ _ (by omega)], by rw [o6.2, upm_n _ _ _ (by omega)]⟩
      show Mo_beginsPlan_b2B (Mo_beginsPlan_b2 N) m (nI k) = _
      unfold Mo_beginsPlan_b2B
      rw [if_neg (show ¬ 1200 ≤ nI k from nI_ge (b := 1200) (by omega) (by omega)), ckI_nI _ (by omega) (by omega), nI_clamp (by omega), stk_r, stk_r, nI_1]
      exact o1
  unfold Mo_beginsPlan
  exact l1 1200 0 fl mo (by omega) (by rw [fl_v]; omega) (fun f hf => by omega)
theorem b6_s {p : Int32} (hn : n ≤ 20) (hs : mo 0 173 = nI n) : Mo_plansBy_b6 p fl mo 0 = bn1 (Mo_firstOf (upA mo 0 (gcS n (mo 0))) 0 0 (-1)) (fun r => Mo_plansBy_b40 p fl (upA mo 0 (gcS n (mo 0))) r) := by
  have l : ∀ (r k N : Nat), k + r = n → r < N → Mo_plansBy_b6 p N (upA mo 0 (gcS k (mo 0))) (nI k) = bn1 (Mo_firstOf (upA mo 0 (gcS n (mo 0))) 0 0 (-1)) (fun r => Mo_plansBy_b40 p fl (upA mo 0 (gcS n (mo 0))) r) := by
    intro r
    induction r with
    | zero =>
      intro k N hk hN
      obtain ⟨N, rfl⟩ : ∃ q, N = q + 1 := ⟨N - 1, by omega⟩
      have e : k = n := by omega
      subst e
      show Mo_plansBy_b6B p (Mo_plansBy_b6 p N) _ (nI k) = _
      unfold Mo_plansBy_b6B
      rw [n173 (mo := mo), k173, upA_0, gc_o (by omega), hs, if_pos (nI_le (Nat.le_refl _) (by omega))]
    | succ r ih =>
      intro k N hk hN
      obtain ⟨N, rfl⟩ : ∃ q, N = q + 1 := ⟨N - 1, by omega⟩
      show Mo_plansBy_b6B p (Mo_plansBy_b6 p N) _ (nI k) = _
      unfold Mo_plansBy_b6B
      have e1 : upd (gcS k (mo 0)) (8 * k + 7) 0 = gcS (k + 1) (mo 0) := by
        funext i
        by_cases q : i = 8 * k + 7
        · subst q; rw [pk_us, gc_7 (by omega)]
        · rw [pk_un q]
          unfold gcS
          by_cases q2 : i % 8 = 7 ∧ i / 8 < k
          · rw [if_pos q2, if_pos (by omega)]
          · rw [if_neg q2, if_neg (by omega)]
      rw [n173 (mo := mo), k173, upA_0, gc_o (by omega), hs, if_neg (nI_ge (by omega) (by omega)), show (7 : Int32) = nI 7 from rfl, Mo_sets_s (by omega), bn1_r, stk_r, nI_1, upA_0, upA_A, e1]
      exact ih (k + 1) N (by omega) (by omega)
  have := l n 0 fl (by omega) (by rw [fl_v]; omega)
  rw [show gcS 0 (mo 0) = mo 0 from funext (fun i => gc_o (by omega)), upA_id] at this
  exact this
end PN
