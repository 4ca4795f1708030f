/-! planning: one flight after the other -/
section PH
variable {n v m k c f : Nat} {fo ro ra vc os li mo pn : Mem} {x y : Int32} {s s' : Nat → Int32} {U D C : Nat → Bool} {K e : Nat → Nat} {kd : Bool}
/-- the row, as the class has it: in a plan anew, who has no slot yet has none -/
def mkS (kd : Bool) (D : Nat → Bool) (n : Nat) (s : Nat → Int32) (i : Nat) : Int32 := if kd = true ∧ i % 8 = 4 ∧ i / 8 < n ∧ D (i / 8) = false then -1 else s i
theorem mk_o {i : Nat} (h : i % 8 ≠ 4 ∨ n ≤ i / 8) : mkS kd D n s i = s i := if_neg (fun z => by omega)
theorem mk_d (h : D f = true) : mkS kd D n s (8 * f + 4) = s (8 * f + 4) := if_neg (fun z => by
  have := z.2.2.2
  rw [show (8 * f + 4) / 8 = f by omega, h] at this
  exact Bool.noConfusion this)
theorem mk_r {i : Nat} : mkS false D n s i = s i := if_neg (fun z => Bool.noConfusion z.1)
theorem mk_p (hf : f < n) (h : D f = false) : mkS true D n s (8 * f + 4) = -1 := if_pos ⟨rfl, by omega, by omega, by rw [show (8 * f + 4) / 8 = f by omega]; exact h⟩
abbrev orD (D : Nat → Bool) (f : Nat) : Nat → Bool := fun g => D g || decide (g = f)
theorem orD_s : orD D f f = true := by show (D f || decide (f = f)) = true; rw [decide_eq_true (rfl : f = f), Bool.or_true]
theorem orD_n {g : Nat} (h : g ≠ f) : orD D f g = D g := by show (D g || decide (g = f)) = D g; rw [decide_eq_false h, Bool.or_false]
/-- a change of f's slot, hold and circles -/
theorem mk_ch {s2 : Nat → Int32} (hf : f < n) (e : ∀ i, i ≠ 8 * f + 4 → i ≠ 8 * f + 5 → i ≠ 8 * f + 6 → s' i = s i) (e2 : ∀ i, i ≠ 8 * f + 4 → i ≠ 8 * f + 5 → i ≠ 8 * f + 6 → s2 i = mkS kd D n s i) (e4 : s2 (8 * f + 4) = s' (8 * f + 4)) (e5 : s2 (8 * f + 5) = s' (8 * f + 5)) (e6 : s2 (8 * f + 6) = s' (8 * f + 6)) : s2 = mkS kd (orD D f) n s' := by
  funext i
  by_cases h4 : i = 8 * f + 4
  · subst h4; rw [e4, mk_d orD_s]
  · by_cases h5 : i = 8 * f + 5
    · subst h5; rw [e5, mk_o (by omega)]
    · by_cases h6 : i = 8 * f + 6
      · subst h6; rw [e6, mk_o (by omega)]
      · rw [e2 i h4 h5 h6]
        unfold mkS
        rw [e i h4 h5 h6]
        by_cases q : i / 8 = f
        · rw [if_neg (fun z => by omega), if_neg (fun z => by omega)]
        · rw [orD_n q]
def PB (s : Nat → Int32) (f : Nat) : Prop := ∃ b c t m h k : Nat, s (8 * f + 1) = nI b ∧ s (8 * f + 2) = nI c ∧ s 172 = nI t ∧ s (8 * f + 4) = nI m ∧ s (8 * f + 5) = nI h ∧ s (8 * f + 6) = nI k ∧ m < 1200 ∧ m = b + h + k ∧ (k = 0 ∨ b + h ≤ t + c) ∧ b < 720 ∧ c ≤ 300 ∧ t < 720
/-- those that have their slots -/
def PL (n : Nat) (U D : Nat → Bool) (s : Nat → Int32) : Prop := (∀ f, f < n → D f = true → Pd s f → PB s f ∧ ∃ m, m < 1200 ∧ s (8 * f + 4) = nI m ∧ U m = true) ∧ ∀ f g, f < n → g < n → D f = true → D g = true → Pd s f → Pd s g → s (8 * f + 4) = s (8 * g + 4) → f = g
def PSt (kd : Bool) (n : Nat) (U D : Nat → Bool) (c : Nat) (pn fo ro ra mo : Mem) : Prop := UR U pn mo ∧ cn U 1200 ≤ c ∧ (∀ f, f < 20 → mo 14 f = if D f then 1 else 0) ∧ Rf n fo ro (mkS kd D n (mo 0)) ∧ Rr ra (mo 0) ∧ Jr (mo 0) ∧ Jf n (mo 0) ∧ (∃ t, t < 720 ∧ mo 0 172 = nI t) ∧ PL n U D (mo 0)
theorem PSt.sn (h : PSt kd n U D c pn fo ro ra mo) : mo 0 173 = nI n := by
  have := h.2.2.2.1.sn
  have hn := h.2.2.2.1.n20
  rw [mk_o (by omega)] at this
  exact this
theorem PSt.n20 (h : PSt kd n U D c pn fo ro ra mo) : n ≤ 20 := h.2.2.2.1.n20
/-- f has its slot k now -/
def stM (mo : Mem) (k f : Nat) (s : Nat → Int32) : Mem := upm (upA (upm mo 13 k 1) 0 s) 14 f 1
theorem stM_0 : stM mo k f s 0 = s := by unfold stM; rw [upm_n _ _ _ (by omega), upA_0]
theorem stM_kp : KP mo (stM mo k f s) := ((KP.um (by omega)).tr (KP.up (by omega))).tr (KP.um (by omega))
theorem stM_15 : stM mo k f s 15 = mo 15 := by unfold stM; rw [upm_n _ _ _ (by omega), upA_n _ _ (by omega), upm_n _ _ _ (by omega)]
theorem PSt.step {fo' : Mem} {U' : Nat → Bool} (h : PSt kd n U D c pn fo ro ra mo) (hf : f < n) (hd : D f = false) (hk : k < 1196) (hU : U k = false) (hur : UR (fun i => U i || decide (i = k)) (upm pn 2 k (pn 3 0)) (upm mo 13 k 1)) (hcn : cn (fun i => U i || decide (i = k)) 1200 = cn U 1200 + 1) (ech : ∀ i, i ≠ 8 * f + 4 → i ≠ 8 * f + 5 → i ≠ 8 * f + 6 → s' i = mo 0 i) (hRf : Rf n fo' ro (mkS kd (orD D f) n s')) (e4 : s' (8 * f + 4) = nI k) (hPB : PB s' f) : PSt kd n (fun i => U i || decide (i = k)) (orD D f) (c + 1) (upm pn 2 k (pn 3 0)) fo' ro ra (stM mo k f s') := by
  have hn := h.n20
  obtain ⟨h1, h2, h3, h4, h5, h6, h7, h8, h9, h10⟩ := h
  have pd' : ∀ g, g < n → g ≠ f → (Pd s' g ↔ Pd (mo 0) g) := fun g hg hgf => by
    unfold Pd
    rw [ech (8 * g + 4) (by omega) (by omega) (by omega), ech (8 * g + 7) (by omega) (by omega) (by omega)]
  have e13 : stM mo k f s' 13 = upm mo 13 k 1 13 := by unfold stM; rw [upm_n _ _ _ (by omega), upA_n _ _ (by omega)]
  refine ⟨⟨hur.1, fun j hj => by rw [e13]; exact hur.2 j hj⟩, by omega, fun g hg => ?_, by rw [stM_0]; exact hRf, ?_, ?_, ?_, ?_, ?_, ?_⟩
  · unfold stM
    rw [upm_0, upA_n _ _ (by omega), upm_n _ _ _ (by omega)]
    by_cases q : g = f
    · subst q; rw [pk_us, orD_s]; rfl
    · rw [pk_un q, orD_n q]; exact h3 g hg
  · rw [stM_0]; exact h5.cg (fun i a b => ech i (by omega) (by omega) (by omega))
  · rw [stM_0]; exact h6.cg (fun i a b => ech i (by omega) (by omega) (by omega))
  · rw [stM_0]
    intro g hg
    rw [ech (8 * g) (by omega) (by omega) (by omega), ech (8 * g + 1) (by omega) (by omega) (by omega), ech (8 * g + 2) (by omega) (by omega) (by omega), ech (8 * g + 3) (by omega) (by omega) (by omega)]
    exact h7 g hg
  · rw [stM_0, ech 172 (by omega) (by omega) (by omega)]; exact h8
  · rw [stM_0]
    intro g hg hdg hpg
    by_cases q : g = f
    · subst q; exact ⟨hPB, k, by omega, e4, by show (U k || decide (k = k)) = true; rw [decide_eq_true (rfl : k = k), Bool.or_true]⟩
    · rw [orD_n q] at hdg
      obtain ⟨a1, m', a2, a3, a4⟩ := h9 g hg hdg ((pd' g hg q).mp hpg)
      refine ⟨?_, m', a2, by rw [ech (8 * g + 4) (by omega) (by omega) (by omega)]; exact a3, by show (U m' || decide (m' = k)) = true; rw [a4]; rfl⟩
      obtain ⟨p1, p2, p3, p4, p5, p6, q1, q2, q3, q4, q5, q6, q7⟩ := a1
      exact ⟨p1, p2, p3, p4, p5, p6, by rw [ech _ (by omega) (by omega) (by omega)]; exact q1, by rw [ech _ (by omega) (by omega) (by omega)]; exact q2, by rw [ech _ (by omega) (by omega) (by omega)]; exact q3, by rw [ech _ (by omega) (by omega) (by omega)]; exact q4, by rw [ech _ (by omega) (by omega) (by omega)]; exact q5, by rw [ech _ (by omega) (by omega) (by omega)]; exact q6, q7⟩
  · rw [stM_0]
    have key : ∀ g, g < n → g ≠ f → orD D f g = true → Pd s' g → ¬ s' (8 * g + 4) = nI k := fun g hg q hdg hpg z => by
      rw [orD_n q] at hdg
      obtain ⟨-, m', a2, a3, a4⟩ := h9 g hg hdg ((pd' g hg q).mp hpg)
      rw [ech (8 * g + 4) (by omega) (by omega) (by omega), a3] at z
      have := (nI_eq (by omega) (by omega)).mp z
      subst this
      rw [hU] at a4
      exact Bool.noConfusion a4
    intro g1 g2 hg1 hg2 d1 d2 p1 p2 he
    by_cases q1 : g1 = f
    · by_cases q2 : g2 = f
      · rw [q1, q2]
      · rw [q1, e4] at he
        exact absurd he.symm (key g2 hg2 q2 d2 p2)
    · by_cases q2 : g2 = f
      · rw [q2, e4] at he
        exact absurd he (key g1 hg1 q1 d1 p1)
      · rw [orD_n q1] at d1
        rw [orD_n q2] at d2
        rw [ech (8 * g1 + 4) (by omega) (by omega) (by omega), ech (8 * g2 + 4) (by omega) (by omega) (by omega)] at he
        exact h10 g1 g2 hg1 hg2 d1 d2 ((pd' g1 hg1 q1).mp p1) ((pd' g2 hg2 q2).mp p2) he
theorem ear_v (j : Jf n s) (ht : ∃ t, t < 720 ∧ s 172 = nI t) (hf : f < n) : ∃ a, a ≤ 1019 ∧ earS s f = nI a ∧ etN s f ≤ a := by
  obtain ⟨t, t1, t2⟩ := ht
  obtain ⟨a, b, c, d, e1, e2, e3, e4, e5, e6, -⟩ := j f hf
  unfold earS etN
  rw [e3, e5, t2, nI_add, mx_nI (by omega) (by omega), nI_clamp (by omega)]
  exact ⟨max b (t + c), by omega, rfl, by omega⟩
/-- on the ground -/
theorem ground_step (h : PSt kd n U D c pn fo ro ra mo) (hc : c ≤ 34) (hf : f < n) (hd : D f = false) (hg : mo 0 (8 * f + 7) = 0) : ∃ k, k < 1196 ∧ U k = false ∧ Fi_earliest fo ro (nI f) = some (earS (mo 0) f) ∧ Pl_takeFirst pn ra (earS (mo 0) f) = some (nI k, upm pn 2 k (pn 3 0)) ∧ Fi_seatOnGround fo ro (nI f) (nI k) = some (sgM fo f (nI k) (mo 0 (8 * f + 1))) ∧ Mo_grounds mo (nI f) = some (stM mo k f (gvS (mo 0) f (nI k))) ∧ PSt kd n (fun i => U i || decide (i = k)) (orD D f) (c + 1) (upm pn 2 k (pn 3 0)) (sgM fo f (nI k) (mo 0 (8 * f + 1))) ro ra (stM mo k f (gvS (mo 0) f (nI k))) := by
  have hn := h.n20
  obtain ⟨a, a1, a2, a3⟩ := ear_v h.2.2.2.2.2.2.1 h.2.2.2.2.2.2.2.1 hf
  obtain ⟨k, k1, k2, k3, k4, k5, k6, k7⟩ := take_s (m := a) h.1 h.2.2.2.2.1 h.2.2.2.2.2.1 (by omega) (by have := h.2.1; omega)
  have m1 : ∀ w, w ≠ 4 → mkS kd D n (mo 0) (8 * f + w) = mo 0 (8 * f + w) ∨ 8 ≤ w := fun w hw => by
    by_cases q : 8 ≤ w
    · exact Or.inr q
    · exact Or.inl (mk_o (by omega))
  have me1 : mkS kd D n (mo 0) (8 * f + 1) = mo 0 (8 * f + 1) := mk_o (by omega)
  have me2 : mkS kd D n (mo 0) (8 * f + 2) = mo 0 (8 * f + 2) := mk_o (by omega)
  have me7 : mkS kd D n (mo 0) (8 * f + 7) = mo 0 (8 * f + 7) := mk_o (by omega)
  have me172 : mkS kd D n (mo 0) 172 = mo 0 172 := mk_o (by omega)
  have ee : earS (mkS kd D n (mo 0)) f = earS (mo 0) f := by unfold earS; rw [me1, me2, me172]
  have ne : ¬ nI k = -1 := fun z => by rw [nI_eqm (by omega)] at z; exact z
  have s1 := Fi_seatOnGround_s (x := nI k) h.2.2.2.1 hf ne
  have s2 := Rf_give (x := nI k) h.2.2.2.1 hf (by rw [me7]; exact hg) (nI_pos' (by omega))
  rw [me1] at s1 s2
  have em : gvS (mkS kd D n (mo 0)) f (nI k) = mkS kd (orD D f) n (gvS (mo 0) f (nI k)) := mk_ch hf (fun i a b c => gv_un ⟨a, b, c⟩) (fun i a b c => gv_un ⟨a, b, c⟩) (by rw [gv_4, gv_4]) (by rw [gv_5, gv_5, me1]) (by rw [gv_6, gv_6])
  rw [em] at s2
  obtain ⟨t, t1, t2⟩ := h.2.2.2.2.2.2.2.1
  obtain ⟨l, b, cc, d, -, -, g3, g4, g5, g6, -⟩ := h.2.2.2.2.2.2.1 f hf
  have eb : etN (mo 0) f = b := by unfold etN; rw [g3, nI_clamp (by omega)]
  refine ⟨k, k1, k3, by rw [Fi_earliest_s h.2.2.2.1 hf, ee], by rw [a2]; exact k4, s1, ?_, h.step (U' := U) hf hd k1 k3 k6 k7 (fun i a b c => gv_un ⟨a, b, c⟩) s2 gv_4 ?_⟩
  · unfold Mo_grounds
    rw [Mo_earliest_s (by omega), bn1_r, a2, k5, bn2_r, Mo_gives_s (by omega), bn1_r, ckI_nI _ (by omega) (by omega), nI_clamp (by omega), stk_r, upm_n _ _ _ (show (0 : Nat) ≠ 13 by omega)]
    rfl
  · refine ⟨b, cc, t, k, k - b, 0, ?_, ?_, ?_, gv_4, ?_, gv_6, by omega, by omega, Or.inl rfl, g4, g6, t1⟩
    · rw [gv_un (by omega)]; exact g3
    · rw [gv_un (by omega)]; exact g5
    · rw [gv_un (by omega)]; exact t2
    · rw [gv_5, g3, pk_sub (by omega)]
/-- in the air -/
def avS (s : Nat → Int32) (f : Nat) (k h : Int32) : Nat → Int32 := upd (upd (upd s (8 * f + 4) k) (8 * f + 5) h) (8 * f + 6) (k - (s (8 * f + 1) + h))
def aM (fo : Mem) (f : Nat) (k b h : Int32) : Mem := upm (upm fo 5 f k) 7 f (k - b - h)
theorem av_un {i : Nat} {k h : Int32} (q : i ≠ 8 * f + 4 ∧ i ≠ 8 * f + 5 ∧ i ≠ 8 * f + 6) : avS s f k h i = s i := by unfold avS; rw [pk_un q.2.2, pk_un q.2.1, pk_un q.1]
theorem av_4 {k h : Int32} : avS s f k h (8 * f + 4) = k := by unfold avS; rw [pk_un (by omega), pk_un (by omega), pk_us]
theorem av_5 {k h : Int32} : avS s f k h (8 * f + 5) = h := by unfold avS; rw [pk_un (by omega), pk_us]
theorem av_6 {k h : Int32} : avS s f k h (8 * f + 6) = k - (s (8 * f + 1) + h) := by unfold avS; rw [pk_us]
theorem air_step {a hh : Nat} (h : PSt kd n U D c pn fo ro ra mo) (hc : c ≤ 34) (hf : f < n) (hd : D f = false) (hg : mo 0 (8 * f + 7) = 0) (h6 : fo 6 f = nI hh) (ha : a ≤ 1020) (hb : etN (mo 0) f + hh ≤ a) (hcond : ∀ t cc, mo 0 172 = nI t → t < 720 → mo 0 (8 * f + 2) = nI cc → cc ≤ 300 → etN (mo 0) f + hh ≤ t + cc) : ∃ k, k < 1196 ∧ U k = false ∧ Pl_takeFirst pn ra (nI a) = some (nI k, upm pn 2 k (pn 3 0)) ∧ Mo_takesFrom mo (nI a) = some (nI k, upm mo 13 k 1) ∧ Fi_seatInAir fo ro (nI f) (nI k) = some (aM fo f (nI k) (mo 0 (8 * f + 1)) (nI hh)) ∧ PSt kd n (fun i => U i || decide (i = k)) (orD D f) (c + 1) (upm pn 2 k (pn 3 0)) (aM fo f (nI k) (mo 0 (8 * f + 1)) (nI hh)) ro ra (stM mo k f (avS (mo 0) f (nI k) (nI hh))) := by
  have hn := h.n20
  obtain ⟨k, k1, k2, k3, k4, k5, k6, k7⟩ := take_s (m := a) h.1 h.2.2.2.2.1 h.2.2.2.2.2.1 (by omega) (by have := h.2.1; omega)
  have me1 : mkS kd D n (mo 0) (8 * f + 1) = mo 0 (8 * f + 1) := mk_o (by omega)
  have ne : ¬ nI k = -1 := fun z => by rw [nI_eqm (by omega)] at z; exact z
  have hRf := h.2.2.2.1
  obtain ⟨t, t1, t2⟩ := h.2.2.2.2.2.2.2.1
  obtain ⟨l, b, cc, d, -, -, g3, g4, g5, g6, -⟩ := h.2.2.2.2.2.2.1 f hf
  have eb : etN (mo 0) f = b := by unfold etN; rw [g3, nI_clamp (by omega)]
  have cd := hcond t cc t2 t1 g5 g6
  have a5 : aM fo f (nI k) (mo 0 (8 * f + 1)) (nI hh) 5 = upd (fo 5) f (nI k) := by unfold aM; rw [upm_n _ _ _ (by omega), upm_0]
  have a7 : aM fo f (nI k) (mo 0 (8 * f + 1)) (nI hh) 7 = upd (fo 7) f (nI k - mo 0 (8 * f + 1) - nI hh) := by unfold aM; rw [upm_0, upm_n _ _ _ (by omega)]
  have ak : ∀ q, q ≠ 5 → q ≠ 7 → aM fo f (nI k) (mo 0 (8 * f + 1)) (nI hh) q = fo q := fun q q1 q2 => by unfold aM; rw [upm_n _ _ _ q2, upm_n _ _ _ q1]
  have ch : ∀ i, i ≠ 8 * f + 4 → i ≠ 8 * f + 5 → i ≠ 8 * f + 6 → avS (mo 0) f (nI k) (nI hh) i = mo 0 i := fun i a b c => av_un ⟨a, b, c⟩
  have mo' : ∀ i, i % 8 ≠ 4 ∨ n ≤ i / 8 → mkS kd (orD D f) n (avS (mo 0) f (nI k) (nI hh)) i = avS (mo 0) f (nI k) (nI hh) i := fun i hi => mk_o hi
  have pf : Pd (mkS kd (orD D f) n (avS (mo 0) f (nI k) (nI hh))) f := ⟨by rw [mk_d orD_s, av_4]; exact nI_pos' (by omega), by rw [mk_o (by omega), ch _ (by omega) (by omega) (by omega)]; exact hg⟩
  have same : ∀ g, g < n → g ≠ f → ∀ w, w < 8 → mkS kd (orD D f) n (avS (mo 0) f (nI k) (nI hh)) (8 * g + w) = mkS kd D n (mo 0) (8 * g + w) := fun g hg' hgf w hw => by
    unfold mkS
    rw [show (8 * g + w) / 8 = g by omega, orD_n hgf, ch (8 * g + w) (by omega) (by omega) (by omega)]
  have s2 : Rf n (aM fo f (nI k) (mo 0 (8 * f + 1)) (nI hh)) ro (mkS kd (orD D f) n (avS (mo 0) f (nI k) (nI hh))) := by
    obtain ⟨r1, r2, r3, r4, r5, r6, r7⟩ := hRf
    refine ⟨r1, r2, ?_, ?_, fun g hg' => ?_, fun g hg' => ?_, fun g h1 h2 => ?_⟩
    · rw [mo' 173 (by omega), ch 173 (by omega) (by omega) (by omega)]; rw [mk_o (by omega)] at r3; exact r3
    · rw [ak 9 (by omega) (by omega), mo' 172 (by omega), ch 172 (by omega) (by omega) (by omega)]; rw [mk_o (by omega)] at r4; exact r4
    · rw [mo' (8 * g) (by omega), mo' (8 * g + 1) (by omega), mo' (8 * g + 2) (by omega), mo' (8 * g + 3) (by omega), ch (8 * g) (by omega) (by omega) (by omega), ch (8 * g + 1) (by omega) (by omega) (by omega), ch (8 * g + 2) (by omega) (by omega) (by omega), ch (8 * g + 3) (by omega) (by omega) (by omega)]
      have := r5 g hg'
      rw [mk_o (by omega), mk_o (by omega), mk_o (by omega), mk_o (by omega)] at this
      exact this
    · rw [a5, a7, ak 6 (by omega) (by omega)]
      by_cases q : g = f
      · subst q
        refine Or.inl ⟨pf, ?_, ?_, ?_⟩
        · rw [pk_us, mk_d orD_s, av_4]
        · rw [mo' _ (by omega), av_5]; exact h6
        · rw [pk_us, mo' _ (by omega), av_6, sub_sub32]
      · have ep : Pd (mkS kd (orD D f) n (avS (mo 0) f (nI k) (nI hh))) g ↔ Pd (mkS kd D n (mo 0)) g := by
          unfold Pd
          rw [same g hg' q 4 (by omega), same g hg' q 7 (by omega)]
        rw [ep, pk_un q, pk_un q, same g hg' q 4 (by omega), same g hg' q 5 (by omega), same g hg' q 6 (by omega)]
        exact r6 g hg'
    · have q : g ≠ f := by omega
      rw [a5, a7, ak 6 (by omega) (by omega), pk_un q, pk_un q]
      exact r7 g h1 h2
  refine ⟨k, k1, k3, k4, k5, ?_, h.step (U' := U) hf hd k1 k3 k6 k7 ch s2 av_4 ?_⟩
  · unfold Fi_seatInAir
    rw [Fi_isFlight_s hRf (by omega), bn1_r, bI_z, if_pos hf, if_neg ne, ckI_nI _ (by omega) (by omega), nI_clamp (by omega), stk_r, stk_r, hRf.et hf, me1, upm_n _ _ _ (show (6 : Nat) ≠ 5 by omega), h6]
    rfl
  · refine ⟨b, cc, t, k, hh, k - (b + hh), ?_, ?_, ?_, av_4, av_5, ?_, by omega, by omega, Or.inr (by omega), g4, g6, t1⟩
    · rw [ch _ (by omega) (by omega) (by omega)]; exact g3
    · rw [ch _ (by omega) (by omega) (by omega)]; exact g5
    · rw [ch _ (by omega) (by omega) (by omega)]; exact t2
    · rw [av_6, g3, nI_add, pk_sub (by omega)]
end PH
