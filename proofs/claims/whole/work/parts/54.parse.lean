/-! schedule: the pieces of the reading -/
section PA
variable {n v E P p k : Nat} {fo ro ra vc os li mo mo0 bs rd : Mem} {x y z w F g : Int32} {s s' t : Nat → Int32}
theorem by255 (h1 : -128 ≤ z.toInt) (h2 : z.toInt < 128) : (∃ c, c < 128 ∧ z = nI c ∧ z &&& 255 = nI c) ∨ (z < 0 ∧ ∃ j, 128 ≤ j ∧ j < 256 ∧ z &&& 255 = nI j) := by
  by_cases h : z < 0
  · refine Or.inr ⟨h, z.toBitVec.toNat % 2 ^ 8, ?_, ?_, pk_and z 8 (by decide)⟩
    · have h3 := Int32.lt_iff_toInt_lt.mp h
      have e0 : (0 : Int32).toInt = 0 := rfl
      have e1 : z.toInt = z.toBitVec.toInt := rfl
      have e2 := BitVec.toInt_eq_toNat_cond z.toBitVec
      have e3 := z.toBitVec.isLt
      rw [e1] at h1 h3
      split at e2 <;> omega
    · have := Nat.mod_lt z.toBitVec.toNat (show 0 < 2 ^ 8 by omega)
      omega
  · obtain ⟨c, hc, rfl⟩ := nI_of h
    rw [nI_toInt hc] at h2
    exact Or.inl ⟨c, by omega, rfl, and255 (by omega)⟩
abbrev dg (z : Int32) : Prop := ¬ z < 48 ∧ ¬ 57 < z
theorem Rd_isDigit_s : Rd_isDigit z = some (bI (dg z)) := by
  unfold Rd_isDigit
  by_cases h1 : z < 48
  · rw [if_pos h1, bI_f (fun q => q.1 h1)]
  · rw [if_neg h1]
    by_cases h2 : 57 < z
    · rw [if_pos h2, bI_f (fun q => q.2 h2)]
    · rw [if_neg h2, bI_t ⟨h1, h2⟩]
theorem Mo_isDigit_s : Mo_isDigit z = some (bI (dg z)) := by
  unfold Mo_isDigit
  rw [Mo_in_s, bn1_r, bI_ck]
theorem dg_nI {c : Nat} (hc : c < 2 ^ 31) : dg (nI c) ↔ (48 ≤ c ∧ c ≤ 57) := by
  have e1 : (nI c < 48) = (c < 48) := nI_ltP (b := 48) hc (by omega)
  have e2 : (57 < nI c) = (57 < c) := nI_ltP (a := 57) (by omega) hc
  show (¬ nI c < 48 ∧ ¬ 57 < nI c) ↔ _
  rw [e1, e2]
  omega
/-- the text's bytes -/
def TB (t : Nat → Int32) (E : Nat) (bs : Mem) : Prop := E ≤ 160 ∧ (∃ p, E ≤ p ∧ p ≤ 320 ∧ bs 1 0 = nI p) ∧ ∀ j, j < E → bs 0 j = t j ∧ -128 ≤ (t j).toInt ∧ (t j).toInt < 128
def pkN (t : Nat → Int32) (E P : Nat) : Int32 := if P < E then t P &&& 255 else -1
def skp (t : Nat → Int32) (E : Nat) : Nat → Nat → Nat
  | 0, P => P
  | r + 1, P => if P < E ∧ t P = 32 then skp t E r (P + 1) else P
def sk (t : Nat → Int32) (E P : Nat) : Nat := skp t E (E - P) P
theorem sk_y (h : P < E ∧ t P = 32) : sk t E P = sk t E (P + 1) := by
  unfold sk
  rw [show E - P = E - (P + 1) + 1 by omega]
  show (if P < E ∧ t P = 32 then skp t E (E - (P + 1)) (P + 1) else P) = _
  rw [if_pos h]
theorem sk_n (h : ¬ (P < E ∧ t P = 32)) : sk t E P = P := by
  unfold sk
  cases E - P with
  | zero => rfl
  | succ r => exact if_neg h
theorem sk_ge (h : E ≤ P) : sk t E P = P := sk_n (fun q => by omega)
theorem sk_p : ∀ (r P : Nat), E - P ≤ r → P ≤ sk t E P ∧ (sk t E P ≤ E ∨ sk t E P = P) ∧ ¬ (sk t E P < E ∧ t (sk t E P) = 32)
  | 0, P, h => by
    rw [sk_ge (by omega)]
    exact ⟨Nat.le_refl _, Or.inr rfl, fun q => by omega⟩
  | r + 1, P, h => by
    by_cases q : P < E ∧ t P = 32
    · rw [sk_y q]
      obtain ⟨a, b, c⟩ := sk_p r (P + 1) (by omega)
      exact ⟨by omega, Or.inl (by omega), c⟩
    · rw [sk_n q]
      exact ⟨Nat.le_refl _, Or.inr rfl, q⟩
theorem sk_le : sk t E P ≤ max P E := by have := (sk_p (t := t) (E := E) (E - P) P (Nat.le_refl _)).2.1; omega
theorem sk_sk : sk t E (sk t E P) = sk t E P := sk_n (sk_p (E - P) P (Nat.le_refl _)).2.2
def RD (rd : Mem) (E P : Nat) (F : Int32) : Prop := rd 0 0 = nI E ∧ rd 1 0 = nI P ∧ rd 2 0 = F
def MD (mo : Mem) (t : Nat → Int32) (E P : Nat) (F : Int32) : Prop := mo 5 0 = nI E ∧ mo 4 0 = nI P ∧ mo 6 0 = F ∧ mo 2 = t
/-- what the reference's reading leaves -/
def MK (mo mo' : Mem) : Prop := mo' 0 = mo 0 ∧ mo' 1 = mo 1 ∧ mo' 2 = mo 2 ∧ mo' 3 = mo 3 ∧ mo' 8 = mo 8 ∧ mo' 21 = mo 21
theorem MK.rf : MK mo mo := ⟨rfl, rfl, rfl, rfl, rfl, rfl⟩
theorem MK.tr {a b c : Mem} (h : MK a b) (h' : MK b c) : MK a c := ⟨h'.1.trans h.1, h'.2.1.trans h.2.1, h'.2.2.1.trans h.2.2.1, h'.2.2.2.1.trans h.2.2.2.1, h'.2.2.2.2.1.trans h.2.2.2.2.1, h'.2.2.2.2.2.trans h.2.2.2.2.2⟩
theorem MK.um {q i : Nat} (h : q ≠ 0 ∧ q ≠ 1 ∧ q ≠ 2 ∧ q ≠ 3 ∧ q ≠ 8 ∧ q ≠ 21) : MK mo (upm mo q i w) := ⟨upm_n _ _ _ (by omega), upm_n _ _ _ (by omega), upm_n _ _ _ (by omega), upm_n _ _ _ (by omega), upm_n _ _ _ (by omega), upm_n _ _ _ (by omega)⟩
theorem RD.pl {Q : Nat} (h : RD rd E P F) : RD (upm rd 1 0 (nI Q)) E Q F := ⟨by rw [upm_n _ _ _ (by omega)]; exact h.1, by rw [upm_0, pk_us], by rw [upm_n _ _ _ (by omega)]; exact h.2.2⟩
theorem MD.pl {Q : Nat} (h : MD mo t E P F) : MD (upm mo 4 0 (nI Q)) t E Q F := ⟨by rw [upm_n _ _ _ (by omega)]; exact h.1, by rw [upm_0, pk_us], by rw [upm_n _ _ _ (by omega)]; exact h.2.2.1, by rw [upm_n _ _ _ (by omega)]; exact h.2.2.2⟩
theorem peek_s (hT : TB t E bs) (h : RD rd E P F) (hP : P < 100000) : Rd_peek rd bs = some (pkN t E P) := by
  obtain ⟨h1, ⟨p, h2, h3, h4⟩, h5⟩ := hT
  unfold Rd_peek pkN
  rw [h.1, h.2.1]
  by_cases q : P < E
  · rw [if_neg (nI_ge q (by omega)), if_pos q]
    unfold By_byteAt
    rw [if_neg (nI_pos (by omega)), h4, if_neg (nI_ge (by omega) (by omega)), if_neg (show ¬ 320 ≤ nI P from nI_ge (b := 320) (by omega) (by omega)), ckI_nI _ (by omega) (by omega), nI_clamp (by omega), bn1_r, (h5 P q).1]
  · rw [if_pos (nI_le (by omega) (by omega)), if_neg q]
theorem pk_bl (hT : TB t E bs) (h : P < E) : (pkN t E P = 32 ↔ t P = 32) ∧ (dg (pkN t E P) ↔ dg (t P)) ∧ (dg (t P) → ∃ c, 48 ≤ c ∧ c ≤ 57 ∧ t P = nI c ∧ pkN t E P = nI c) ∧ ∃ j, j < 256 ∧ pkN t E P = nI j := by
  obtain ⟨-, b1, b2⟩ := hT.2.2 P h
  have e : pkN t E P = t P &&& 255 := if_pos h
  rw [e]
  rcases by255 b1 b2 with ⟨c, hc, e1, e2⟩ | ⟨hz, j, h1, h2, e2⟩
  · rw [e2, e1]
    refine ⟨Iff.rfl, Iff.rfl, fun q => ?_, c, by omega, rfl⟩
    have := (dg_nI (by omega)).mp q
    exact ⟨c, this.1, this.2, rfl, rfl⟩
  · rw [e2]
    have nd : ¬ dg (t P) := fun q => q.1 (Int32.lt_trans hz (by decide))
    have nj : ¬ dg (nI j) := fun q => by have := (dg_nI (by omega)).mp q; omega
    refine ⟨⟨fun q => ?_, fun q => ?_⟩, ⟨fun q => absurd q nj, fun q => absurd q nd⟩, fun q => absurd q nd, j, h2, rfl⟩
    · have := (nI_eq (b := 32) (by omega) (by omega)).mp q; omega
    · rw [q] at hz; exact absurd hz (by decide)
theorem pk_m (h : ¬ P < E) : pkN t E P = -1 := if_neg h
theorem skip_l (hT : TB t E bs) : ∀ (r P N : Nat) (rd : Mem), E - P ≤ r → r < N → P < 90000 → RD rd E P F → ∃ rd', Rd_skipBlanks_b0 bs N rd = some rd' ∧ RD rd' E (sk t E P) F
  | 0, P, N + 1, rd, h1, _, hP, h => by
    refine ⟨rd, ?_, by rw [sk_ge (by omega)]; exact h⟩
    have := hT.1
    show Rd_skipBlanks_b0B bs (Rd_skipBlanks_b0 bs N) rd = _
    unfold Rd_skipBlanks_b0B
    rw [h.1, h.2.1, if_pos (nI_le (by omega) (by omega))]
  | r + 1, P, N + 1, rd, h1, hN, hP, h => by
    have h160 := hT.1
    show ∃ rd', Rd_skipBlanks_b0B bs (Rd_skipBlanks_b0 bs N) rd = some rd' ∧ RD rd' E (sk t E P) F
    unfold Rd_skipBlanks_b0B
    rw [peek_s hT h (by omega), h.1, h.2.1, bn1_r]
    by_cases q : P < E
    · rw [if_neg (nI_ge q (by omega))]
      by_cases q2 : t P = 32
      · rw [if_pos ((pk_bl hT q).1.mpr q2), stk_r, nI_1, sk_y ⟨q, q2⟩]
        exact skip_l hT r (P + 1) N _ (by omega) (by omega) (by omega) h.pl
      · rw [if_neg (fun z => q2 ((pk_bl hT q).1.mp z)), sk_n (fun z => q2 z.2)]
        exact ⟨rd, rfl, h⟩
    · rw [if_pos (nI_le (by omega) (by omega)), sk_n (fun z => q z.1)]
      exact ⟨rd, rfl, h⟩
theorem skip_s (hT : TB t E bs) (hP : P < 90000) (h : RD rd E P F) : ∃ rd', Rd_skipBlanks rd bs = some rd' ∧ RD rd' E (sk t E P) F := skip_l hT E P fl rd (by omega) (by have := hT.1; rw [fl_v]; omega) hP h
theorem see_l (hT : TB t E bs) : ∀ (r P N : Nat) (mo : Mem), E - P ≤ r → r < N → P < 90000 → MD mo t E P F → ∃ mo', Mo_see_b0 N mo = some (pkN t E (sk t E P), mo') ∧ MD mo' t E (sk t E P) F ∧ MK mo mo' := by
  have ed : ∀ {Q : Nat} {m : Mem}, MD m t E Q F → Q < 90000 → Mo_see_b38 m = some (pkN t E Q, m) := fun {Q m} h hQ => by
    have h160 := hT.1
    unfold Mo_see_b38
    rw [h.1, h.2.1]
    by_cases q : Q < E
    · rw [if_neg (nI_ge q (by omega)), ckI_nI _ (by omega) (by omega), nI_clamp (by omega), h.2.2.2]
      unfold pkN
      rw [if_pos q]
    · rw [if_pos (nI_le (by omega) (by omega)), pk_m q]
  intro r
  induction r with
  | zero =>
    intro P N mo h1 hN hP h
    obtain ⟨N, rfl⟩ : ∃ q, N = q + 1 := ⟨N - 1, by omega⟩
    refine ⟨mo, ?_, by rw [sk_ge (by omega)]; exact h, MK.rf⟩
    have := hT.1
    show Mo_see_b0B (Mo_see_b0 N) mo = _
    unfold Mo_see_b0B
    rw [h.1, h.2.1, if_pos (nI_le (by omega) (by omega)), ed h hP, sk_ge (by omega)]
  | succ r ih =>
    intro P N mo h1 hN hP h
    obtain ⟨N, rfl⟩ : ∃ q, N = q + 1 := ⟨N - 1, by omega⟩
    have h160 := hT.1
    show ∃ mo', Mo_see_b0B (Mo_see_b0 N) mo = some (pkN t E (sk t E P), mo') ∧ MD mo' t E (sk t E P) F ∧ MK mo mo'
    unfold Mo_see_b0B
    rw [h.1, h.2.1]
    by_cases q : P < E
    · rw [if_neg (nI_ge q (by omega)), ckI_nI _ (by omega) (by omega), nI_clamp (by omega), h.2.2.2]
      by_cases q2 : t P = 32
      · rw [if_pos q2, stk_r, nI_1, sk_y ⟨q, q2⟩]
        obtain ⟨m', o1, o2, o3⟩ := ih (P + 1) N (upm mo 4 0 (nI (P + 1))) (by omega) (by omega) (by omega) h.pl
        exact ⟨m', o1, o2, (MK.um (by omega)).tr o3⟩
      · rw [if_neg q2, sk_n (fun z => q2 z.2), ed h hP]
        exact ⟨mo, rfl, h, MK.rf⟩
    · rw [if_pos (nI_le (by omega) (by omega)), sk_n (fun z => q z.1), ed h hP]
      exact ⟨mo, rfl, h, MK.rf⟩
theorem see_s (hT : TB t E bs) (hP : P < 90000) (h : MD mo t E P F) : ∃ mo', Mo_see mo = some (pkN t E (sk t E P), mo') ∧ MD mo' t E (sk t E P) F ∧ MK mo mo' := see_l hT E P fl mo (by omega) (by have := hT.1; rw [fl_v]; omega) hP h
/-- a fault: the first counts -/
def ff (F g : Int32) : Int32 := if F = 0 then g else F
def fv (c P : Nat) : Int32 := (-1000) * nI c - nI P
theorem ff_0 : ff F 0 = F := by unfold ff; split <;> simp_all
theorem ff_z : ff 0 g = g := if_pos rfl
theorem ff_n (h : ¬ F = 0) : ff F g = F := if_neg h
theorem fv_ne {c P : Nat} (hc : 1 ≤ c) (hc3 : c ≤ 3) (hP : P < 100000) : ¬ fv c P = 0 := fun e => by
  have h1 : fv c P = nI 0 - nI (1000 * c + P) := by
    unfold fv
    rw [show (-1000 : Int32) = nI 0 - nI 1000 from rfl, ← nI_add, ← pk_mul]
    rw [show nI 0 = (0 : Int32) from rfl]
    grind
  have h2 := pk_sneg (a := 0) (b := 1000 * c + P) (by omega) (by omega)
  rw [← h1, e] at h2
  exact absurd h2 (by decide)
theorem fail_s {c Q : Nat} (h : RD rd E P F) : ∃ rd', Rd_fail rd (nI c) (nI Q) = some rd' ∧ RD rd' E P (ff F (fv c Q)) := by
  unfold Rd_fail
  rw [h.2.2]
  by_cases q : F = 0
  · rw [if_pos q, stk_r]
    refine ⟨_, rfl, by rw [upm_n _ _ _ (by omega)]; exact h.1, by rw [upm_n _ _ _ (by omega)]; exact h.2.1, ?_⟩
    rw [upm_0, pk_us, q, ff_z]
    rfl
  · rw [if_neg q]
    exact ⟨rd, rfl, h.1, h.2.1, by rw [ff_n q]; exact h.2.2⟩
theorem wrong_s {c Q : Nat} (h : MD mo t E P 0) : ∃ mo', Mo_wrong mo (nI c) (nI Q) = some (0, mo') ∧ MD mo' t E P (fv c Q) ∧ MK mo mo' := by
  unfold Mo_wrong
  rw [h.2.2.1, if_pos rfl, stk_r]
  exact ⟨_, rfl, ⟨by rw [upm_n _ _ _ (by omega)]; exact h.1, by rw [upm_n _ _ _ (by omega)]; exact h.2.1, by rw [upm_0, pk_us]; rfl, by rw [upm_n _ _ _ (by omega)]; exact h.2.2.2⟩, MK.um (by omega)⟩
/-- the class: a sign that must be -/
theorem expect_s (hT : TB t E bs) (hP : P < 90000) (h : RD rd E P F) : ∃ rd', Rd_expect rd bs x = some rd' ∧ RD rd' E (P + 1) (ff F (if pkN t E P = x then 0 else fv 1 P)) := by
  unfold Rd_expect Rd_expect_b18
  rw [peek_s hT h (by omega), bn1_r]
  by_cases q : pkN t E P = x
  · rw [if_pos q, if_pos q, stk_r, h.2.1, nI_1, ff_0]
    exact ⟨_, rfl, h.pl⟩
  · obtain ⟨rd', o1, o2⟩ := fail_s (c := 1) (Q := P) h
    rw [if_neg q, if_neg q, h.2.1, show (1 : Int32) = nI 1 from rfl, o1, bn1_r, stk_r, o2.2.1, nI_add]
    exact ⟨_, rfl, o2.pl⟩
theorem passes_s (hT : TB t E bs) (hP : P < 90000) (h : MD mo t E P 0) : (pkN t E (sk t E P) = x ∧ ∃ mo', Mo_passes mo x = some (1, mo') ∧ MD mo' t E (sk t E P + 1) 0 ∧ MK mo mo') ∨ (¬ pkN t E (sk t E P) = x ∧ ∃ mo', Mo_passes mo x = some (0, mo') ∧ MD mo' t E (sk t E P) (fv 1 (sk t E P)) ∧ MK mo mo') := by
  obtain ⟨m1, o1, o2, o3⟩ := see_s hT hP h
  unfold Mo_passes
  rw [o1, bn2_r]
  by_cases q : pkN t E (sk t E P) = x
  · rw [if_pos q, stk_r, o2.2.1, nI_1]
    exact Or.inl ⟨q, _, rfl, o2.pl, o3.tr (MK.um (by omega))⟩
  · obtain ⟨m2, p1, p2, p3⟩ := wrong_s (c := 1) (Q := sk t E P) o2
    rw [if_neg q, o2.2.1, show (1 : Int32) = nI 1 from rfl, p1, bn2_r, ckB_ok _ (Or.inl rfl)]
    exact Or.inr ⟨q, m2, rfl, p2, o3.tr p3⟩
/-- the class's letter -/
def lg (full : Bool) (t : Nat → Int32) (E P : Nat) : Int32 := if pkN t E (sk t E P) < 97 ∨ 101 < pkN t E (sk t E P) then fv 1 (sk t E P) else if full then fv 3 (sk t E P) else 0
theorem letter_s {full : Bool} (hT : TB t E bs) (hP : P < 80000) (h : RD rd E P F) : ∃ rd', Rd_readLetter rd bs (bI (full = true)) = some (pkN t E (sk t E P) - 97, rd') ∧ RD rd' E (sk t E P + 1) (ff F (lg full t E P)) := by
  have h160 := hT.1
  have hs := sk_le (t := t) (E := E) (P := P)
  obtain ⟨r1, o1, o2⟩ := skip_s hT (by omega) h
  have b23 : ∃ rd', Rd_readLetter_b23 bs (bI (full = true)) r1 (pkN t E (sk t E P)) = some (pkN t E (sk t E P) - 97, rd') ∧ RD rd' E (sk t E P + 1) (ff F (fv 1 (sk t E P))) := by
    obtain ⟨r2, q1, q2⟩ := fail_s (c := 1) (Q := sk t E P) o2
    unfold Rd_readLetter_b23 Rd_readLetter_b48
    rw [o2.2.1, show (1 : Int32) = nI 1 from rfl, q1, bn1_r, stk_r, q2.2.1, nI_add]
    exact ⟨_, rfl, q2.pl⟩
  unfold Rd_readLetter lg
  rw [o1, bn1_r, peek_s hT o2 (by omega), bn1_r]
  by_cases q1 : pkN t E (sk t E P) < 97
  · rw [if_pos q1, if_pos (Or.inl q1)]; exact b23
  · rw [if_neg q1]
    by_cases q2 : 101 < pkN t E (sk t E P)
    · rw [if_neg (Int32.not_le.mpr q2), if_pos (Or.inr q2)]; exact b23
    · have q12 : ¬ (pkN t E (sk t E P) < 97 ∨ 101 < pkN t E (sk t E P)) := fun z => z.elim q1 q2
      rw [if_pos (Int32.not_lt.mp q2), bI_z, if_neg q12]
      by_cases q3 : full = true
      · obtain ⟨r2, p1, p2⟩ := fail_s (c := 3) (Q := sk t E P) o2
        unfold Rd_readLetter_b48
        rw [if_pos q3, if_pos q3, o2.2.1, show (3 : Int32) = nI 3 from rfl, p1, bn1_r, stk_r, p2.2.1, nI_1]
        exact ⟨_, rfl, p2.pl⟩
      · unfold Rd_readLetter_b48
        rw [if_neg q3, if_neg q3, stk_r, o2.2.1, nI_1, ff_0]
        exact ⟨_, rfl, o2.pl⟩
/-- the class's weight -/
def wg (t : Nat → Int32) (E P : Nat) : Int32 := if pkN t E (sk t E P) = 42 then (if dg (pkN t E (sk t E (sk t E P + 1))) then (if pkN t E (sk t E (sk t E P + 1)) = 48 then fv 2 (sk t E (sk t E P + 1)) else 0) else fv 1 (sk t E (sk t E P + 1))) else 0
def wv (t : Nat → Int32) (E P : Nat) : Int32 := if pkN t E (sk t E P) = 42 then pkN t E (sk t E (sk t E P + 1)) - 48 else 1
def wp (t : Nat → Int32) (E P : Nat) : Nat := if pkN t E (sk t E P) = 42 then sk t E (sk t E P + 1) + 1 else sk t E P
theorem weight_s (hT : TB t E bs) (hP : P < 80000) (h : RD rd E P F) : ∃ rd', Rd_readWeight rd bs = some (wv t E P, rd') ∧ RD rd' E (wp t E P) (ff F (wg t E P)) := by
  have h160 := hT.1
  have hs := sk_le (t := t) (E := E) (P := P)
  have hs2 := sk_le (t := t) (E := E) (P := sk t E P + 1)
  obtain ⟨r1, o1, o2⟩ := skip_s hT (by omega) h
  unfold Rd_readWeight wv wp wg
  rw [o1, bn1_r, peek_s hT o2 (by omega), bn1_r]
  by_cases q : pkN t E (sk t E P) = 42
  · rw [if_pos q, if_pos q, if_pos q, if_pos q, stk_r, o2.2.1, nI_1]
    obtain ⟨r2, o3, o4⟩ := skip_s hT (by omega) (o2.pl (Q := sk t E P + 1))
    rw [o3, bn1_r, peek_s hT o4 (by omega), bn1_r, Rd_isDigit_s, bn1_r, bI_z]
    by_cases d : dg (pkN t E (sk t E (sk t E P + 1)))
    · rw [if_pos d, if_pos d]
      by_cases e : pkN t E (sk t E (sk t E P + 1)) = 48
      · obtain ⟨r3, p1, p2⟩ := fail_s (c := 2) (Q := sk t E (sk t E P + 1)) o4
        unfold Rd_readWeight_b72
        rw [if_pos e, if_pos e, o4.2.1, show (2 : Int32) = nI 2 from rfl, p1, bn1_r, stk_r, p2.2.1, nI_1]
        exact ⟨_, rfl, p2.pl⟩
      · unfold Rd_readWeight_b72
        rw [if_neg e, if_neg e, stk_r, o4.2.1, nI_1, ff_0]
        exact ⟨_, rfl, o4.pl⟩
    · obtain ⟨r3, p1, p2⟩ := fail_s (c := 1) (Q := sk t E (sk t E P + 1)) o4
      unfold Rd_readWeight_b72
      rw [if_neg d, if_neg d, o4.2.1, show (1 : Int32) = nI 1 from rfl, p1, bn1_r, stk_r, p2.2.1, nI_add]
      exact ⟨_, rfl, p2.pl⟩
  · rw [if_neg q, if_neg q, if_neg q, if_neg q, ff_0]
    exact ⟨r1, rfl, o2⟩
end PA
