/-! schedule: numbers, flights -/
section SC
variable {n v E P Q p k most : Nat} {fo ro ra vc os li mo mo0 bs rd : Mem} {x y z w F g : Int32} {s s' t : Nat → Int32}
def mN (t : Nat → Int32) (E Q : Nat) : Nat := if dg (pkN t E Q) then (if dg (pkN t E (Q + 1)) then (if dg (pkN t E (Q + 2)) then 3 else 2) else 1) else 0
theorem mN_p : mN t E Q ≤ 3 ∧ (∀ j, j < mN t E Q → dg (pkN t E (Q + j))) ∧ (mN t E Q = 3 ∨ ¬ dg (pkN t E (Q + mN t E Q))) := by
  unfold mN
  by_cases h0 : dg (pkN t E Q)
  · rw [if_pos h0]
    by_cases h1 : dg (pkN t E (Q + 1))
    · rw [if_pos h1]
      by_cases h2 : dg (pkN t E (Q + 2))
      · rw [if_pos h2]
        refine ⟨by omega, fun j hj => ?_, Or.inl rfl⟩
        rcases (show j = 0 ∨ j = 1 ∨ j = 2 by omega) with rfl | rfl | rfl
        · exact h0
        · exact h1
        · exact h2
      · rw [if_neg h2]
        refine ⟨by omega, fun j hj => ?_, Or.inr h2⟩
        rcases (show j = 0 ∨ j = 1 by omega) with rfl | rfl
        · exact h0
        · exact h1
    · rw [if_neg h1]
      refine ⟨by omega, fun j hj => ?_, Or.inr h1⟩
      have : j = 0 := by omega
      subst this
      exact h0
  · rw [if_neg h0]
    exact ⟨by omega, fun j hj => by omega, Or.inr h0⟩
def nvl (t : Nat → Int32) (E Q : Nat) : Nat → Nat
  | 0 => 0
  | d + 1 => 10 * nvl t E Q d + ((pkN t E (Q + d)).toNatClampNeg - 48)
theorem dg_in (h : dg (pkN t E Q)) : Q < E := Classical.byContradiction (fun q => by
  rw [pk_m q] at h
  exact h.1 (by decide))
theorem dg_c (hT : TB t E bs) (h : dg (pkN t E Q)) : ∃ c, 48 ≤ c ∧ c ≤ 57 ∧ t Q = nI c ∧ pkN t E Q = nI c := by
  have q := dg_in h
  exact (pk_bl hT q).2.2.1 ((pk_bl hT q).2.1.mp h)
theorem nvl_lt (hT : TB t E bs) : ∀ d, (∀ j, j < d → dg (pkN t E (Q + j))) → nvl t E Q d < 10 ^ d
  | 0, _ => by show 0 < 10 ^ 0; omega
  | d + 1, h => by
    have h1 := nvl_lt hT d (fun j hj => h j (by omega))
    obtain ⟨c, c1, c2, -, c3⟩ := dg_c hT (h d (by omega))
    show 10 * nvl t E Q d + ((pkN t E (Q + d)).toNatClampNeg - 48) < 10 ^ (d + 1)
    rw [c3, nI_clamp (by omega), Nat.pow_succ]
    omega
theorem nvl_b (hT : TB t E bs) {d : Nat} (hd : d ≤ 3) (h : ∀ j, j < d → dg (pkN t E (Q + j))) : nvl t E Q d < 1000 := Nat.lt_of_lt_of_le (nvl_lt hT d h) (Nat.pow_le_pow_right (n := 10) (by omega) hd)
theorem nvl_s (hT : TB t E bs) {d : Nat} (hd : d < 3) (h : ∀ j, j < d + 1 → dg (pkN t E (Q + j))) : 10 * nI (nvl t E Q d) + pkN t E (Q + d) - 48 = nI (nvl t E Q (d + 1)) ∧ 10 * nI (nvl t E Q d) + t (Q + d) - 48 = nI (nvl t E Q (d + 1)) := by
  obtain ⟨c, c1, c2, c4, c3⟩ := dg_c hT (h d (by omega))
  have b := nvl_b hT (d := d) (by omega) (fun j hj => h j (by omega))
  have e : nvl t E Q (d + 1) = 10 * nvl t E Q d + c - 48 := by
    show 10 * nvl t E Q d + ((pkN t E (Q + d)).toNatClampNeg - 48) = _
    rw [c3, nI_clamp (by omega)]
    omega
  rw [c3, c4, e, show (10 : Int32) = nI 10 from rfl, show (48 : Int32) = nI 48 from rfl, pk_mul, nI_add, pk_sub (by omega)]
  exact ⟨rfl, rfl⟩
/-- a number's fault -/
def ng (most : Nat) (t : Nat → Int32) (E Q : Nat) : Int32 := if mN t E Q = 0 ∨ dg (pkN t E (Q + mN t E Q)) then fv 1 (Q + mN t E Q) else if most < nvl t E Q (mN t E Q) then fv 2 Q else 0
theorem num_x (hT : TB t E bs) (hm : most < 1000) (hQ : Q < 90000) (h : RD rd E (Q + mN t E Q) F) : ∃ rd', Rd_readNumber_b65 bs (nI most) rd (nI Q) (nI (nvl t E Q (mN t E Q))) = some (nI (nvl t E Q (mN t E Q)), rd') ∧ RD rd' E (Q + mN t E Q) (ff F (ng most t E Q)) := by
  have mp := mN_p (t := t) (E := E) (Q := Q)
  have b := nvl_b hT mp.1 mp.2.1
  have b84 : ∃ rd', Rd_readNumber_b84 bs (nI most) rd (nI (nvl t E Q (mN t E Q))) = some (nI (nvl t E Q (mN t E Q)), rd') ∧ RD rd' E (Q + mN t E Q) (ff F (fv 1 (Q + mN t E Q))) := by
    obtain ⟨r2, q1, q2⟩ := fail_s (c := 1) (Q := Q + mN t E Q) h
    unfold Rd_readNumber_b84
    rw [h.2.1, show (1 : Int32) = nI 1 from rfl, q1, bn1_r]
    exact ⟨_, rfl, q2⟩
  unfold Rd_readNumber_b65 ng
  rw [h.2.1]
  by_cases q : mN t E Q = 0
  · rw [if_pos (by rw [q]; rfl), if_pos (Or.inl q)]
    exact b84
  · rw [if_neg (fun e => by have := (nI_eq (by omega) (by omega)).mp e; omega), peek_s hT h (by omega), bn1_r, Rd_isDigit_s, bn1_r, bI_z]
    by_cases d : dg (pkN t E (Q + mN t E Q))
    · rw [if_pos d, if_pos (Or.inr d)]; exact b84
    · have nd : ¬ (mN t E Q = 0 ∨ dg (pkN t E (Q + mN t E Q))) := fun z => z.elim q d
      rw [if_neg d, if_neg nd]
      by_cases m : most < nvl t E Q (mN t E Q)
      · obtain ⟨r2, q1, q2⟩ := fail_s (c := 2) (Q := Q) h
        rw [if_neg (nI_ge m (by omega)), if_pos m, show (2 : Int32) = nI 2 from rfl, q1, bn1_r]
        exact ⟨_, rfl, q2⟩
      · rw [if_pos (nI_le (by omega) (by omega)), if_neg m, ff_0]
        exact ⟨_, rfl, h⟩
theorem num_l (hT : TB t E bs) (hm : most < 1000) (hQ : Q < 90000) : ∀ (r i N : Nat) (rd : Mem), i + r = mN t E Q → r < N → RD rd E (Q + i) F → ∃ rd', Rd_readNumber_b16 bs (nI most) N rd (nI Q) (nI (nvl t E Q i)) (nI i) = some (nI (nvl t E Q (mN t E Q)), rd') ∧ RD rd' E (Q + mN t E Q) (ff F (ng most t E Q))
  | 0, i, N + 1, rd, hi, _, h => by
    have mp := mN_p (t := t) (E := E) (Q := Q)
    have e : i = mN t E Q := by omega
    subst e
    show ∃ rd', Rd_readNumber_b16B bs (nI most) (Rd_readNumber_b16 bs (nI most) N) rd (nI Q) (nI (nvl t E Q (mN t E Q))) (nI (mN t E Q)) = some (nI (nvl t E Q (mN t E Q)), rd') ∧ _
    unfold Rd_readNumber_b16B
    by_cases q : mN t E Q = 3
    · rw [if_pos (show 3 ≤ nI (mN t E Q) from by rw [q]; decide)]
      exact num_x hT hm hQ h
    · have nd := mp.2.2.resolve_left q
      rw [if_neg (show ¬ 3 ≤ nI (mN t E Q) from nI_ge (b := 3) (by omega) (by omega)), peek_s hT h (by omega), bn1_r, Rd_isDigit_s, bn1_r, bI_z, if_neg nd]
      exact num_x hT hm hQ h
  | r + 1, i, N + 1, rd, hi, hN, h => by
    have mp := mN_p (t := t) (E := E) (Q := Q)
    show ∃ rd', Rd_readNumber_b16B bs (nI most) (Rd_readNumber_b16 bs (nI most) N) rd (nI Q) (nI (nvl t E Q i)) (nI i) = some (nI (nvl t E Q (mN t E Q)), rd') ∧ _
    unfold Rd_readNumber_b16B
    rw [if_neg (show ¬ 3 ≤ nI i from nI_ge (b := 3) (by omega) (by omega)), peek_s hT h (by omega), bn1_r, Rd_isDigit_s, bn1_r, bI_z, if_pos (mp.2.1 i (by omega)), bn1_r, stk_r, stk_r, stk_r, (nvl_s hT (by omega) (fun j hj => mp.2.1 j (by omega))).1, h.2.1, nI_1, nI_1]
    exact num_l hT hm hQ r (i + 1) N _ (by omega) (by omega) h.pl
theorem num_s (hT : TB t E bs) (hm : most < 1000) (hP : P < 80000) (h : RD rd E P F) : ∃ rd', Rd_readNumber rd bs (nI most) = some (nI (nvl t E (sk t E P) (mN t E (sk t E P))), rd') ∧ RD rd' E (sk t E P + mN t E (sk t E P)) (ff F (ng most t E (sk t E P))) := by
  have h160 := hT.1
  have hs := sk_le (t := t) (E := E) (P := P)
  have mp := mN_p (t := t) (E := E) (Q := sk t E P)
  obtain ⟨r1, o1, o2⟩ := skip_s hT (by omega) h
  unfold Rd_readNumber
  rw [o1, bn1_r, stk_r, o2.2.1]
  exact num_l hT hm (by omega) (mN t E (sk t E P)) 0 fl r1 (by omega) (by rw [fl_v]; omega) o2
theorem cnt_x {m0 : Mem} {pl : Nat} {a b : Int32} (h : MD mo t E pl 0) (hmk : MK m0 mo) {c : Nat} (h7 : mo 7 0 = nI c) (hc : c < 1000) (hm : most < 1000) : ∃ mo', Mo_counts_b133 a 0 (nI most) mo (nI Q) = some (if most < c then 0 else 1, mo') ∧ MD mo' t E pl (if most < c then fv 2 Q else 0) ∧ mo' 7 0 = nI c ∧ MK m0 mo' := by
  unfold Mo_counts_b133
  rw [h7, Mo_in0 most (by omega), bn1_r, bI_z]
  by_cases q : most < c
  · obtain ⟨m2, p1, p2, p3⟩ := wrong_s (c := 2) (Q := Q) h
    rw [if_neg (fun z => by obtain ⟨j, hj, e⟩ := in0_of z (by omega); have := (nI_eq (by omega) (by omega)).mp e; omega), show (2 : Int32) = nI 2 from rfl, p1, bn2_r, if_pos rfl, if_pos q, if_pos q]
    refine ⟨m2, rfl, p2, ?_, hmk.tr p3⟩
    have : m2 = upm mo 6 0 (fv 2 Q) := by
      unfold Mo_wrong at p1
      rw [h.2.2.1, if_pos rfl, stk_r] at p1
      cases p1
      rfl
    rw [this, upm_n _ _ _ (by omega), h7]
  · rw [if_pos (in0_nI (by omega) (by omega)), if_neg q, if_neg q]
    exact ⟨mo, rfl, h, h7, hmk⟩
theorem cnt_l {m0 : Mem} (hT : TB t E bs) (hm : most < 1000) (hQ : Q < 90000) : ∀ (r i N : Nat) (mo : Mem), i + r = mN t E Q → 0 < mN t E Q → r < N → MD mo t E (Q + i) 0 → mo 7 0 = nI (nvl t E Q i) → MK m0 mo → ∃ mo', Mo_counts_b35 3 0 (nI most) N mo (nI Q) = some (if ng most t E Q = 0 then 1 else 0, mo') ∧ MD mo' t E (Q + mN t E Q) (ng most t E Q) ∧ (ng most t E Q = 0 → mo' 7 0 = nI (nvl t E Q (mN t E Q))) ∧ MK m0 mo'
  | 0, i, N + 1, mo, hi, h0, _, h, h7, hmk => by
    have h160 := hT.1
    have mp := mN_p (t := t) (E := E) (Q := Q)
    have b := nvl_b hT mp.1 mp.2.1
    have e : i = mN t E Q := by omega
    subst e
    have fin : ¬ dg (pkN t E (Q + mN t E Q)) → ∃ mo', Mo_counts_b133 3 0 (nI most) mo (nI Q) = some (if ng most t E Q = 0 then 1 else 0, mo') ∧ MD mo' t E (Q + mN t E Q) (ng most t E Q) ∧ (ng most t E Q = 0 → mo' 7 0 = nI (nvl t E Q (mN t E Q))) ∧ MK m0 mo' := fun nd => by
      have nd' : ¬ (mN t E Q = 0 ∨ dg (pkN t E (Q + mN t E Q))) := fun z => z.elim (fun a => absurd a (by omega)) nd
      have eg : ng most t E Q = if most < nvl t E Q (mN t E Q) then fv 2 Q else 0 := if_neg nd'
      obtain ⟨m1, q1, q2, q3, q4⟩ := cnt_x (a := 3) (b := 0) (Q := Q) h hmk h7 b hm
      rw [eg]
      refine ⟨m1, ?_, q2, fun _ => q3, q4⟩
      rw [q1]
      by_cases q : most < nvl t E Q (mN t E Q)
      · rw [if_pos q, if_pos q, if_neg (fv_ne (by omega) (by omega) (by omega))]
      · rw [if_neg q, if_neg q, if_pos rfl]
    show ∃ mo', Mo_counts_b35B 3 0 (nI most) (Mo_counts_b35 3 0 (nI most) N) mo (nI Q) = some (if ng most t E Q = 0 then 1 else 0, mo') ∧ _
    unfold Mo_counts_b35B
    rw [h.1, h.2.1]
    by_cases q : Q + mN t E Q < E
    · rw [if_neg (nI_ge q (by omega)), ckI_nI _ (by omega) (by omega), nI_clamp (by omega), Mo_isDigit_s, bn1_r, bI_z, h.2.2.2]
      by_cases d : dg (pkN t E (Q + mN t E Q))
      · rw [if_pos ((pk_bl hT q).2.1.mp d), if_pos (by decide)]
        have m3 : mN t E Q = 3 := mp.2.2.resolve_right (fun z => z d)
        unfold Mo_counts_b75
        have ds : nI (Q + mN t E Q) - nI Q = 3 := by rw [pk_sub (by omega), m3, show Q + 3 - Q = 3 by omega]; rfl
        obtain ⟨m1, p1, p2, p3⟩ := wrong_s (c := 1) (Q := Q + mN t E Q) h
        rw [h.2.1, ds, if_pos rfl, show (1 : Int32) = nI 1 from rfl, p1, bn2_r, ckB_ok _ (Or.inl rfl)]
        have eg : ng most t E Q = fv 1 (Q + mN t E Q) := if_pos (Or.inr d)
        have ne := fv_ne (c := 1) (P := Q + mN t E Q) (by omega) (by omega) (by omega)
        rw [eg, if_neg ne]
        exact ⟨m1, rfl, p2, fun z => absurd z ne, hmk.tr p3⟩
      · rw [if_neg (fun z => d ((pk_bl hT q).2.1.mpr z))]
        exact fin d
    · rw [if_pos (nI_le (by omega) (by omega))]
      exact fin (fun z => q (dg_in z))
  | r + 1, i, N + 1, mo, hi, h0, hN, h, h7, hmk => by
    have h160 := hT.1
    have mp := mN_p (t := t) (E := E) (Q := Q)
    have d := mp.2.1 i (by omega)
    have q := dg_in d
    show ∃ mo', Mo_counts_b35B 3 0 (nI most) (Mo_counts_b35 3 0 (nI most) N) mo (nI Q) = some (if ng most t E Q = 0 then 1 else 0, mo') ∧ _
    unfold Mo_counts_b35B
    rw [h.1, h.2.1, if_neg (nI_ge q (by omega)), ckI_nI _ (by omega) (by omega), nI_clamp (by omega), Mo_isDigit_s, bn1_r, bI_z, h.2.2.2, if_pos ((pk_bl hT q).2.1.mp d), if_pos (by decide)]
    unfold Mo_counts_b75
    have ds : ¬ nI (Q + i) - nI Q = 3 := by
      rw [pk_sub (by omega), show Q + i - Q = i by omega]
      exact fun z => by have := (nI_eq (b := 3) (by omega) (by omega)).mp z; omega
    rw [h.2.1, if_neg ds, ckI_nI _ (by omega) (by omega), nI_clamp (by omega), stk_r, stk_r, h7, h.2.2.2, (nvl_s hT (by omega) (fun j hj => mp.2.1 j (by omega))).2, upm_n _ _ _ (show (4 : Nat) ≠ 7 by omega), h.2.1, nI_1]
    have h' : MD (upm mo 7 0 (nI (nvl t E Q (i + 1)))) t E (Q + i) 0 := ⟨by rw [upm_n _ _ _ (by omega)]; exact h.1, by rw [upm_n _ _ _ (by omega)]; exact h.2.1, by rw [upm_n _ _ _ (by omega)]; exact h.2.2.1, by rw [upm_n _ _ _ (by omega)]; exact h.2.2.2⟩
    exact cnt_l hT hm hQ r (i + 1) N _ (by omega) h0 (by omega) h'.pl (by rw [upm_n _ _ _ (by omega), upm_0, pk_us]) ((hmk.tr (MK.um (by omega))).tr (MK.um (by omega)))
theorem counts_s (hT : TB t E bs) (hm : most < 1000) (hP : P < 80000) (h : MD mo t E P 0) : ∃ mo', Mo_counts mo 3 0 (nI most) = some (if ng most t E (sk t E P) = 0 then 1 else 0, mo') ∧ MD mo' t E (sk t E P + mN t E (sk t E P)) (ng most t E (sk t E P)) ∧ (ng most t E (sk t E P) = 0 → mo' 7 0 = nI (nvl t E (sk t E P) (mN t E (sk t E P)))) ∧ MK mo mo' := by
  have h160 := hT.1
  have hs := sk_le (t := t) (E := E) (P := P)
  have mp := mN_p (t := t) (E := E) (Q := sk t E P)
  obtain ⟨m1, o1, o2, o3⟩ := see_s hT (by omega) h
  unfold Mo_counts
  rw [o1, bn2_r, stk_r, Mo_isDigit_s, bn1_r, bI_z, o2.2.1]
  by_cases d : dg (pkN t E (sk t E P))
  · rw [if_pos d, stk_r]
    have m0 : 0 < mN t E (sk t E P) := by
      rcases mp.2.2 with q | q
      · omega
      · apply Nat.pos_of_ne_zero
        intro z
        rw [z] at q
        exact q d
    have h' : MD (upm m1 7 0 0) t E (sk t E P) 0 := ⟨by rw [upm_n _ _ _ (by omega)]; exact o2.1, by rw [upm_n _ _ _ (by omega)]; exact o2.2.1, by rw [upm_n _ _ _ (by omega)]; exact o2.2.2.1, by rw [upm_n _ _ _ (by omega)]; exact o2.2.2.2⟩
    exact cnt_l hT hm (by omega) (mN t E (sk t E P)) 0 fl _ (by omega) m0 (by rw [fl_v]; omega) h' (by rw [upm_0, pk_us]; rfl) (o3.tr (MK.um (by omega)))
  · have e0 : mN t E (sk t E P) = 0 := if_neg d
    have eg : ng most t E (sk t E P) = fv 1 (sk t E P) := by
      unfold ng
      rw [if_pos (Or.inl e0), e0]
      rfl
    have ne := fv_ne (c := 1) (P := sk t E P) (by omega) (by omega) (by omega)
    obtain ⟨m2, p1, p2, p3⟩ := wrong_s (c := 1) (Q := sk t E P) o2
    rw [if_neg d, show (1 : Int32) = nI 1 from rfl, p1, bn2_r, ckB_ok _ (Or.inl rfl), eg, if_neg ne, e0]
    exact ⟨m2, rfl, p2, fun z => absurd z ne, o3.tr p3⟩
/-- the reference's weight, behind the star -/
theorem one_s (hT : TB t E bs) (hP : P < 80000) (h : MD mo t E P 0) : ∃ mo', Mo_counts mo 1 1 9 = some (if dg (pkN t E (sk t E P)) ∧ ¬ pkN t E (sk t E P) = 48 then 1 else 0, mo') ∧ MK mo mo' ∧ ((dg (pkN t E (sk t E P)) ∧ ¬ pkN t E (sk t E P) = 48) → MD mo' t E (sk t E P + 1) 0 ∧ mo' 7 0 = pkN t E (sk t E P) - 48) ∧ (dg (pkN t E (sk t E P)) → pkN t E (sk t E P) = 48 → MD mo' t E (sk t E P + 1) (fv 2 (sk t E P))) ∧ (¬ dg (pkN t E (sk t E P)) → MD mo' t E (sk t E P) (fv 1 (sk t E P))) := by
  have h160 := hT.1
  have hs := sk_le (t := t) (E := E) (P := P)
  obtain ⟨m1, o1, o2, o3⟩ := see_s hT (by omega) h
  unfold Mo_counts
  rw [o1, bn2_r, stk_r, Mo_isDigit_s, bn1_r, bI_z, o2.2.1]
  by_cases d : dg (pkN t E (sk t E P))
  · have q := dg_in d
    obtain ⟨c, c1, c2, c4, c3⟩ := dg_c hT d
    rw [if_pos d, stk_r]
    have h' : MD (upm m1 7 0 0) t E (sk t E P) 0 := ⟨by rw [upm_n _ _ _ (by omega)]; exact o2.1, by rw [upm_n _ _ _ (by omega)]; exact o2.2.1, by rw [upm_n _ _ _ (by omega)]; exact o2.2.2.1, by rw [upm_n _ _ _ (by omega)]; exact o2.2.2.2⟩
    obtain ⟨N, hN⟩ : ∃ N, fl = N + 2 := ⟨999998, by rw [fl_v]⟩
    have s1 : Mo_counts_b35 1 1 9 fl (upm m1 7 0 0) (nI (sk t E P)) = Mo_counts_b35 1 1 9 (N + 1) (upm (upm (upm m1 7 0 0) 7 0 (nI (c - 48))) 4 0 (nI (sk t E P + 1))) (nI (sk t E P)) := by
      rw [hN]
      show Mo_counts_b35B 1 1 9 (Mo_counts_b35 1 1 9 (N + 1)) (upm m1 7 0 0) (nI (sk t E P)) = _
      unfold Mo_counts_b35B
      rw [h'.1, h'.2.1, if_neg (nI_ge q (by omega)), ckI_nI _ (by omega) (by omega), nI_clamp (by omega), Mo_isDigit_s, bn1_r, bI_z, h'.2.2.2, if_pos ((pk_bl hT q).2.1.mp d), if_neg (by decide), if_pos rfl]
      unfold Mo_counts_b75
      rw [h'.2.1, pk_sub (Nat.le_refl _), if_neg (show ¬ nI (sk t E P - sk t E P) = 1 from by rw [Nat.sub_self]; decide), ckI_nI _ (by omega) (by omega), nI_clamp (by omega), stk_r, stk_r, h'.2.2.2, c4, upm_n _ _ _ (show (4 : Nat) ≠ 7 by omega), h'.2.1, nI_1]
      have e10 : (10 : Int32) * upm m1 7 0 0 7 0 + nI c - 48 = nI (c - 48) := by
        rw [upm_0, pk_us, show (10 : Int32) * 0 = nI 0 from rfl, nI_add, show (48 : Int32) = nI 48 from rfl, pk_sub (by omega), show 0 + c - 48 = c - 48 by omega]
      rw [e10]
    have h2 : MD (upm (upm (upm m1 7 0 0) 7 0 (nI (c - 48))) 4 0 (nI (sk t E P + 1))) t E (sk t E P + 1) 0 := by
      have : MD (upm (upm m1 7 0 0) 7 0 (nI (c - 48))) t E (sk t E P) 0 := ⟨by rw [upm_n _ _ _ (by omega)]; exact h'.1, by rw [upm_n _ _ _ (by omega)]; exact h'.2.1, by rw [upm_n _ _ _ (by omega)]; exact h'.2.2.1, by rw [upm_n _ _ _ (by omega)]; exact h'.2.2.2⟩
      exact this.pl
    have k2 : MK mo (upm (upm (upm m1 7 0 0) 7 0 (nI (c - 48))) 4 0 (nI (sk t E P + 1))) := ((o3.tr (MK.um (by omega))).tr (MK.um (by omega))).tr (MK.um (by omega))
    have v2 : upm (upm (upm m1 7 0 0) 7 0 (nI (c - 48))) 4 0 (nI (sk t E P + 1)) 7 0 = nI (c - 48) := by rw [upm_n _ _ _ (by omega), upm_0, pk_us]
    rw [s1]
    generalize upm (upm (upm m1 7 0 0) 7 0 (nI (c - 48))) 4 0 (nI (sk t E P + 1)) = m2 at *
    have s2 : Mo_counts_b35 1 1 9 (N + 1) m2 (nI (sk t E P)) = Mo_counts_b133 1 1 9 m2 (nI (sk t E P)) := by
      show Mo_counts_b35B 1 1 9 (Mo_counts_b35 1 1 9 N) m2 (nI (sk t E P)) = _
      unfold Mo_counts_b35B
      rw [h2.1, h2.2.1]
      by_cases q2 : sk t E P + 1 < E
      · rw [if_neg (nI_ge q2 (by omega)), ckI_nI _ (by omega) (by omega), Mo_isDigit_s, bn1_r, bI_z, if_neg (show ¬ (1 : Int32) < 1 by decide), if_neg (show ¬ nI (sk t E P + 1) = nI (sk t E P) from fun z => by have := (nI_eq (by omega) (by omega)).mp z; omega)]
        split <;> rfl
      · rw [if_pos (nI_le (by omega) (by omega))]
    rw [s2]
    unfold Mo_counts_b133
    rw [v2, Mo_in_s, bn1_r, bI_z, c3]
    have e1 : (nI (c - 48) < 1) = (c - 48 < 1) := nI_ltP (b := 1) (by omega) (by omega)
    have e9 : (9 < nI (c - 48)) = (9 < c - 48) := nI_ltP (a := 9) (by omega) (by omega)
    by_cases q3 : c = 48
    · subst q3
      obtain ⟨m3, p1, p2, p3⟩ := wrong_s (c := 2) (Q := sk t E P) h2
      rw [if_neg (fun z => by rw [e1] at z; omega), show (2 : Int32) = nI 2 from rfl, p1, bn2_r, if_pos rfl, if_neg (fun z => z.2 rfl)]
      exact ⟨m3, rfl, k2.tr p3, fun z => absurd rfl z.2, fun _ _ => p2, fun z => absurd ((dg_nI (by omega)).mpr ⟨by omega, by omega⟩) z⟩
    · have n48 : ¬ nI c = 48 := fun z => q3 ((nI_eq (b := 48) (by omega) (by omega)).mp z)
      have dc : dg (nI c) := (dg_nI (by omega)).mpr ⟨c1, c2⟩
      rw [if_pos (by rw [e1, e9]; omega), if_pos ⟨dc, n48⟩]
      exact ⟨m2, rfl, k2, fun _ => ⟨h2, by rw [v2, show (48 : Int32) = nI 48 from rfl, pk_sub c1]⟩, fun _ z => absurd z n48, fun z => absurd dc z⟩
  · obtain ⟨m2, p1, p2, p3⟩ := wrong_s (c := 1) (Q := sk t E P) o2
    rw [if_neg d, show (1 : Int32) = nI 1 from rfl, p1, bn2_r, ckB_ok _ (Or.inl rfl), if_neg (fun z => d z.1)]
    exact ⟨m2, rfl, o3.tr p3, fun z => absurd z.1 d, fun z => absurd z d, fun _ => p2⟩
end SC
