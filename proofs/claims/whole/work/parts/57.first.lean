/-! the first free slot -/
section FF
variable {n v m : Nat} {fo ro ra vc os li mo pn : Mem} {x y : Int32} {s s' : Nat → Int32} {U : Nat → Bool}
/-- the slots that are taken: the class's marks, the reference's row -/
def UR (U : Nat → Bool) (pn mo : Mem) : Prop := (∀ k, k < 1200 → (pn 2 k = pn 3 0 ↔ U k = true)) ∧ ∀ k, k < 1200 → mo 13 k = if U k then 1 else 0
abbrev Gd (U : Nat → Bool) (m k : Nat) : Prop := m ≤ k ∧ U k = false
theorem Pl_isFree_s {k : Nat} (h : UR U pn mo) (hk : k < 1200) : Pl_isFree pn (nI k) = some (bI (U k = false)) := by
  unfold Pl_isFree
  rw [St_isMinute_s, bn1_r, bI_z, if_pos (in0_nI hk (by omega)), ckI_nI _ hk (by omega), nI_clamp (by omega)]
  by_cases q : U k = true
  · rw [if_pos ((h.1 k hk).mpr q), bI_f (by rw [q]; exact Bool.noConfusion)]
  · rw [if_neg (fun z => q ((h.1 k hk).mp z)), bI_t (Bool.not_eq_true _ ▸ q)]
theorem dv_lt {i r : Nat} (h : i < r) : 60 * i / r < 60 := Nat.div_lt_of_lt_mul (by omega)
theorem ff_in {h r : Nat} {k9 : Int32 → Option Int32} (hu : UR U pn mo) (hh : h < 12) (hr : r < 13) (hm : m < 100000) : ∀ (q i N : Nat), i + q = r → q < N → (∀ j, j < i → ¬ Gd U m (60 * h + 60 * j / r)) → (∃ i', i' < r ∧ Gd U m (60 * h + 60 * i' / r) ∧ (∀ j, j < i' → ¬ Gd U m (60 * h + 60 * j / r)) ∧ Pl_firstFree_b25 pn ra (nI m) k9 N (nI h) (nI r) (nI i) = some (nI (60 * h + 60 * i' / r))) ∨ ((∀ j, j < r → ¬ Gd U m (60 * h + 60 * j / r)) ∧ Pl_firstFree_b25 pn ra (nI m) k9 N (nI h) (nI r) (nI i) = k9 (nI (h + 1)))
  | 0, i, N + 1, hi, _, hj => by
    have e : i = r := by omega
    subst e
    refine Or.inr ⟨hj, ?_⟩
    show Pl_firstFree_b25B pn ra (nI m) k9 (Pl_firstFree_b25 pn ra (nI m) k9 N) (nI h) (nI i) (nI i) = _
    unfold Pl_firstFree_b25B
    rw [if_pos (nI_le (Nat.le_refl _) (by omega)), stk_r, nI_1]
  | q + 1, i, N + 1, hi, hN, hj => by
    have ir : i < r := by omega
    have dl := dv_lt ir
    have st : Pl_firstFree_b25 pn ra (nI m) k9 (N + 1) (nI h) (nI r) (nI i) = if Gd U m (60 * h + 60 * i / r) then some (nI (60 * h + 60 * i / r)) else Pl_firstFree_b25 pn ra (nI m) k9 N (nI h) (nI r) (nI (i + 1)) := by
      show Pl_firstFree_b25B pn ra (nI m) k9 (Pl_firstFree_b25 pn ra (nI m) k9 N) (nI h) (nI r) (nI i) = _
      unfold Pl_firstFree_b25B
      rw [if_neg (nI_ge ir (by omega)), Ra_minuteOf_s hh ir hr, bn1_r, Pl_isFree_s hu (by omega), bn1_r, bI_z, stk_r, nI_1]
      by_cases q1 : m ≤ 60 * h + 60 * i / r
      · rw [if_neg (nI_nlt q1 (by omega))]
        by_cases q2 : U (60 * h + 60 * i / r) = false
        · rw [if_pos q2, if_pos ⟨q1, q2⟩]
        · rw [if_neg q2, if_neg (fun z => q2 z.2)]
      · rw [if_pos (nI_lt (by omega) (by omega)), if_neg (fun z => q1 z.1)]
    rw [st]
    by_cases g : Gd U m (60 * h + 60 * i / r)
    · rw [if_pos g]
      exact Or.inl ⟨i, ir, g, hj, rfl⟩
    · rw [if_neg g]
      exact ff_in hu hh hr hm q (i + 1) N (by omega) (by omega) (fun j hj' => by
        by_cases e : j = i
        · subst e; exact g
        · exact hj j (by omega))
theorem isS_late {j : Nat} (hj : 720 ≤ j) : isS s j = decide (j % 5 = 0) := if_neg (by omega)
theorem isS_day {k : Nat} (hk : k < 720) : isS s k = slB (rN s (k / 60)) (k % 60) := if_pos hk
theorem ff_late (hu : UR U pn mo) (hm : m < 100000) {k0 : Nat} (hk0 : k0 < 1200) (g0 : isS s k0 = true ∧ Gd U m k0) : ∀ (q j N : Nat), j + q = 96 → q < N → (∀ k, k < 720 + 5 * j → ¬ (isS s k = true ∧ Gd U m k)) → ∃ k, k < 1200 ∧ isS s k = true ∧ Gd U m k ∧ (∀ k', k' < k → ¬ (isS s k' = true ∧ Gd U m k')) ∧ Pl_firstFree_b76 pn ra (nI m) N (nI (720 + 5 * j)) = some (nI k)
  | 0, j, N + 1, hj, _, hv => absurd g0 (hv k0 (by omega))
  | q + 1, j, N + 1, hj, hN, hv => by
    have st : Pl_firstFree_b76 pn ra (nI m) (N + 1) (nI (720 + 5 * j)) = if Gd U m (720 + 5 * j) then some (nI (720 + 5 * j)) else Pl_firstFree_b76 pn ra (nI m) N (nI (720 + 5 * (j + 1))) := by
      show Pl_firstFree_b76B pn ra (nI m) (Pl_firstFree_b76 pn ra (nI m) N) (nI (720 + 5 * j)) = _
      unfold Pl_firstFree_b76B
      rw [if_neg (show ¬ 1200 ≤ nI (720 + 5 * j) from nI_ge (b := 1200) (by omega) (by omega)), Pl_isFree_s hu (by omega), bn1_r, bI_z, stk_r, show (5 : Int32) = nI 5 from rfl, nI_add, show 720 + 5 * j + 5 = 720 + 5 * (j + 1) by omega]
      by_cases q1 : m ≤ 720 + 5 * j
      · rw [if_neg (nI_nlt q1 (by omega))]
        by_cases q2 : U (720 + 5 * j) = false
        · rw [if_pos q2, if_pos ⟨q1, q2⟩]
        · rw [if_neg q2, if_neg (fun z => q2 z.2)]
      · rw [if_pos (nI_lt (by omega) (by omega)), if_neg (fun z => q1 z.1)]
    rw [st]
    by_cases g : Gd U m (720 + 5 * j)
    · rw [if_pos g]
      exact ⟨720 + 5 * j, by omega, by rw [isS_late (by omega)]; exact decide_eq_true (by omega), g, hv, rfl⟩
    · rw [if_neg g]
      refine ff_late hu hm hk0 g0 q (j + 1) N (by omega) (by omega) (fun k hk z => ?_)
      by_cases e : k < 720 + 5 * j
      · exact hv k e z
      · by_cases e2 : k = 720 + 5 * j
        · subst e2; exact g z.2
        · have := z.1
          rw [isS_late (by omega)] at this
          have := of_decide_eq_true this
          omega
theorem ff_out (hu : UR U pn mo) (hr : Rr ra s) (jr : Jr s) (hm : m < 100000) {k0 : Nat} (hk0 : k0 < 1200) (g0 : isS s k0 = true ∧ Gd U m k0) : ∀ (q h N : Nat), h + q = 12 → q < N → (∀ k, k < 60 * h → ¬ (isS s k = true ∧ Gd U m k)) → ∃ k, k < 1200 ∧ isS s k = true ∧ Gd U m k ∧ (∀ k', k' < k → ¬ (isS s k' = true ∧ Gd U m k')) ∧ Pl_firstFree_b9 pn ra (nI m) N (nI h) = some (nI k)
  | 0, h, N + 1, hh, _, hv => by
    have e : h = 12 := by omega
    subst e
    obtain ⟨k, a1, a2, a3, a4, a5⟩ := ff_late (ra := ra) hu hm hk0 g0 96 0 fl (by omega) (by rw [fl_v]; omega) (fun k hk => hv k (by omega))
    refine ⟨k, a1, a2, a3, a4, ?_⟩
    show Pl_firstFree_b9B pn ra (nI m) (Pl_firstFree_b9 pn ra (nI m) N) (nI 12) = _
    unfold Pl_firstFree_b9B
    rw [if_pos (by decide)]
    exact a5
  | q + 1, h, N + 1, hh, hN, hv => by
    have h12 : h < 12 := by omega
    obtain ⟨r1, r2⟩ := rN_eq jr h12
    have st : Pl_firstFree_b9 pn ra (nI m) (N + 1) (nI h) = Pl_firstFree_b25 pn ra (nI m) (Pl_firstFree_b9 pn ra (nI m) N) fl (nI h) (nI (rN s h)) (nI 0) := by
      show Pl_firstFree_b9B pn ra (nI m) (Pl_firstFree_b9 pn ra (nI m) N) (nI h) = _
      unfold Pl_firstFree_b9B
      rw [if_neg (show ¬ 12 ≤ nI h from nI_ge (b := 12) h12 (by omega)), Ra_of_s (mo := fun _ => s) hr h12, bn1_r, r1]
      rfl
    have hour : ∀ k, 60 * h ≤ k → k < 60 * h + 60 → isS s k = true → ∃ i, i < rN s h ∧ k = 60 * h + 60 * i / rN s h := fun k h1 h2 z => by
      rw [isS_day (by omega), show k / 60 = h by omega] at z
      obtain ⟨i, hi, e⟩ := (slB_ex (rN s h) r2 (k % 60) (by omega)).mp z
      exact ⟨i, hi, by omega⟩
    have back : ∀ i, i < rN s h → isS s (60 * h + 60 * i / rN s h) = true := fun i hi => by
      have dl := dv_lt hi
      have b1 : ∀ a, a < 60 → (60 * h + a) / 60 = h ∧ (60 * h + a) % 60 = a := fun a ha => by omega
      rw [isS_day (by omega), (b1 _ dl).1, (b1 _ dl).2]
      exact (slB_ex (rN s h) r2 _ dl).mpr ⟨i, hi, rfl⟩
    rw [st]
    rcases ff_in (ra := ra) (k9 := Pl_firstFree_b9 pn ra (nI m) N) hu h12 r2 hm (rN s h) 0 fl (by omega) (by rw [fl_v]; omega) (fun j hj => by omega) with ⟨i, hi, g, lo, e⟩ | ⟨no, e⟩
    · have dl := dv_lt hi
      refine ⟨60 * h + 60 * i / rN s h, by omega, back i hi, g, fun k' hk' z => ?_, e⟩
      by_cases q2 : k' < 60 * h
      · exact hv k' q2 z
      · obtain ⟨i', hi', e'⟩ := hour k' (by omega) (by omega) z.1
        have lt : i' < i := Classical.byContradiction (fun z2 => by
          have := Nat.div_le_div_right (c := rN s h) (show 60 * i ≤ 60 * i' by omega)
          omega)
        exact lo i' lt (by rw [← e']; exact z.2)
    · rw [e]
      refine ff_out hu hr jr hm hk0 g0 q (h + 1) N (by omega) (by omega) (fun k hk z => ?_)
      by_cases q2 : k < 60 * h
      · exact hv k q2 z
      · obtain ⟨i', hi', e'⟩ := hour k (by omega) (by omega) z.1
        exact no i' hi' (by rw [← e']; exact z.2)
theorem firstFree_s (hu : UR U pn mo) (hr : Rr ra s) (jr : Jr s) (hm : m < 1200) {k0 : Nat} (hk0 : k0 < 1200) (g0 : isS s k0 = true ∧ Gd U m k0) : ∃ k, k < 1200 ∧ isS s k = true ∧ Gd U m k ∧ (∀ k', k' < k → ¬ (isS s k' = true ∧ Gd U m k')) ∧ Pl_firstFree pn ra (nI m) = some (nI k) := by
  unfold Pl_firstFree
  rw [show (60 : Int32) = nI 60 from rfl, pk_div (by omega) (by omega) (by omega), stk_r]
  have e : (if 0 < nI (m / 60) then nI (m / 60) else 0) = nI (m / 60) := by
    by_cases q : m / 60 = 0
    · rw [q]; rfl
    · exact if_pos (nI_lt (a := 0) (by omega) (by omega))
  rw [e]
  by_cases q : m / 60 ≤ 12
  · exact ff_out hu hr jr (by omega) hk0 g0 (12 - m / 60) (m / 60) fl (by omega) (by rw [fl_v]; omega) (fun k hk z => by have := z.2.1; omega)
  · obtain ⟨k, a1, a2, a3, a4, a5⟩ := ff_late (ra := ra) hu (by omega) hk0 g0 96 0 fl (by omega) (by rw [fl_v]; omega) (fun k hk z => by have := z.2.1; omega)
    refine ⟨k, a1, a2, a3, a4, ?_⟩
    obtain ⟨N, hN⟩ : ∃ N, fl = N + 1 := ⟨999999, by rw [fl_v]⟩
    rw [hN]
    show Pl_firstFree_b9B pn ra (nI m) (Pl_firstFree_b9 pn ra (nI m) N) (nI (m / 60)) = _
    unfold Pl_firstFree_b9B
    rw [if_pos (show 12 ≤ nI (m / 60) from nI_le (a := 12) (by omega) (by omega))]
    exact a5
theorem takesFrom_l (hu : UR U pn mo) (jr : Jr (mo 0)) {k : Nat} (hk : k < 1199) (g : isS (mo 0) k = true ∧ Gd U m k) (lo : ∀ k', k' < k → ¬ (isS (mo 0) k' = true ∧ Gd U m k')) : ∀ (q j N : Nat), j + q = k → q < N → m ≤ j → Mo_takesFrom_b2 x N mo (nI j) = some (nI k, upm mo 13 k 1)
  | 0, j, N + 1, hj, _, hm => by
    have e : j = k := by omega
    subst e
    show Mo_takesFrom_b2B x (Mo_takesFrom_b2 x N) mo (nI j) = _
    unfold Mo_takesFrom_b2B Mo_takesFrom_b33
    rw [if_neg (show ¬ 1199 ≤ nI j from nI_ge (b := 1199) hk (by omega)), Mo_isSlot_s jr (by omega), bn1_r, bI_z, if_pos g.1, ckI_nI _ (by omega) (by omega), nI_clamp (by omega), hu.2 j (by omega), g.2.2, if_neg (show ¬ false = true by decide), if_pos rfl, ckI_nI _ (by omega) (by omega)]
    rfl
  | q + 1, j, N + 1, hj, hN, hm => by
    show Mo_takesFrom_b2B x (Mo_takesFrom_b2 x N) mo (nI j) = _
    unfold Mo_takesFrom_b2B
    rw [if_neg (show ¬ 1199 ≤ nI j from nI_ge (b := 1199) (by omega) (by omega)), Mo_isSlot_s jr (by omega), bn1_r, bI_z, ckI_nI _ (by omega) (by omega), nI_clamp (by omega), hu.2 j (by omega), stk_r, nI_1]
    have ih := takesFrom_l hu jr hk g lo q (j + 1) N (by omega) (by omega) (by omega)
    by_cases q1 : isS (mo 0) j = true
    · rw [if_pos q1]
      cases q2 : U j with
      | false => exact absurd ⟨q1, hm, q2⟩ (lo j (by omega))
      | true =>
        rw [if_neg (by decide)]
        exact ih
    · rw [if_neg q1]; exact ih
/-- there is always a free one -/
theorem late_ex {U : Nat → Bool} (hc : cn U 1200 ≤ 35) : ∃ k, 1020 ≤ k ∧ k < 1196 ∧ k % 5 = 0 ∧ U k = false := Classical.byContradiction (fun no => by
  have all : ∀ j, j < 36 → U (1020 + 5 * j) = true := fun j hj => by
    cases q : U (1020 + 5 * j) with
    | true => rfl
    | false => exact absurd ⟨1020 + 5 * j, by omega, by omega, by omega, q⟩ no
  have : ∀ j, j ≤ 36 → j ≤ cn U (1020 + 5 * j) := by
    intro j
    induction j with
    | zero => intro _; omega
    | succ j ih =>
      intro hj
      have h1 := ih (by omega)
      have h2 := cn_lt U (show 1020 + 5 * j < 1020 + 5 * (j + 1) by omega) (all j (by omega))
      omega
  have h3 := this 36 (Nat.le_refl _)
  rw [show 1020 + 5 * 36 = 1200 by omega] at h3
  omega)
theorem take_s (hu : UR U pn mo) (hr : Rr ra (mo 0)) (jr : Jr (mo 0)) (hm : m ≤ 1020) (hc : cn U 1200 ≤ 35) : ∃ k, k < 1196 ∧ m ≤ k ∧ U k = false ∧ Pl_takeFirst pn ra (nI m) = some (nI k, upm pn 2 k (pn 3 0)) ∧ Mo_takesFrom mo (nI m) = some (nI k, upm mo 13 k 1) ∧ UR (fun i => U i || decide (i = k)) (upm pn 2 k (pn 3 0)) (upm mo 13 k 1) ∧ cn (fun i => U i || decide (i = k)) 1200 = cn U 1200 + 1 := by
  obtain ⟨k0, z1, z2, z3, z4⟩ := late_ex hc
  have g0 : isS (mo 0) k0 = true ∧ Gd U m k0 := ⟨by rw [isS_late (by omega)]; exact decide_eq_true z3, by omega, z4⟩
  obtain ⟨k, a1, a2, a3, a4, a5⟩ := firstFree_s hu hr jr (by omega) (show k0 < 1200 by omega) g0
  have kk : k < 1196 := Classical.byContradiction (fun q => a4 k0 (by omega) g0)
  refine ⟨k, kk, a3.1, a3.2, ?_, ?_, ⟨fun j hj => ?_, fun j hj => ?_⟩, cn_one (f := k) (fun i _ => rfl) (by omega) a3.2⟩
  · unfold Pl_takeFirst Pl_take
    rw [a5, bn1_r, St_isMinute_s, bn1_r, bI_z, if_pos (in0_nI a1 (by omega)), ckI_nI _ a1 (by omega), nI_clamp (by omega), stk_r, bn1_r]
  · unfold Mo_takesFrom
    exact takesFrom_l hu jr (by omega) ⟨a2, a3⟩ a4 (k - m) m fl (by have := a3.1; omega) (by rw [fl_v]; omega) (Nat.le_refl _)
  · rw [upm_0, upm_n _ _ _ (show (3 : Nat) ≠ 2 by omega)]
    show upd (pn 2) k (pn 3 0) j = pn 3 0 ↔ (U j || decide (j = k)) = true
    by_cases e : j = k
    · subst e
      rw [pk_us, decide_eq_true (rfl : j = j), Bool.or_true]
      exact ⟨fun _ => rfl, fun _ => rfl⟩
    · rw [pk_un e, decide_eq_false e, Bool.or_false]
      exact hu.1 j hj
  · rw [upm_0]
    show upd (mo 13) k 1 j = if (U j || decide (j = k)) = true then 1 else 0
    by_cases e : j = k
    · subst e
      rw [pk_us, decide_eq_true (rfl : j = j), Bool.or_true]
      rfl
    · rw [pk_un e, decide_eq_false e, Bool.or_false]
      exact hu.2 j hj
end FF
