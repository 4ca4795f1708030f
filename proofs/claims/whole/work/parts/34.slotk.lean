/-! slot(k): how many slots lie below a minute -/
def cS (s : Nat → Int32) : Nat → Nat
  | 0 => 0
  | m + 1 => cS s m + (if isS s m then 1 else 0)
def ct (r : Nat) : Nat → Nat
  | 0 => 0
  | a + 1 => ct r a + (if slB r a then 1 else 0)
theorem ct_60 : ∀ r, r < 13 → ct r 60 = r := by decide +kernel
theorem ct_i : ∀ r, r < 13 → ∀ i, i < r → 60 * i / r < 60 ∧ slB r (60 * i / r) = true ∧ ct r (60 * i / r) = i := by decide +kernel
section SK
variable {n v : Nat} {fo ro ra vc os li mo : Mem} {x y : Int32} {s : Nat → Int32}
theorem cS_mono {a : Nat} : ∀ {b : Nat}, a ≤ b → cS s a ≤ cS s b
  | 0, h => by rw [Nat.le_zero.mp h]; exact Nat.le_refl _
  | b + 1, h => by
    by_cases e : a = b + 1
    · subst e; exact Nat.le_refl _
    · have h1 := cS_mono (a := a) (b := b) (by omega)
      show cS s a ≤ cS s b + _
      omega
theorem cS_hour {h : Nat} (hh : h < 12) : ∀ a, a ≤ 60 → cS s (60 * h + a) = cS s (60 * h) + ct (rN s h) a
  | 0, _ => rfl
  | a + 1, ha => by
    show cS s (60 * h + a) + (if isS s (60 * h + a) then 1 else 0) = cS s (60 * h) + (ct (rN s h) a + if slB (rN s h) a then 1 else 0)
    rw [cS_hour hh a (by omega)]
    have e : isS s (60 * h + a) = slB (rN s h) a := by
      unfold isS
      rw [if_pos (by omega), show (60 * h + a) / 60 = h by omega, show (60 * h + a) % 60 = a by omega]
    rw [e]
    omega
theorem cS_late : ∀ j, j ≤ 480 → cS s (720 + j) = cS s 720 + (j + 4) / 5
  | 0, _ => by rw [show (0 + 4) / 5 = 0 by decide, Nat.add_zero, Nat.add_zero]
  | j + 1, hj => by
    show cS s (720 + j) + (if isS s (720 + j) then 1 else 0) = _
    rw [cS_late j (by omega)]
    have e : isS s (720 + j) = decide ((720 + j) % 5 = 0) := by
      unfold isS
      rw [if_neg (by omega)]
    rw [e]
    by_cases h5 : (720 + j) % 5 = 0
    · rw [decide_eq_true h5, if_pos rfl]; omega
    · rw [decide_eq_false h5, if_neg (by decide)]; omega
theorem Mo_slot_in {p : Int32} {k m0 : Nat} (jr : Jr (mo 0)) (hk : k < 2 ^ 31) (h0 : m0 < 1200) (hs : isS (mo 0) m0 = true) (hc : cS (mo 0) m0 = k) : ∀ (r N m : Nat), m + r = m0 → r < N → Mo_slot_b10 mo p N (nI (k - cS (mo 0) m)) (nI m) = some (nI m0)
  | 0, N + 1, m, hm, _ => by
    have e : m = m0 := by omega
    subst e
    show Mo_slot_b10B mo p (Mo_slot_b10 mo p N) _ (nI m) = _
    unfold Mo_slot_b10B
    rw [if_neg (show ¬ 1200 ≤ nI m from nI_ge (b := 1200) h0 (by omega)), Mo_isSlot_s jr h0]
    simp only [bn1_r, bI_z]
    rw [if_pos hs, hc, Nat.sub_self, if_pos (show nI 0 = 0 from rfl)]
  | r + 1, N + 1, m, hm, hN => by
    show Mo_slot_b10B mo p (Mo_slot_b10 mo p N) _ (nI m) = _
    unfold Mo_slot_b10B
    have hm12 : m < 1200 := by omega
    rw [if_neg (show ¬ 1200 ≤ nI m from nI_ge (b := 1200) hm12 (by omega)), Mo_isSlot_s jr hm12]
    simp only [bn1_r, bI_z, stk_r, nI_1]
    have h1 : cS (mo 0) (m + 1) = cS (mo 0) m + (if isS (mo 0) m then 1 else 0) := rfl
    have h2 := cS_mono (s := mo 0) (show m + 1 ≤ m0 by omega)
    have ih := Mo_slot_in (p := p) jr hk h0 hs hc r N (m + 1) (by omega) (by omega)
    by_cases hz : isS (mo 0) m = true
    · rw [if_pos hz] at h1 ⊢
      rw [if_neg (nI_ne0 (by omega) (by omega)), nI_dec _ (by omega), show k - cS (mo 0) m - 1 = k - cS (mo 0) (m + 1) by omega]
      exact ih
    · rw [if_neg hz] at h1 ⊢
      rw [show k - cS (mo 0) m = k - cS (mo 0) (m + 1) by omega]
      exact ih
theorem Mo_slot_out {p : Int32} {k : Nat} (jr : Jr (mo 0)) (hk : k < 2 ^ 31) (hc : cS (mo 0) 1200 ≤ k) : ∀ (r N m : Nat), m + r = 1200 → r < N → Mo_slot_b10 mo p N (nI (k - cS (mo 0) m)) (nI m) = some (-2)
  | 0, N + 1, m, hm, _ => by
    have e : m = 1200 := by omega
    subst e
    show Mo_slot_b10B mo p (Mo_slot_b10 mo p N) _ (nI 1200) = _
    unfold Mo_slot_b10B
    rw [if_pos (show (1200 : Int32) ≤ nI 1200 by decide)]
  | r + 1, N + 1, m, hm, hN => by
    show Mo_slot_b10B mo p (Mo_slot_b10 mo p N) _ (nI m) = _
    unfold Mo_slot_b10B
    have hm12 : m < 1200 := by omega
    rw [if_neg (show ¬ 1200 ≤ nI m from nI_ge (b := 1200) hm12 (by omega)), Mo_isSlot_s jr hm12]
    simp only [bn1_r, bI_z, stk_r, nI_1]
    have h1 : cS (mo 0) (m + 1) = cS (mo 0) m + (if isS (mo 0) m then 1 else 0) := rfl
    have h2 := cS_mono (s := mo 0) (show m + 1 ≤ 1200 by omega)
    have ih := Mo_slot_out (p := p) jr hk hc r N (m + 1) (by omega) (by omega)
    by_cases hz : isS (mo 0) m = true
    · rw [if_pos hz] at h1 ⊢
      rw [if_neg (nI_ne0 (by omega) (by omega)), nI_dec _ (by omega), show k - cS (mo 0) m - 1 = k - cS (mo 0) (m + 1) by omega]
      exact ih
    · rw [if_neg hz] at h1 ⊢
      rw [show k - cS (mo 0) m = k - cS (mo 0) (m + 1) by omega]
      exact ih
/-- the class's answer: a slot with k below it, or none -/
theorem Ra_slot_l {p : Int32} {k : Nat} (hr : Rr ra (mo 0)) (jr : Jr (mo 0)) (hk : k < 2 ^ 31) : ∀ (r N h : Nat), h + r = 12 → r < N → cS (mo 0) (60 * h) ≤ k → (∃ m0, m0 < 1200 ∧ isS (mo 0) m0 = true ∧ cS (mo 0) m0 = k ∧ Ra_slotMinute_b4 ra p N (nI (k - cS (mo 0) (60 * h))) (nI h) = some (nI m0)) ∨ (cS (mo 0) 1200 ≤ k ∧ Ra_slotMinute_b4 ra p N (nI (k - cS (mo 0) (60 * h))) (nI h) = some (-2))
  | 0, N + 1, h, hm, _, hc => by
    have e : h = 12 := by omega
    subst e
    show (∃ m0, m0 < 1200 ∧ isS (mo 0) m0 = true ∧ cS (mo 0) m0 = k ∧ Ra_slotMinute_b4B ra p (Ra_slotMinute_b4 ra p N) _ (nI 12) = some (nI m0)) ∨ (cS (mo 0) 1200 ≤ k ∧ Ra_slotMinute_b4B ra p (Ra_slotMinute_b4 ra p N) _ (nI 12) = some (-2))
    unfold Ra_slotMinute_b4B
    rw [if_pos (show (12 : Int32) ≤ nI 12 by decide)]
    have h1 : cS (mo 0) 1200 = cS (mo 0) 720 + 96 := cS_late (s := mo 0) 480 (by omega)
    by_cases h96 : k - cS (mo 0) 720 < 96
    · refine Or.inl ⟨720 + 5 * (k - cS (mo 0) 720), by omega, ?_, ?_, ?_⟩
      · unfold isS
        rw [if_neg (by omega)]
        exact decide_eq_true (by omega)
      · rw [cS_late (5 * (k - cS (mo 0) 720)) (by omega)]
        have hc' : cS (mo 0) 720 ≤ k := hc
        omega
      · rw [if_neg (show ¬ 96 ≤ nI (k - cS (mo 0) (60 * 12)) from nI_ge (b := 96) h96 (by omega)), show (720 : Int32) = nI 720 from rfl, show (5 : Int32) = nI 5 from rfl, pk_mul, nI_add]
    · refine Or.inr ⟨by have hc' : cS (mo 0) 720 ≤ k := hc; omega, ?_⟩
      rw [if_pos (show 96 ≤ nI (k - cS (mo 0) (60 * 12)) from nI_le (a := 96) (Nat.le_of_not_lt h96) (by omega))]
  | r + 1, N + 1, h, hm, hN, hc => by
    have hh : h < 12 := by omega
    obtain ⟨e, hr13⟩ := rN_eq jr hh
    show (∃ m0, m0 < 1200 ∧ isS (mo 0) m0 = true ∧ cS (mo 0) m0 = k ∧ Ra_slotMinute_b4B ra p (Ra_slotMinute_b4 ra p N) _ (nI h) = some (nI m0)) ∨ (cS (mo 0) 1200 ≤ k ∧ Ra_slotMinute_b4B ra p (Ra_slotMinute_b4 ra p N) _ (nI h) = some (-2))
    unfold Ra_slotMinute_b4B
    rw [if_neg (show ¬ 12 ≤ nI h from nI_ge (b := 12) hh (by omega)), ckI_nI _ hh (by omega), nI_clamp (by omega), hr h hh, e, stk_r, stk_r, nI_1]
    have h60 : cS (mo 0) (60 * (h + 1)) = cS (mo 0) (60 * h) + rN (mo 0) h := by
      rw [show 60 * (h + 1) = 60 * h + 60 by omega, cS_hour hh 60 (by omega), ct_60 _ hr13]
    by_cases hl : k - cS (mo 0) (60 * h) < rN (mo 0) h
    · obtain ⟨q1, q2, q3⟩ := ct_i _ hr13 _ hl
      rw [if_neg (nI_ge hl (by omega)), Ra_minuteOf_s hh hl hr13, bn1_r]
      generalize 60 * (k - cS (mo 0) (60 * h)) / rN (mo 0) h = q at q1 q2 q3 ⊢
      refine Or.inl ⟨60 * h + q, by omega, ?_, ?_, rfl⟩
      · unfold isS
        rw [if_pos (by omega), show (60 * h + q) / 60 = h by omega, show (60 * h + q) % 60 = q by omega]
        exact q2
      · rw [cS_hour hh _ (by omega), q3]; omega
    · rw [if_pos (nI_le (Nat.le_of_not_lt hl) (by omega)), pk_sub (Nat.le_of_not_lt hl), show k - cS (mo 0) (60 * h) - rN (mo 0) h = k - cS (mo 0) (60 * (h + 1)) by omega]
      exact Ra_slot_l hr jr hk r N (h + 1) (by omega) (by omega) (by omega)
theorem q_slot (h : RF n v fo ro ra vc os li (mo 0)) : ∃ r, St_slot ra x = some r ∧ Mo_slot mo x = some r := by
  have jr : Jr (mo 0) := h.j.2.2.2.2.2.2.1
  unfold St_slot Mo_slot Ra_slotMinute
  by_cases hx : 0 ≤ x
  · rw [if_pos hx, if_pos hx]
    obtain ⟨k, hk, rfl⟩ := nI_of (Int32.not_lt.mpr hx)
    have hc := Ra_slot_l (p := nI k) h.2.1 jr hk 12 fl 0 (by omega) (by rw [fl_v]; omega) (Nat.zero_le k)
    rw [show k - cS (mo 0) (60 * 0) = k from Nat.sub_zero k, show nI 0 = (0 : Int32) from rfl] at hc
    rcases hc with ⟨m0, h1, h2, h3, h4⟩ | ⟨h1, h2⟩
    · have h5 := Mo_slot_in (p := nI k) jr hk h1 h2 h3 m0 fl 0 (by omega) (by rw [fl_v]; omega)
      rw [show k - cS (mo 0) 0 = k from Nat.sub_zero k, show nI 0 = (0 : Int32) from rfl] at h5
      rw [h4, h5, bn1_r]
      exact ⟨_, rfl, rfl⟩
    · have h5 := Mo_slot_out (p := nI k) jr hk h1 1200 fl 0 (by omega) (by rw [fl_v]; omega)
      rw [show k - cS (mo 0) 0 = k from Nat.sub_zero k, show nI 0 = (0 : Int32) from rfl] at h5
      rw [h2, h5, bn1_r]
      exact ⟨_, rfl, rfl⟩
  · rw [if_neg hx, if_neg hx]; exact ⟨_, rfl, rfl⟩
end SK
