/-! vacant slots: one more, one less -/
section V2
variable {n v : Nat} {fo ro ra vc os li mo : Mem} {x y : Int32} {s s' : Nat → Int32} {mm kk : Nat → Nat}
def insN (p m : Nat) (g : Nat → Nat) (i : Nat) : Nat := if i < p then g i else if i = p then m else g (i - 1)
def delN (p : Nat) (g : Nat → Nat) (i : Nat) : Nat := if i < p then g i else g (i + 1)
theorem ins_lt {p m i : Nat} {g : Nat → Nat} (h : i < p) : insN p m g i = g i := if_pos h
theorem ins_eq {p m : Nat} {g : Nat → Nat} : insN p m g p = m := by unfold insN; rw [if_neg (by omega), if_pos rfl]
theorem ins_gt {p m i : Nat} {g : Nat → Nat} (h : p < i) : insN p m g i = g (i - 1) := by unfold insN; rw [if_neg (by omega), if_neg (by omega)]
theorem Va_add_x {m c k : Nat} (hv : v < 20) (hk : k ≤ v) (e2 : vc 2 0 = nI v) (lo : ∀ i, i < k → vc 0 i = nI (mm i) ∧ vc 1 i = nI (kk i)) (hi : ∀ i, k < i → i ≤ v → vc 0 i = nI (mm (i - 1)) ∧ vc 1 i = nI (kk (i - 1))) : ∃ vc', Va_add_b72 (nI m) (nI c) vc (nI k) = some vc' ∧ vc' 2 0 = nI (v + 1) ∧ ∀ i, i < v + 1 → vc' 0 i = nI (insN k m mm i) ∧ vc' 1 i = nI (insN k c kk i) := by
  refine ⟨upm (upm (upm vc 0 k (nI m)) 1 k (nI c)) 2 0 (nI (v + 1)), ?_, ?_, fun i hi' => ?_⟩
  · unfold Va_add_b72
    rw [ckI_nI _ (by omega) (by omega), nI_clamp (by omega)]
    simp only [stk_r]
    rw [upm_n _ _ _ (show (2 : Nat) ≠ 1 by omega), upm_n _ _ _ (show (2 : Nat) ≠ 0 by omega), e2, nI_1]
  · rw [upm_0, pk_us]
  · rw [upm_n _ _ _ (show (0 : Nat) ≠ 2 by omega), upm_n _ _ _ (show (1 : Nat) ≠ 2 by omega), upm_n _ _ _ (show (0 : Nat) ≠ 1 by omega), upm_0, upm_0, upm_n _ _ _ (show (1 : Nat) ≠ 0 by omega)]
    by_cases e : i = k
    · subst e; rw [pk_us, pk_us, ins_eq, ins_eq]; exact ⟨rfl, rfl⟩
    · rw [pk_un e, pk_un e]
      by_cases e1 : i < k
      · rw [ins_lt e1, ins_lt e1]; exact lo i e1
      · rw [ins_gt (by omega), ins_gt (by omega)]; exact hi i (by omega) (by omega)
theorem Va_add_l {m c : Nat} (hm : m < 1200) (hv : v < 20) (hb : ∀ i, i < v → mm i < 1200) : ∀ (k N : Nat) (vc : Mem), k < N → k ≤ v → vc 2 0 = nI v → (∀ i, i < k → vc 0 i = nI (mm i) ∧ vc 1 i = nI (kk i)) → (∀ i, k < i → i ≤ v → vc 0 i = nI (mm (i - 1)) ∧ vc 1 i = nI (kk (i - 1))) → (∀ i, k ≤ i → i < v → m < mm i) → ∃ p vc', Va_add_b22 (nI m) (nI c) N vc (nI k) = some vc' ∧ p ≤ v ∧ (0 < p → mm (p - 1) ≤ m) ∧ (∀ i, p ≤ i → i < v → m < mm i) ∧ vc' 2 0 = nI (v + 1) ∧ ∀ i, i < v + 1 → vc' 0 i = nI (insN p m mm i) ∧ vc' 1 i = nI (insN p c kk i)
  | 0, N + 1, vc, _, hk, e2, lo, hi, gt => by
    obtain ⟨vc', a1, a2, a3⟩ := Va_add_x (m := m) (c := c) hv hk e2 lo hi
    refine ⟨0, vc', ?_, by omega, by omega, gt, a2, a3⟩
    show Va_add_b22B (nI m) (nI c) (Va_add_b22 (nI m) (nI c) N) vc (nI 0) = _
    unfold Va_add_b22B
    rw [if_pos (show nI 0 ≤ 0 by decide), a1]
  | k + 1, N + 1, vc, hN, hk, e2, lo, hi, gt => by
    have step : Va_add_b22 (nI m) (nI c) (N + 1) vc (nI (k + 1)) = Va_add_b22B (nI m) (nI c) (Va_add_b22 (nI m) (nI c) N) vc (nI (k + 1)) := rfl
    rw [step]
    unfold Va_add_b22B
    have hbk := hb k (by omega)
    rw [if_neg (nI_nle (by omega) (by omega)), nI_pred, ckI_nI _ (by omega) (by omega), nI_clamp (by omega), (lo k (by omega)).1]
    by_cases q : mm k ≤ m
    · obtain ⟨vc', a1, a2, a3⟩ := Va_add_x (m := m) (c := c) hv hk e2 lo hi
      rw [if_pos (nI_le q (by omega)), a1]
      exact ⟨k + 1, vc', rfl, hk, fun _ => q, gt, a2, a3⟩
    · rw [if_neg (nI_ge (by omega) (by omega)), ckI_nI _ (by omega) (by omega), nI_clamp (by omega), pk_m1]
      simp only [stk_r]
      rw [upm_n _ _ _ (show (1 : Nat) ≠ 0 by omega), (lo k (by omega)).2]
      refine Va_add_l hm hv hb k N _ (by omega) (by omega) ?_ (fun i h1 => ?_) (fun i h1 h2 => ?_) (fun i h1 h2 => ?_)
      · rw [upm_n _ _ _ (show (2 : Nat) ≠ 1 by omega), upm_n _ _ _ (show (2 : Nat) ≠ 0 by omega), e2]
      · rw [upm_n _ _ _ (show (0 : Nat) ≠ 1 by omega), upm_0, upm_0, upm_n _ _ _ (show (1 : Nat) ≠ 0 by omega), pk_un (by omega), pk_un (by omega)]
        exact lo i (by omega)
      · rw [upm_n _ _ _ (show (0 : Nat) ≠ 1 by omega), upm_0, upm_0, upm_n _ _ _ (show (1 : Nat) ≠ 0 by omega)]
        by_cases e : i = k + 1
        · subst e; rw [pk_us, pk_us]; exact ⟨rfl, rfl⟩
        · rw [pk_un e, pk_un e]; exact hi i (by omega) h2
      · by_cases e : i = k
        · subst e; omega
        · exact gt i (by omega) h2
theorem Va_add_s {m c : Nat} (hm : m < 1200) (hv : v < 20) (h2 : vc 2 0 = nI v) (h : ∀ i, i < v → vc 0 i = nI (mm i) ∧ vc 1 i = nI (kk i) ∧ mm i < 1200) : ∃ p vc', Va_add vc (nI m) (nI c) = some vc' ∧ p ≤ v ∧ (0 < p → mm (p - 1) ≤ m) ∧ (∀ i, p ≤ i → i < v → m < mm i) ∧ vc' 2 0 = nI (v + 1) ∧ ∀ i, i < v + 1 → vc' 0 i = nI (insN p m mm i) ∧ vc' 1 i = nI (insN p c kk i) := by
  unfold Va_add
  rw [h2, if_neg (nI_pos (by omega)), if_pos (show nI v < 20 from nI_lt (b := 20) hv (by omega)), stk_r]
  exact Va_add_l hm hv (fun i hi => (h i hi).2.2) v fl vc (by rw [fl_v]; omega) (by omega) h2 (fun i hi => ⟨(h i hi).1, (h i hi).2.1⟩) (fun i h1 h2 => by omega) (fun i h1 h2 => by omega)
theorem RvL_ins {m c p : Nat} {vc' : Mem} (h : RvL v vc s mm kk) (hm : m < 1200) (hc : c < 5) (hz : s (252 + m) = 0) (e1 : s' (252 + m) = nI (c + 1)) (e2 : ∀ k, k < 1200 → k ≠ m → s' (252 + k) = s (252 + k)) (hp : p ≤ v) (lo : 0 < p → mm (p - 1) ≤ m) (hi : ∀ i, p ≤ i → i < v → m < mm i) (n2 : vc' 2 0 = nI (v + 1)) (en : ∀ i, i < v + 1 → vc' 0 i = nI (insN p m mm i) ∧ vc' 1 i = nI (insN p c kk i)) : RvL (v + 1) vc' s' (insN p m mm) (insN p c kk) := by
  obtain ⟨h1, h2, h3, h4⟩ := h
  have ne : ∀ i, i < v → mm i ≠ m := fun i hi e => by
    have h5 := (h2 i hi).2.2.2.2
    rw [e, hz] at h5
    exact kk_ne (h2 i hi).2.2.2.1 h5.symm
  have lt : ∀ i, i < p → mm i < m := fun i hi' => by
    have l := lo (by omega)
    have n1 := ne i (by omega)
    by_cases e : i = p - 1
    · subst e; omega
    · have := h3 i (p - 1) (by omega) (by omega); omega
  refine ⟨n2, fun i hi' => ⟨(en i hi').1, (en i hi').2, ?_⟩, fun i j hij hj => ?_, fun k hk hz' => ?_⟩
  · by_cases q : i < p
    · rw [ins_lt q, ins_lt q]
      obtain ⟨-, -, a, b, d⟩ := h2 i (by omega)
      exact ⟨a, b, by rw [e2 _ a (ne i (by omega))]; exact d⟩
    · by_cases q2 : i = p
      · subst q2; rw [ins_eq, ins_eq]; exact ⟨hm, hc, e1⟩
      · rw [ins_gt (by omega), ins_gt (by omega)]
        obtain ⟨-, -, a, b, d⟩ := h2 (i - 1) (by omega)
        exact ⟨a, b, by rw [e2 _ a (ne (i - 1) (by omega))]; exact d⟩
  · by_cases q : j < p
    · rw [ins_lt q, ins_lt (by omega)]; exact h3 i j hij (by omega)
    · by_cases q2 : j = p
      · subst q2; rw [ins_eq, ins_lt hij]; exact lt i hij
      · rw [ins_gt (i := j) (by omega)]
        by_cases q3 : i < p
        · rw [ins_lt q3]; exact h3 i (j - 1) (by omega) (by omega)
        · by_cases q4 : i = p
          · subst q4; rw [ins_eq]; exact hi (j - 1) (by omega) (by omega)
          · rw [ins_gt (by omega)]; exact h3 (i - 1) (j - 1) (by omega) (by omega)
  · by_cases e : k = m
    · subst e; exact ⟨p, by omega, ins_eq⟩
    · rw [e2 k hk e] at hz'
      obtain ⟨i, hi', e'⟩ := h4 k hk hz'
      by_cases q : i < p
      · exact ⟨i, by omega, by rw [ins_lt q]; exact e'⟩
      · exact ⟨i + 1, by omega, by rw [ins_gt (by omega)]; exact e'⟩
/-- one less -/
theorem Va_rem_l {g : Nat} (hv : v ≤ 20) : ∀ (r k N : Nat) (vc : Mem), k + 1 + r = v → r < N → g ≤ k → vc 2 0 = nI v → (∀ i, i < v → (i < k → vc 0 i = nI (delN g mm i) ∧ vc 1 i = nI (delN g kk i)) ∧ (k < i → vc 0 i = nI (mm i) ∧ vc 1 i = nI (kk i))) → ∃ vc', Va_removeAt_b11 (nI g) N vc (nI k) = some vc' ∧ vc' 2 0 = nI (v - 1) ∧ ∀ i, i < v - 1 → vc' 0 i = nI (delN g mm i) ∧ vc' 1 i = nI (delN g kk i)
  | 0, k, N + 1, vc, hk, _, hg, e2, en => by
    show ∃ vc', Va_removeAt_b11B (nI g) (Va_removeAt_b11 (nI g) N) vc (nI k) = some vc' ∧ _
    unfold Va_removeAt_b11B Va_removeAt_b63
    rw [e2, nI_1, if_pos (nI_le (by omega) (by omega)), stk_r]
    refine ⟨_, rfl, ?_, fun i hi => ?_⟩
    · rw [upm_0, pk_us, nI_dec v (by omega)]
    · rw [upm_n _ _ _ (show (0 : Nat) ≠ 2 by omega), upm_n _ _ _ (show (1 : Nat) ≠ 2 by omega)]
      exact (en i (by omega)).1 (by omega)
  | r + 1, k, N + 1, vc, hk, hN, hg, e2, en => by
    show ∃ vc', Va_removeAt_b11B (nI g) (Va_removeAt_b11 (nI g) N) vc (nI k) = some vc' ∧ _
    unfold Va_removeAt_b11B
    rw [e2, nI_1, if_neg (nI_ge (by omega) (by omega)), if_neg (show ¬ 20 ≤ nI (k + 1) from nI_ge (b := 20) (by omega) (by omega)), ckI_nI _ (by omega) (by omega), ckI_nI _ (by omega) (by omega), nI_clamp (by omega), nI_clamp (by omega)]
    simp only [stk_r]
    rw [upm_n _ _ _ (show (1 : Nat) ≠ 0 by omega), ((en (k + 1) (by omega)).2 (by omega)).1, ((en (k + 1) (by omega)).2 (by omega)).2]
    refine Va_rem_l hv r (k + 1) N _ (by omega) (by omega) (by omega) ?_ (fun i hi => ⟨fun h1 => ?_, fun h1 => ?_⟩)
    · rw [upm_n _ _ _ (show (2 : Nat) ≠ 1 by omega), upm_n _ _ _ (show (2 : Nat) ≠ 0 by omega), e2]
    · rw [upm_n _ _ _ (show (0 : Nat) ≠ 1 by omega), upm_0, upm_0, upm_n _ _ _ (show (1 : Nat) ≠ 0 by omega)]
      by_cases e : i = k
      · subst e
        rw [pk_us, pk_us]
        unfold delN
        rw [if_neg (by omega), if_neg (by omega)]
        exact ⟨rfl, rfl⟩
      · rw [pk_un e, pk_un e]; exact (en i hi).1 (by omega)
    · rw [upm_n _ _ _ (show (0 : Nat) ≠ 1 by omega), upm_0, upm_0, upm_n _ _ _ (show (1 : Nat) ≠ 0 by omega), pk_un (by omega), pk_un (by omega)]
      exact (en i hi).2 (by omega)
theorem Va_removeAt_s {g : Nat} (hv : v ≤ 20) (hg : g < v) (h2 : vc 2 0 = nI v) (en : ∀ i, i < v → vc 0 i = nI (mm i) ∧ vc 1 i = nI (kk i)) : ∃ vc', Va_removeAt vc (nI g) = some vc' ∧ vc' 2 0 = nI (v - 1) ∧ ∀ i, i < v - 1 → vc' 0 i = nI (delN g mm i) ∧ vc' 1 i = nI (delN g kk i) := by
  unfold Va_removeAt
  rw [Va_has_s h2 hv hg, bn1_r, if_neg (by decide)]
  refine Va_rem_l hv (v - 1 - g) g fl vc (by omega) (by rw [fl_v]; omega) (Nat.le_refl g) h2 (fun i hi => ⟨fun h1 => ?_, fun _ => en i hi⟩)
  unfold delN
  rw [if_pos h1, if_pos h1]
  exact en i hi
theorem RvL_del {g : Nat} {vc' : Mem} (h : RvL v vc s mm kk) (hg : g < v) (e1 : s' (252 + mm g) = 0) (e2 : ∀ k, k < 1200 → k ≠ mm g → s' (252 + k) = s (252 + k)) (n2 : vc' 2 0 = nI (v - 1)) (en : ∀ i, i < v - 1 → vc' 0 i = nI (delN g mm i) ∧ vc' 1 i = nI (delN g kk i)) : RvL (v - 1) vc' s' (delN g mm) (delN g kk) := by
  obtain ⟨h1, h2, h3, h4⟩ := h
  have dl : ∀ i, i < g → ∀ (q : Nat → Nat), delN g q i = q i := fun i hi q => if_pos hi
  have dg : ∀ i, ¬ i < g → ∀ (q : Nat → Nat), delN g q i = q (i + 1) := fun i hi q => if_neg hi
  refine ⟨n2, fun i hi => ⟨(en i hi).1, (en i hi).2, ?_⟩, fun i j hij hj => ?_, fun k hk hz => ?_⟩
  · by_cases q : i < g
    · rw [dl i q, dl i q]
      obtain ⟨-, -, a, b, d⟩ := h2 i (by omega)
      have := h3 i g q hg
      exact ⟨a, b, by rw [e2 _ a (by omega)]; exact d⟩
    · rw [dg i q, dg i q]
      obtain ⟨-, -, a, b, d⟩ := h2 (i + 1) (by omega)
      have := h3 g (i + 1) (by omega) (by omega)
      exact ⟨a, b, by rw [e2 _ a (by omega)]; exact d⟩
  · by_cases q : j < g
    · rw [dl i (by omega), dl j q]; exact h3 i j hij (by omega)
    · rw [dg j q]
      by_cases q2 : i < g
      · rw [dl i q2]; exact h3 i (j + 1) (by omega) (by omega)
      · rw [dg i q2]; exact h3 (i + 1) (j + 1) (by omega) (by omega)
  · by_cases e : k = mm g
    · subst e; exact absurd e1 hz
    · rw [e2 k hk e] at hz
      obtain ⟨i, hi, e'⟩ := h4 k hk hz
      by_cases q : i < g
      · exact ⟨i, by omega, by rw [dl i q]; exact e'⟩
      · have q3 : i ≠ g := fun z => e (by rw [← e', z])
        exact ⟨i - 1, by omega, by rw [dg (i - 1) (by omega), show i - 1 + 1 = i by omega]; exact e'⟩
end V2
