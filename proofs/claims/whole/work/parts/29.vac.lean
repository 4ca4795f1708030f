/-! vacant minutes: the class's list beside the reference's row of minutes -/
/-- of the list mm, the first j lie below M -/
def vi (v : Nat) (mm : Nat → Nat) (M j : Nat) : Prop := j ≤ v ∧ ∀ i, i < v → (mm i < M ↔ i < j)
theorem vi_0 {v : Nat} {mm : Nat → Nat} : vi v mm 0 0 := ⟨Nat.zero_le _, fun i _ => by omega⟩
theorem vi_step {v : Nat} {mm : Nat → Nat} {M j : Nat} (asc : ∀ i k, i < k → k < v → mm i < mm k) (h : vi v mm M j) : ((∀ i, i < v → mm i ≠ M) ∧ vi v mm (M + 1) j) ∨ (j < v ∧ mm j = M ∧ vi v mm (M + 1) (j + 1)) := by
  by_cases hj : j < v ∧ mm j = M
  · refine Or.inr ⟨hj.1, hj.2, by omega, fun i hi => ?_⟩
    have h1 := h.2 i hi
    by_cases e : i = j
    · subst e; omega
    · by_cases l : i < j
      · have := asc i j l hj.1; omega
      · have := asc j i (by omega) hi; omega
  · have hne : ∀ i, i < v → mm i ≠ M := by
      intro i hi e
      have h1 := h.2 i hi
      have h2 : ¬ i < j := by omega
      by_cases e2 : i = j
      · subst e2; exact hj ⟨hi, e⟩
      · have h3 := asc j i (by omega) hi
        have h4 := h.2 j (by omega)
        omega
    refine Or.inl ⟨hne, h.1, fun i hi => ?_⟩
    have h1 := h.2 i hi
    have h2 := hne i hi
    omega
section VC
variable {n v : Nat} {vc mo : Mem} {mm kk : Nat → Nat}
/-- what Rv says, with its list named -/
def RvL (v : Nat) (vc : Mem) (s : Nat → Int32) (mm kk : Nat → Nat) : Prop := vc 2 0 = nI v ∧ (∀ i, i < v → vc 0 i = nI (mm i) ∧ vc 1 i = nI (kk i) ∧ mm i < 1200 ∧ kk i < 5 ∧ s (252 + mm i) = nI (kk i + 1)) ∧ (∀ i j, i < j → j < v → mm i < mm j) ∧ ∀ m, m < 1200 → ¬ s (252 + m) = 0 → ∃ i, i < v ∧ mm i = m
theorem Rv.l {s : Nat → Int32} (h : Rv v n vc s) : ∃ mm kk, RvL v vc s mm kk := by
  obtain ⟨-, h2, mm, kk, h3, h4, h5⟩ := h
  exact ⟨mm, kk, h2, h3, h4, h5⟩
theorem cn_le (P : Nat → Bool) : ∀ k, cn P k ≤ k
  | 0 => Nat.le_refl 0
  | k + 1 => by
    unfold cn
    have := cn_le P k
    split <;> omega
theorem Rv.v20 {s : Nat → Int32} (h : Rv v n vc s) (hn : n ≤ 20) : v ≤ 20 := Nat.le_trans (Nat.le_trans h.1 (cn_le _ n)) hn
/-- a minute of the row, and the list -/
theorem vstep {s : Nat → Int32} {M j : Nat} (h : RvL v vc s mm kk) (hi : vi v mm M j) (hM : M < 1200) : (s (252 + M) = 0 ∧ vi v mm (M + 1) j) ∨ (j < v ∧ mm j = M ∧ s (252 + M) = nI (kk j + 1) ∧ vi v mm (M + 1) (j + 1)) := by
  rcases vi_step h.2.2.1 hi with ⟨h1, h2⟩ | ⟨h1, h2, h3⟩
  · refine Or.inl ⟨?_, h2⟩
    by_cases e : s (252 + M) = 0
    · exact e
    · obtain ⟨i, hi, e2⟩ := h.2.2.2 M hM e
      exact absurd e2 (h1 i hi)
  · exact Or.inr ⟨h1, h2, by rw [← h2]; exact (h.2.1 j h1).2.2.2.2, h3⟩
theorem n252 {α : Type} {m : Nat} (x : Option α) (h : m < 1200) : ckI (252 + nI m) 1452 x = x := by
  rw [show (252 : Int32) = nI 252 from rfl, nI_add]
  exact ckI_nI x (by omega) (by omega)
theorem k252 {m : Nat} (h : m < 1200) : (252 + nI m).toNatClampNeg = 252 + m := by
  rw [show (252 : Int32) = nI 252 from rfl, nI_add, nI_clamp (by omega)]
theorem kk_ne {k : Nat} (h : k < 5) : ¬ nI (k + 1) = 0 := nI_ne0 (by omega) (by omega)
theorem Mo_vacant_l {y : Int32} {k : Nat} (hk : k < 2 ^ 31) (h : RvL v vc (mo 0) mm kk) : ∀ (r N M j : Nat), M + r = 1200 → r < N → vi v mm M j → j ≤ k → Mo_vacant_b20 mo (nI k) y N (nI (k - j)) (nI M) = some (if k < v then (if y = 0 then nI (mm k) else nI (kk k)) else -2)
  | 0, N + 1, M, j, hM, _, hi, hj => by
    have e : M = 1200 := by omega
    subst e
    show Mo_vacant_b20B mo (nI k) y (Mo_vacant_b20 mo (nI k) y N) (nI (k - j)) (nI 1200) = _
    unfold Mo_vacant_b20B
    rw [if_pos (show (1200 : Int32) ≤ nI 1200 by decide), if_neg]
    intro hkv
    have h1 := (hi.2 k hkv).mp (h.2.1 k hkv).2.2.1
    omega
  | r + 1, N + 1, M, j, hM, hN, hi, hj => by
    show Mo_vacant_b20B mo (nI k) y (Mo_vacant_b20 mo (nI k) y N) (nI (k - j)) (nI M) = _
    unfold Mo_vacant_b20B
    rw [show (1200 : Int32) = nI 1200 from rfl, if_neg (nI_ge (show M < 1200 by omega) (by omega)), n252 _ (by omega), k252 (by omega)]
    rcases vstep h hi (by omega) with ⟨e, h2⟩ | ⟨hjv, e1, e2, h3⟩
    · rw [if_pos e, stk_r, nI_1]
      exact Mo_vacant_l hk h r N (M + 1) j (by omega) (by omega) h2 hj
    · rw [e2, if_neg (kk_ne (h.2.1 j hjv).2.2.2.1)]
      by_cases hkj : k = j
      · subst hkj
        rw [if_pos (show nI (k - k) = 0 by rw [Nat.sub_self]; rfl), if_pos hjv, nI_pred, e1]
        split <;> rfl
      · rw [if_neg (nI_ne0 (by omega) (by omega)), stk_r, stk_r, nI_1, nI_dec _ (by omega), show k - j - 1 = k - (j + 1) by omega]
        exact Mo_vacant_l hk h r N (M + 1) (j + 1) (by omega) (by omega) h3 (by omega)
theorem Va_has_s {f : Nat} (h : vc 2 0 = nI v) (hv : v ≤ 20) (hf : f < v) : Va_has vc (nI f) = some 1 := by
  unfold Va_has
  rw [h, L20, if_neg (nI_pos (by omega)), if_neg (nI_ge hf (by omega)), if_neg (nI_ge (by omega) (by omega))]
theorem Va_minuteOf_s {f : Nat} (h : vc 2 0 = nI v) (hv : v ≤ 20) (hf : f < v) : Va_minuteOf vc (nI f) = some (vc 0 f) := by
  unfold Va_minuteOf
  rw [Va_has_s h hv hf, bn1_r, if_neg (by decide), ckI_nI _ (by omega) (by omega), nI_clamp (by omega)]
theorem Va_keeperOf_s {f : Nat} (h : vc 2 0 = nI v) (hv : v ≤ 20) (hf : f < v) : Va_keeperOf vc (nI f) = some (vc 1 f) := by
  unfold Va_keeperOf
  rw [Va_has_s h hv hf, bn1_r, if_neg (by decide), ckI_nI _ (by omega) (by omega), nI_clamp (by omega)]
theorem q_vacant {fo ro ra os li : Mem} {x y : Int32} (h : RF n v fo ro ra vc os li (mo 0)) : ∃ r, St_vacant vc x y = some r ∧ Mo_vacant mo x y = some r := by
  have hv20 := h.2.2.2.1.v20 h.f.n20
  obtain ⟨mm, kk, hl⟩ := h.2.2.2.1.l
  unfold St_vacant Mo_vacant
  by_cases hx : x < 0
  · rw [if_pos hx, if_pos hx]; exact ⟨_, rfl, rfl⟩
  · rw [if_neg hx, if_neg hx, show (1 : Int32) = nI 1 from rfl, Mo_in0 1 (by omega)]
    obtain ⟨k, hk, rfl⟩ := nI_of hx
    simp only [bn1_r, bI_z]
    by_cases hy : in0 y 2
    · have hy2 : y ≤ nI 1 := by
        obtain ⟨j, hj, rfl⟩ := in0_of hy (by omega)
        exact nI_le (by omega) (by omega)
      rw [if_neg hy.1, if_pos hy2, if_pos hy]
      have e := Mo_vacant_l (y := y) hk hl 1200 fl 0 0 (by omega) (by rw [fl_v]; omega) vi_0 (Nat.zero_le k)
      rw [Nat.sub_zero] at e
      rw [show (0 : Int32) = nI 0 from rfl] at *
      rw [e, hl.1]
      by_cases hkv : k < v
      · rw [if_pos (nI_lt hkv (by omega)), if_pos hkv]
        rw [Va_minuteOf_s hl.1 hv20 hkv, Va_keeperOf_s hl.1 hv20 hkv, (hl.2.1 k hkv).1, (hl.2.1 k hkv).2.1, bn1_r, bn1_r]
        by_cases e0 : y = nI 0
        · rw [if_pos e0, if_pos e0]; exact ⟨_, rfl, rfl⟩
        · rw [if_neg e0, if_neg e0]; exact ⟨_, rfl, rfl⟩
      · rw [if_neg (nI_nlt (by omega) hk), if_neg hkv]; exact ⟨_, rfl, rfl⟩
    · rw [if_neg hy]
      refine ⟨-1, ?_, rfl⟩
      by_cases h0 : y < 0
      · rw [if_pos h0]; rfl
      · rw [if_neg h0]
        have h1 : ¬ y ≤ nI 1 := fun z => hy ((in0_le (k := 1) (by omega)).mp ⟨h0, Int32.not_lt.mpr z⟩)
        rw [if_neg h1]; rfl
end VC
