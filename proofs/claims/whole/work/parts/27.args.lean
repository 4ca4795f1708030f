/-! arguments' tests -/
abbrev in0 (x : Int32) (n : Nat) : Prop := ¬ x < 0 ∧ x < nI n
theorem in0_of {x : Int32} {n : Nat} (h : in0 x n) (hn : n < 2 ^ 31) : ∃ j, j < n ∧ x = nI j := (inN_of hn).mp h
theorem in0_nI {j n : Nat} (hj : j < n) (hn : n < 2 ^ 31) : in0 (nI j) n := (inN_of hn).mpr ⟨j, hj, rfl⟩
theorem two_b {x : Int32} {n : Nat} : (if x < 0 then some (0 : Int32) else if nI n ≤ x then some 0 else some 1) = some (bI (in0 x n)) := by
  by_cases h1 : x < 0
  · rw [if_pos h1, bI_f (fun z => z.1 h1)]
  · rw [if_neg h1]
    by_cases h2 : nI n ≤ x
    · rw [if_pos h2, bI_f (fun z => absurd z.2 (Int32.not_lt.mpr h2))]
    · rw [if_neg h2, bI_t ⟨h1, Int32.not_le.mp h2⟩]
section AT
variable {mo fo ro : Mem} {n : Nat} {s : Nat → Int32} {x : Int32}
theorem St_isLine_s : St_isLine x = some (bI (in0 x 5)) := two_b
theorem St_isHour_s : St_isHour x = some (bI (in0 x 12)) := two_b
theorem St_isDayMinute_s : St_isDayMinute x = some (bI (in0 x 720)) := two_b
theorem St_isMinute_s : St_isMinute x = some (bI (in0 x 1200)) := two_b
theorem in0_le {k : Nat} (hk : k < 2 ^ 31 - 1) : (¬ x < 0 ∧ ¬ nI k < x) ↔ in0 x (k + 1) := (inN_le hk).trans (inN_of (by omega)).symm
theorem St_isRate_s : St_isRate x = some (bI (in0 x 13)) := by
  unfold St_isRate
  rw [L12]
  rw [← bI_iff (in0_le (x := x) (k := 12) (by omega))]
  by_cases h1 : x < 0
  · rw [if_pos h1, bI_f (fun z => z.1 h1)]
  · rw [if_neg h1]
    by_cases h2 : nI 12 < x
    · rw [if_pos h2, bI_f (fun z => z.2 h2)]
    · rw [if_neg h2, bI_t ⟨h1, h2⟩]
theorem Mo_in0 (k : Nat) (hk : k < 2 ^ 31 - 1) : Mo_in x 0 (nI k) = some (bI (in0 x (k + 1))) := by
  rw [Mo_in_s, bI_iff (in0_le hk)]
theorem Mo_isLine_s : Mo_isLine x = some (bI (in0 x 5)) := by
  unfold Mo_isLine
  rw [L4, Mo_in0 4 (by omega)]
  simp only [bn1_r, bI_ck]
theorem Mo_isMinute_s : Mo_isMinute x = some (bI (in0 x 1200)) := by
  unfold Mo_isMinute
  rw [L1199, Mo_in0 1199 (by omega)]
  simp only [bn1_r, bI_ck]
theorem Mo_isFlight_s (hn : n ≤ 20) (hs : mo 0 173 = nI n) : Mo_isFlight mo x = some (bI (in0 x n)) := by
  unfold Mo_isFlight
  rw [n173 (mo := mo), k173, hs, Mo_in_s]
  simp only [bn1_r, bI_ck]
  rw [bI_iff ((in_flight hn).trans (inN_of (by omega)).symm)]
theorem Fi_isFlight_x (hn : n ≤ 20) (h : ro 4 0 = nI n) : Fi_isFlight ro x = some (bI (in0 x n)) := by
  unfold Fi_isFlight
  rw [h]
  by_cases h1 : x < 0
  · rw [if_pos h1, bI_f (fun z => z.1 h1)]
  · rw [if_neg h1]
    by_cases h2 : nI n ≤ x
    · rw [if_pos h2, bI_f (fun z => absurd z.2 (Int32.not_lt.mpr h2))]
    · rw [if_neg h2, bI_t ⟨h1, Int32.not_le.mp h2⟩, L20, if_neg]
      exact fun h3 => absurd (Int32.lt_of_lt_of_le (Int32.not_le.mp h2) (nI_le hn (by omega))) (Int32.not_lt.mpr h3)
theorem St_areHours_s {y : Int32} : St_areHours x y = some (bI (in0 x 12 ∧ in0 y 12 ∧ x ≤ y)) := by
  unfold St_areHours
  rw [St_isHour_s, St_isHour_s]
  simp only [bn1_r, bI_z]
  by_cases h1 : in0 x 12
  · rw [if_pos h1]
    by_cases h2 : in0 y 12
    · rw [if_pos h2]
      by_cases h3 : x ≤ y
      · first
          | rw [if_neg (Int32.not_lt.mpr h3), bI_t ⟨h1, h2, h3⟩]
          | rw [if_pos h3, bI_t ⟨h1, h2, h3⟩]
      · first
          | rw [if_pos (Int32.not_le.mp h3), bI_f (fun z => h3 z.2.2)]
          | rw [if_neg h3, bI_f (fun z => h3 z.2.2)]
    · rw [if_neg h2, bI_f (fun z => h2 z.2.1)]
  · rw [if_neg h1, bI_f (fun z => h1 z.1)]
theorem Mo_areHours_s {y : Int32} : Mo_areHours x y = some (bI (in0 x 12 ∧ in0 y 12 ∧ x ≤ y)) := by
  unfold Mo_areHours
  rw [show (11 : Int32) = nI 11 from rfl, Mo_in0 11 (by omega), Mo_in_s]
  simp only [bn1_r, bI_z]
  by_cases h1 : in0 x 12
  · rw [if_pos h1]
    have e : (¬ y < x ∧ ¬ nI 11 < y) ↔ (in0 x 12 ∧ in0 y 12 ∧ x ≤ y) := by
      constructor
      · rintro ⟨a, b⟩
        have hy : ¬ y < 0 := fun z => h1.1 (Int32.lt_of_le_of_lt (Int32.not_lt.mp a) z)
        exact ⟨h1, (in0_le (by omega)).mp ⟨hy, b⟩, Int32.not_lt.mp a⟩
      · rintro ⟨-, b, c⟩
        exact ⟨Int32.not_lt.mpr c, ((in0_le (k := 11) (by omega)).mpr b).2⟩
    rw [bI_ite, bI_iff e]
  · rw [if_neg h1, bI_f (fun z => h1 z.1)]
end AT
