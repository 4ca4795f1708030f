/-! what holds of the reference's row, and of the class's field beside it -/
def Jt (s : Nat → Int32) : Prop := (∃ t, t < 720 ∧ s 172 = nI t) ∧ (s 174 = 0 ∨ s 174 = 1)
def Jf (n : Nat) (s : Nat → Int32) : Prop := ∀ f, f < n → ∃ a b c d : Nat, s (8 * f) = nI a ∧ a < 5 ∧ s (8 * f + 1) = nI b ∧ b < 720 ∧ s (8 * f + 2) = nI c ∧ c ≤ 300 ∧ s (8 * f + 3) = nI d ∧ 1 ≤ d ∧ d ≤ 9
def Jg (n : Nat) (s : Nat → Int32) : Prop := ∀ f, f < n → (s (8 * f + 7) = 0 ∧ s (8 * f + 4) = -1) ∨ ((s (8 * f + 7) = 0 ∨ s (8 * f + 7) = 1) ∧ ∃ m, m < 1200 ∧ s (8 * f + 4) = nI m)
def Jp (n : Nat) (s : Nat → Int32) : Prop := ∀ f, f < n → Pd s f → ∃ b c t m h k : Nat, s (8 * f + 1) = nI b ∧ s (8 * f + 2) = nI c ∧ s 172 = nI t ∧ s (8 * f + 4) = nI m ∧ s (8 * f + 5) = nI h ∧ s (8 * f + 6) = nI k ∧ m < 1200 ∧ m = b + h + k ∧ (k = 0 ∨ b + h ≤ t + c) ∧ b < 720 ∧ c ≤ 300 ∧ t < 720
def Jd (n : Nat) (s : Nat → Int32) : Prop := ∀ f g, f < n → g < n → Pd s f → Pd s g → s (8 * f + 4) = s (8 * g + 4) → f = g
def Jv (n : Nat) (s : Nat → Int32) : Prop := (∀ m, m < 1200 → ∃ k, k ≤ 5 ∧ s (252 + m) = nI k) ∧ ∀ f, f < n → Pd s f → ∀ m, m < 1200 → s (8 * f + 4) = nI m → s (252 + m) = 0
def Jr (s : Nat → Int32) : Prop := ∀ h, h < 12 → ∃ r, r ≤ 12 ∧ s (160 + h) = nI r
def Jo (n : Nat) (s : Nat → Int32) : Prop := ∀ i, i < 8 → s (180 + 5 * i) = 0 ∨ (s (180 + 5 * i) = 1 ∧ ∃ a b, a < n ∧ b < n ∧ a ≠ b ∧ s (176 + 5 * i) = nI a ∧ s (178 + 5 * i) = nI b ∧ s (8 * a) = s (8 * b))
def Jl (n : Nat) (s : Nat → Int32) : Prop := ∃ L, L ≤ 12 ∧ s 175 = nI L ∧ ∀ i, i < L → ∃ f g k, f < n ∧ g < n ∧ k ≤ 300 ∧ s (216 + 3 * i) = nI f ∧ s (216 + 3 * i + 1) = nI g ∧ s (216 + 3 * i + 2) = nI k
def J (n : Nat) (s : Nat → Int32) : Prop := Jt s ∧ Jf n s ∧ Jg n s ∧ Jp n s ∧ Jd n s ∧ Jv n s ∧ Jr s ∧ Jo n s ∧ Jl n s
def Rr (ra : Mem) (s : Nat → Int32) : Prop := ∀ h, h < 12 → ra 0 h = s (160 + h)
def gone (n : Nat) (s : Nat → Int32) (f : Nat) : Bool := decide (f < n ∧ s (8 * f + 7) = 1)
def Rb (n : Nat) (fo : Mem) (s : Nat → Int32) : Prop := fo 10 0 = s 174 ∧ fo 8 0 = nI (msk (gone n s) 20)
/-- how many -/
def cn (P : Nat → Bool) : Nat → Nat
  | 0 => 0
  | k + 1 => cn P k + (if P k then 1 else 0)
def Rv (v n : Nat) (vc : Mem) (s : Nat → Int32) : Prop := v ≤ cn (gone n s) n ∧ vc 2 0 = nI v ∧ ∃ mm kk : Nat → Nat, (∀ i, i < v → vc 0 i = nI (mm i) ∧ vc 1 i = nI (kk i) ∧ mm i < 1200 ∧ kk i < 5 ∧ s (252 + mm i) = nI (kk i + 1)) ∧ (∀ i j, i < j → j < v → mm i < mm j) ∧ ∀ m, m < 1200 → ¬ s (252 + m) = 0 → ∃ i, i < v ∧ mm i = m
def made (s : Nat → Int32) (i : Nat) : Bool := decide (s (180 + 5 * i) = 1)
def Ros (os : Mem) (s : Nat → Int32) : Prop := os 4 0 = nI (msk (made s) 8) ∧ ∀ i, i < 8 → s (180 + 5 * i) = 1 → os 0 i = s (176 + 5 * i) ∧ os 1 i = s (177 + 5 * i) ∧ os 2 i = s (178 + 5 * i) ∧ os 3 i = s (179 + 5 * i)
def Rl (li : Mem) (s : Nat → Int32) : Prop := li 3 0 = s 175 ∧ ∀ L i, s 175 = nI L → L ≤ 12 → i < L → li 0 i = s (216 + 3 * i) ∧ li 1 i = s (216 + 3 * i + 1) ∧ li 2 i = s (216 + 3 * i + 2)
def RF (n v : Nat) (fo ro ra vc os li : Mem) (s : Nat → Int32) : Prop := Rf n fo ro s ∧ Rr ra s ∧ Rb n fo s ∧ Rv v n vc s ∧ Ros os s ∧ Rl li s ∧ J n s
/-! arguments -/
section AR
variable {mo : Mem} {n : Nat} {fo ro : Mem} {s : Nat → Int32}
theorem Mo_in_s (x a b : Int32) : Mo_in x a b = some (bI (¬ x < a ∧ ¬ b < x)) := by
  unfold Mo_in
  by_cases h1 : x < a
  · rw [if_pos h1, bI_f (fun z => z.1 h1)]
  · rw [if_neg h1]
    by_cases h2 : b < x
    · rw [if_pos h2, bI_f (fun z => z.2 h2)]
    · rw [if_neg h2, bI_t ⟨h1, h2⟩]
/-- of 0 to n - 1, or not -/
def inN (x : Int32) (n : Nat) : Prop := ∃ j, j < n ∧ x = nI j
theorem inN_of {x : Int32} {n : Nat} (hn : n < 2 ^ 31) : (¬ x < 0 ∧ x < nI n) ↔ inN x n := by
  constructor
  · rintro ⟨h1, h2⟩
    rcases pk_ix x hn with h | h | h
    · exact absurd h h1
    · exact absurd h2 (Int32.not_lt.mpr h)
    · exact h
  · rintro ⟨j, hj, rfl⟩
    exact ⟨nI_pos (by omega), nI_lt hj hn⟩
theorem inN_le {x : Int32} {n : Nat} (hn : n < 2 ^ 31 - 1) : (¬ x < 0 ∧ ¬ nI n < x) ↔ inN x (n + 1) := by
  rw [← inN_of (by omega)]
  constructor
  · rintro ⟨h1, h2⟩
    rcases pk_ix x (n := n + 1) (by omega) with h | h | ⟨j, hj, rfl⟩
    · exact absurd h h1
    · obtain ⟨j, hj, rfl⟩ := nI_of h1
      rw [nI_leI (by omega) hj] at h
      exact absurd (nI_lt (by omega) hj) h2
    · exact ⟨h1, nI_lt hj (by omega)⟩
  · rintro ⟨h1, h2⟩
    refine ⟨h1, fun h => ?_⟩
    obtain ⟨j, hj, rfl⟩ := nI_of h1
    rw [nI_ltI (by omega) hj] at h
    rw [nI_ltI hj (by omega)] at h2
    omega
theorem nI_dec (n : Nat) (hn : 0 < n) : nI n - 1 = nI (n - 1) := by
  obtain ⟨k, rfl⟩ : ∃ k, n = k + 1 := ⟨n - 1, by omega⟩
  exact nI_pred k
theorem in_flight {x : Int32} (hn : n ≤ 20) : (¬ x < 0 ∧ ¬ nI n - 1 < x) ↔ inN x n := by
  by_cases h0 : n = 0
  · subst h0
    constructor
    · rintro ⟨h1, h2⟩
      exact absurd (Int32.lt_of_lt_of_le (show nI 0 - 1 < 0 by decide) (Int32.not_lt.mp h1)) h2
    · rintro ⟨j, hj, -⟩; omega
  · rw [nI_dec n (by omega), inN_le (by omega), show n - 1 + 1 = n by omega]
end AR
