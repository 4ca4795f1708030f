/-! the reference's small methods, over its row s = mo 0 -/
theorem Mo_of_s {mo : Mem} {f w : Nat} (h : 8 * f + w < 1452) : Mo_of mo (nI f) (nI w) = some (mo 0 (8 * f + w)) := by
  unfold Mo_of
  simp (disch := omega) only [L2, L3, L4, L5, L6, L7, L8, L9, L10, L12, L20, L31, L32, L59, L60, L65, L80, L97, L100, L160, L172, L173, L174, L175, L176, L216, L252, L255, L300, L319, L320, L720, L719, L1000, L1199, L1200, L1452, L13068, L65535, L65536, nI_ltP, nI_leP, nI_eqP, nI_lt0, nI_eqm, nI_add, nI_1, pk_mul, ckI_nI, nI_clamp, stk_r, bn1_r, bn2_r, bn3_r, bn4_r, bn5_r, bn6_r, bI_z, bI_ck]
theorem Mo_of_0 {mo : Mem} {f : Nat} (h : f < 20) : Mo_of mo (nI f) 0 = some (mo 0 (8 * f)) := Mo_of_s (w := 0) (by omega)
theorem Mo_of_1 {mo : Mem} {f : Nat} (h : f < 20) : Mo_of mo (nI f) 1 = some (mo 0 (8 * f + 1)) := Mo_of_s (w := 1) (by omega)
theorem Mo_of_2 {mo : Mem} {f : Nat} (h : f < 20) : Mo_of mo (nI f) 2 = some (mo 0 (8 * f + 2)) := Mo_of_s (w := 2) (by omega)
theorem Mo_of_3 {mo : Mem} {f : Nat} (h : f < 20) : Mo_of mo (nI f) 3 = some (mo 0 (8 * f + 3)) := Mo_of_s (w := 3) (by omega)
theorem Mo_of_4 {mo : Mem} {f : Nat} (h : f < 20) : Mo_of mo (nI f) 4 = some (mo 0 (8 * f + 4)) := Mo_of_s (w := 4) (by omega)
theorem Mo_of_5 {mo : Mem} {f : Nat} (h : f < 20) : Mo_of mo (nI f) 5 = some (mo 0 (8 * f + 5)) := Mo_of_s (w := 5) (by omega)
theorem Mo_of_6 {mo : Mem} {f : Nat} (h : f < 20) : Mo_of mo (nI f) 6 = some (mo 0 (8 * f + 6)) := Mo_of_s (w := 6) (by omega)
theorem Mo_of_7 {mo : Mem} {f : Nat} (h : f < 20) : Mo_of mo (nI f) 7 = some (mo 0 (8 * f + 7)) := Mo_of_s (w := 7) (by omega)
/-- planned, and not cancelled -/
abbrev Pd (s : Nat → Int32) (f : Nat) : Prop := 0 ≤ s (8 * f + 4) ∧ s (8 * f + 7) = 0
abbrev offS (s : Nat → Int32) (f : Nat) : Int32 := s (8 * f + 1) - s (8 * f + 2)
abbrev goS (s : Nat → Int32) (f : Nat) : Int32 := s (8 * f + 1) - s (8 * f + 2) + s (8 * f + 5)
def mx (a b : Int32) : Int32 := if a < b then b else a
theorem mx_le (a b : Int32) : (if a ≤ b then b else a) = mx a b := by
  unfold mx
  by_cases h : a < b
  · rw [if_pos h, if_pos (Int32.le_of_lt h)]
  · rw [if_neg h]
    by_cases h2 : a ≤ b
    · rw [if_pos h2]; exact Int32.le_antisymm (Int32.not_lt.mp h) h2
    · rw [if_neg h2]
abbrev earS (s : Nat → Int32) (f : Nat) : Int32 := mx (s (8 * f + 1)) (s 172 + s (8 * f + 2))
/-- in the air; on the ground -/
abbrev Air (s : Nat → Int32) (f : Nat) : Prop := Pd s f ∧ goS s f ≤ s 172
abbrev Gnd (s : Nat → Int32) (f : Nat) : Prop := Pd s f ∧ ¬ goS s f ≤ s 172
abbrev waS (s : Nat → Int32) (f : Nat) : Int32 := if Pd s f then s (8 * f + 5) + s (8 * f + 6) else 0
abbrev coS (s : Nat → Int32) (f : Nat) : Int32 := if Pd s f then s (8 * f + 3) * (s (8 * f + 5) + 3 * s (8 * f + 6)) else 0
theorem n172 {mo : Mem} {α : Type} (x : Option α) : ckI 172 1452 x = x := ckI_nI (i := 172) x (by omega) (by omega)
theorem n173 {mo : Mem} {α : Type} (x : Option α) : ckI 173 1452 x = x := ckI_nI (i := 173) x (by omega) (by omega)
theorem k172 : (172 : Int32).toNatClampNeg = 172 := by decide
theorem k173 : (173 : Int32).toNatClampNeg = 173 := by decide
section MB
variable {mo : Mem} {f n : Nat}
theorem Mo_isPlanned_s (h : f < 20) : Mo_isPlanned mo (nI f) = some (bI (Pd (mo 0) f)) := by
  unfold Mo_isPlanned
  rw [Mo_of_4 h, Mo_of_7 h]
  simp only [bn1_r]
  by_cases h1 : mo 0 (8 * f + 4) < 0
  · rw [if_pos h1, bI_f (fun q => absurd q.1 (Int32.not_le.mpr h1))]
  · rw [if_neg h1]
    by_cases h2 : mo 0 (8 * f + 7) = 0
    · rw [if_pos h2, bI_t ⟨Int32.not_lt.mp h1, h2⟩]
    · rw [if_neg h2, bI_f (fun q => h2 q.2)]
theorem Mo_offOf_s (h : f < 20) : Mo_offOf mo (nI f) = some (offS (mo 0) f) := by
  unfold Mo_offOf
  rw [Mo_of_1 h, Mo_of_2 h]
  rfl
theorem Mo_earliest_s (h : f < 20) : Mo_earliest mo (nI f) = some (earS (mo 0) f) := by
  unfold Mo_earliest Mo_more
  rw [Mo_of_1 h, Mo_of_2 h]
  simp only [bn1_r, n172 (mo := mo), k172]
  rw [show (if mo 0 (8 * f + 1) ≤ mo 0 172 + mo 0 (8 * f + 2) then some (mo 0 172 + mo 0 (8 * f + 2)) else some (mo 0 (8 * f + 1))) = some (if mo 0 (8 * f + 1) ≤ mo 0 172 + mo 0 (8 * f + 2) then (mo 0 172 + mo 0 (8 * f + 2)) else (mo 0 (8 * f + 1))) by split <;> rfl, mx_le]
  rfl
theorem Mo_isAir_s (h : f < 20) : Mo_isAir mo (nI f) = some (bI (Air (mo 0) f)) := by
  unfold Mo_isAir
  rw [Mo_isPlanned_s h, Mo_offOf_s h, Mo_of_5 h]
  simp only [bn1_r, bI_z, n172 (mo := mo), k172]
  by_cases hp : Pd (mo 0) f
  · rw [if_pos hp]
    by_cases hq : goS (mo 0) f ≤ mo 0 172
    · rw [if_neg (Int32.not_lt.mpr hq), bI_t ⟨hp, hq⟩]
    · rw [if_pos (Int32.not_le.mp hq), bI_f (fun z => hq z.2)]
  · rw [if_neg hp, bI_f (fun z => hp z.1)]
theorem Mo_isGround_s (h : f < 20) : Mo_isGround mo (nI f) = some (bI (Gnd (mo 0) f)) := by
  unfold Mo_isGround
  rw [Mo_isPlanned_s h, Mo_isAir_s h]
  simp only [bn1_r, bI_z]
  by_cases hp : Pd (mo 0) f
  · rw [if_pos hp]
    by_cases hq : goS (mo 0) f ≤ mo 0 172
    · rw [if_pos ⟨hp, hq⟩, bI_f (fun z => z.2 hq)]
    · rw [if_neg (fun z => hq z.2), bI_t ⟨hp, hq⟩]
  · rw [if_neg hp, bI_f (fun z => hp z.1)]
theorem Mo_waits_s (h : f < 20) : Mo_waits mo (nI f) = some (waS (mo 0) f) := by
  unfold Mo_waits
  rw [Mo_isPlanned_s h, Mo_of_5 h, Mo_of_6 h]
  simp only [bn1_r, bI_z]
  unfold waS
  split <;> rfl
theorem Mo_cost_s (h : f < 20) : Mo_cost mo (nI f) = some (coS (mo 0) f) := by
  unfold Mo_cost
  rw [Mo_isPlanned_s h, Mo_of_3 h, Mo_of_5 h, Mo_of_6 h]
  simp only [bn1_r, bI_z]
  unfold coS
  split <;> rfl
theorem Mo_more_s (a b : Int32) : Mo_more a b = some (mx a b) := by
  unfold Mo_more
  rw [← mx_le]
  split <;> rfl
/-- loops over the flights that there are -/
theorem for_fl {β : Type} (L : Nat → Int32 → Int32 → Option β) (g : Nat → Int32) (hn : n ≤ 20) (E : Int32 → Option β)
    (h1 : ∀ k i a, i < n → L (k + 1) a (nI i) = L k (a + g i) (nI (i + 1))) (h2 : ∀ k a, L (k + 1) a (nI n) = E a) : L fl 0 0 = E (sm g n) := for_sum L n g E (by omega) h1 h2
end MB
