/-! bits -/
def msk (P : Nat → Bool) : Nat → Nat
  | 0 => 0
  | k + 1 => msk P k ||| (if P k then 2 ^ k else 0)
theorem msk_bit (P : Nat → Bool) : ∀ (k i : Nat), (msk P k).testBit i = (decide (i < k) && P i)
  | 0, i => by simp [msk]
  | k + 1, i => by
    unfold msk
    rw [Nat.testBit_or, msk_bit P k i]
    by_cases hp : P k = true
    · rw [if_pos hp, Nat.testBit_two_pow]
      by_cases e : k = i
      · subst e; simp [hp]
      · by_cases h1 : i < k
        · simp [h1, e, show i < k + 1 by omega]
        · simp [h1, e, show ¬ i < k + 1 by omega]
    · rw [if_neg hp, Nat.zero_testBit]
      by_cases e : k = i
      · subst e; simp [hp]
      · by_cases h1 : i < k
        · simp [h1, show i < k + 1 by omega]
        · simp [h1, show ¬ i < k + 1 by omega]
theorem msk_lt (P : Nat → Bool) (k : Nat) : msk P k < 2 ^ k := by
  refine Nat.lt_pow_two_of_testBit _ (fun i hi => ?_)
  rw [msk_bit, show decide (i < k) = false from decide_eq_false (by omega)]
  rfl
theorem nI_tb (a : Nat) : (nI a).toBitVec = BitVec.ofNat 32 a := rfl
theorem nI_and (a b : Nat) (ha : a < 2 ^ 32) (hb : b < 2 ^ 32) : nI a &&& nI b = nI (a &&& b) := by
  apply Int32.toBitVec_inj.mp
  rw [Int32.toBitVec_and, nI_tb, nI_tb, nI_tb]
  apply BitVec.eq_of_toNat_eq
  rw [BitVec.toNat_and, BitVec.toNat_ofNat, BitVec.toNat_ofNat, BitVec.toNat_ofNat, Nat.mod_eq_of_lt ha, Nat.mod_eq_of_lt hb, Nat.mod_eq_of_lt (Nat.lt_of_le_of_lt Nat.and_le_left ha)]
theorem nI_or (a b : Nat) (ha : a < 2 ^ 32) (hb : b < 2 ^ 32) : nI a ||| nI b = nI (a ||| b) := by
  apply Int32.toBitVec_inj.mp
  rw [Int32.toBitVec_or, nI_tb, nI_tb, nI_tb]
  apply BitVec.eq_of_toNat_eq
  rw [BitVec.toNat_or, BitVec.toNat_ofNat, BitVec.toNat_ofNat, BitVec.toNat_ofNat, Nat.mod_eq_of_lt ha, Nat.mod_eq_of_lt hb, Nat.mod_eq_of_lt (Nat.or_lt_two_pow ha hb)]
theorem shl_bit : ∀ f : Nat, f < 20 → (1 : Int32) <<< (nI f &&& 31) = nI (2 ^ f) := by decide
theorem p20 {f : Nat} (h : f < 20) : 2 ^ f < 2 ^ 20 := Nat.pow_lt_pow_right (by omega) h
theorem and_pow (a f : Nat) : a &&& 2 ^ f = 0 ↔ a.testBit f = false := by
  constructor
  · intro h
    have h1 : (a &&& 2 ^ f).testBit f = false := by rw [h, Nat.zero_testBit]
    rw [Nat.testBit_and, Nat.testBit_two_pow] at h1
    simpa using h1
  · intro h
    refine Nat.eq_of_testBit_eq (fun i => ?_)
    rw [Nat.testBit_and, Nat.testBit_two_pow, Nat.zero_testBit]
    by_cases e : f = i
    · subst e; rw [h]; rfl
    · rw [decide_eq_false e, Bool.and_false]
/-- a bit is asked -/
theorem bit_ask {P : Nat → Bool} {k f : Nat} (hk : k ≤ 20) (hf : f < k) : (nI (msk P k) &&& ((1 : Int32) <<< (nI f &&& 31)) = 0) = (P f = false) := by
  have h1 : msk P k < 2 ^ 20 := Nat.lt_of_lt_of_le (msk_lt P k) (Nat.pow_le_pow_right (by omega) hk)
  have h2 := p20 (f := f) (by omega)
  rw [shl_bit f (by omega), nI_and _ _ (by omega) (by omega)]
  have h3 : msk P k &&& 2 ^ f < 2 ^ 20 := Nat.lt_of_le_of_lt Nat.and_le_left h1
  apply propext
  rw [show ((0 : Int32)) = nI 0 from rfl, nI_eq (by omega) (by omega), and_pow, msk_bit, decide_eq_true hf, Bool.true_and]
/-- a bit is set -/
theorem bit_set {P Q : Nat → Bool} {k f : Nat} (hk : k ≤ 20) (hf : f < k) (hq : ∀ i, i < k → Q i = (P i || decide (i = f))) : nI (msk P k) ||| ((1 : Int32) <<< (nI f &&& 31)) = nI (msk Q k) := by
  have h1 : msk P k < 2 ^ 20 := Nat.lt_of_lt_of_le (msk_lt P k) (Nat.pow_le_pow_right (by omega) hk)
  have h2 := p20 (f := f) (by omega)
  rw [shl_bit f (by omega), nI_or _ _ (by omega) (by omega)]
  congr 1
  refine Nat.eq_of_testBit_eq (fun i => ?_)
  rw [Nat.testBit_or, msk_bit, msk_bit, Nat.testBit_two_pow]
  by_cases h : i < k
  · rw [hq i h, decide_eq_true h, Bool.true_and, Bool.true_and]
    congr 1
    by_cases e : f = i
    · rw [decide_eq_true e, decide_eq_true e.symm]
    · rw [decide_eq_false e, decide_eq_false (fun z => e z.symm)]
  · rw [decide_eq_false h, Bool.false_and, Bool.false_and, decide_eq_false (show ¬ f = i by omega)]; rfl
theorem shl_clr : ∀ f : Nat, f < 20 → ((1 : Int32) <<< (nI f &&& 31)) ^^^ (-1) = nI (2 ^ 32 - 1 - 2 ^ f) := by decide
theorem clr_bit (f i : Nat) (hf : f < 32) : (2 ^ 32 - 1 - 2 ^ f).testBit i = (decide (i < 32) && !decide (i = f)) := by
  have h : 2 ^ 32 - 1 - 2 ^ f = 2 ^ 32 - (2 ^ f + 1) := by omega
  rw [h, Nat.testBit_two_pow_sub_succ (Nat.pow_lt_pow_right (by omega) hf), Nat.testBit_two_pow]
  congr 2
  by_cases e : f = i
  · rw [decide_eq_true e, decide_eq_true e.symm]
  · rw [decide_eq_false e, decide_eq_false (fun z => e z.symm)]
/-- a bit is cleared -/
theorem bit_clr {P Q : Nat → Bool} {k f : Nat} (hk : k ≤ 20) (hf : f < k) (hq : ∀ i, i < k → Q i = (P i && !decide (i = f))) : nI (msk P k) &&& (((1 : Int32) <<< (nI f &&& 31)) ^^^ (-1)) = nI (msk Q k) := by
  have h1 : msk P k < 2 ^ 20 := Nat.lt_of_lt_of_le (msk_lt P k) (Nat.pow_le_pow_right (by omega) hk)
  rw [shl_clr f (by omega), nI_and _ _ (by omega) (Nat.lt_of_le_of_lt (Nat.sub_le _ _) (by decide))]
  congr 1
  refine Nat.eq_of_testBit_eq (fun i => ?_)
  rw [Nat.testBit_and, msk_bit, msk_bit, clr_bit f i (by omega)]
  by_cases h : i < k
  · rw [hq i h, decide_eq_true h, decide_eq_true (show i < 32 by omega), Bool.true_and, Bool.true_and, Bool.true_and]
  · rw [decide_eq_false h, Bool.false_and, Bool.false_and]; rfl
theorem msk_congr {P Q : Nat → Bool} : ∀ {k : Nat}, (∀ i, i < k → P i = Q i) → msk P k = msk Q k
  | 0, _ => rfl
  | k + 1, h => by unfold msk; rw [msk_congr (fun i hi => h i (by omega)), h k (by omega)]
theorem msk_0 {P : Nat → Bool} : ∀ {k : Nat}, (∀ i, i < k → P i = false) → msk P k = 0
  | 0, _ => rfl
  | k + 1, h => by unfold msk; rw [msk_0 (fun i hi => h i (by omega)), h k (by omega)]; simp
