/-! demand, airborne, next, who is in a minute -/
section RO2
variable {n v : Nat} {fo ro ra vc os li mo : Mem} {x y : Int32}
/-- the class's sums over twenty places, cut to the flights that there are -/
theorem for_cl {β : Type} (L : Nat → Int32 → Int32 → Option β) (g : Nat → Int32) (hn : n ≤ 20) (E : Int32 → Option β)
    (h1 : ∀ k i a, i < 20 → L (k + 1) a (nI i) = L k (a + if i < n then g i else 0) (nI (i + 1))) (h2 : ∀ k a, L (k + 1) a (nI 20) = E a) : L fl 0 0 = E (sm g n) := by
  have e := for_sum L 20 (fun i => if i < n then g i else 0) E (by omega) h1 h2
  rw [e, sm_cut hn (fun j hj => if_pos hj) (fun j h1 _ => if_neg (by omega))]
theorem Fi_dueIn_s (h : Rf n fo ro (mo 0)) : Fi_dueIn ro x = some (sm (fun f => if mo 0 (8 * f + 1) / 60 = x then 1 else 0) n) := by
  unfold Fi_dueIn
  refine for_cl (fun k a z => Fi_dueIn_b4 ro x k a z) _ h.n20 some (fun k i a hi => ?_) (fun k a => rfl)
  show Fi_dueIn_b4B ro x (Fi_dueIn_b4 ro x k) a (nI i) = _
  unfold Fi_dueIn_b4B
  rw [L20, if_neg (nI_ge hi (by omega)), Fi_isFlight_s h hi, ckI_nI _ hi (by omega), nI_clamp (by omega)]
  simp only [bn1_r, stk_r, nI_1, bI_z]
  by_cases hin : i < n
  · rw [if_pos hin, if_pos hin, h.et hin]
    split <;> rfl
  · rw [if_neg hin, if_neg hin]
theorem Fi_seatedIn_s (h : Rf n fo ro (mo 0)) : Fi_seatedIn fo x = some (sm (fun f => if Pd (mo 0) f ∧ mo 0 (8 * f + 4) / 60 = x then 1 else 0) n) := by
  unfold Fi_seatedIn
  refine for_cl (fun k a z => Fi_seatedIn_b4 fo x k a z) _ h.n20 some (fun k i a hi => ?_) (fun k a => rfl)
  show Fi_seatedIn_b4B fo x (Fi_seatedIn_b4 fo x k) a (nI i) = _
  unfold Fi_seatedIn_b4B
  rw [L20, if_neg (nI_ge hi (by omega)), Fi_isSeated_s h hi, ckI_nI _ hi (by omega), nI_clamp (by omega)]
  simp only [bn1_r, stk_r, nI_1, bI_z]
  by_cases hin : i < n
  · by_cases hp : Pd (mo 0) i
    · rw [if_pos ⟨hin, hp⟩, if_pos hin, (h.pd hin hp).1]
      by_cases hq : mo 0 (8 * i + 4) / 60 = x
      · rw [if_pos hq, if_pos ⟨hp, hq⟩]
      · rw [if_neg hq, if_neg (fun z => hq z.2)]
    · rw [if_neg (fun z => hp z.2), if_pos hin, if_neg (fun z => hp z.1)]
  · rw [if_neg (fun z => hin z.1), if_neg hin]
theorem Mo_demand_0 (hn : n ≤ 20) (hs : mo 0 173 = nI n) : Mo_demand_b42 mo x 0 fl 0 0 = some (sm (fun f => if mo 0 (8 * f + 1) / 60 = x then 1 else 0) n) := by
  refine for_fl (fun k a z => Mo_demand_b42 mo x 0 k a z) _ hn some (fun k i a hi => ?_) (fun k a => ?_)
  · show Mo_demand_b42B mo x 0 (Mo_demand_b42 mo x 0 k) a (nI i) = _
    unfold Mo_demand_b42B
    rw [n173 (mo := mo), k173, hs, if_neg (nI_ge hi (by omega)), if_pos (show (0 : Int32) = 0 from rfl), Mo_of_1 (by omega)]
    simp only [bn1_r, stk_r, nI_1]
    split <;> rfl
  · show Mo_demand_b42B mo x 0 (Mo_demand_b42 mo x 0 k) a (nI n) = _
    unfold Mo_demand_b42B
    rw [n173 (mo := mo), k173, hs, if_pos (nI_le (Nat.le_refl n) (by omega))]
theorem Mo_demand_2 (hn : n ≤ 20) (hs : mo 0 173 = nI n) : Mo_demand_b42 mo x 2 fl 0 0 = some (sm (fun f => if Pd (mo 0) f ∧ mo 0 (8 * f + 4) / 60 = x then 1 else 0) n) := by
  refine for_fl (fun k a z => Mo_demand_b42 mo x 2 k a z) _ hn some (fun k i a hi => ?_) (fun k a => ?_)
  · show Mo_demand_b42B mo x 2 (Mo_demand_b42 mo x 2 k) a (nI i) = _
    unfold Mo_demand_b42B
    rw [n173 (mo := mo), k173, hs, if_neg (nI_ge hi (by omega)), if_neg (show ¬ (2 : Int32) = 0 by decide), Mo_isPlanned_s (by omega), Mo_of_4 (by omega)]
    simp only [bn1_r, stk_r, nI_1, bI_z]
    by_cases hp : Pd (mo 0) i
    · rw [if_pos hp]
      by_cases hq : mo 0 (8 * i + 4) / 60 = x
      · rw [if_pos hq, if_pos ⟨hp, hq⟩]
      · rw [if_neg hq, if_neg (fun z => hq z.2)]
    · rw [if_neg hp, if_neg (fun z => hp z.1)]
  · show Mo_demand_b42B mo x 2 (Mo_demand_b42 mo x 2 k) a (nI n) = _
    unfold Mo_demand_b42B
    rw [n173 (mo := mo), k173, hs, if_pos (nI_le (Nat.le_refl n) (by omega))]
theorem Ra_of_s {f : Nat} (h : Rr ra (mo 0)) (hf : f < 12) : Ra_of ra (nI f) = some (mo 0 (160 + f)) := by
  unfold Ra_of
  rw [St_isHour_s, bn1_r, bI_z, if_pos (in0_nI hf (by omega)), ckI_nI _ hf (by omega), nI_clamp (by omega), h f hf]
theorem n160 {α : Type} {f : Nat} (z : Option α) (h : f < 12) : ckI (160 + nI f) 1452 z = z := by
  rw [show (160 : Int32) = nI 160 from rfl, nI_add]
  exact ckI_nI z (by omega) (by omega)
theorem k160 {f : Nat} (h : f < 12) : (160 + nI f).toNatClampNeg = 160 + f := by
  rw [show (160 : Int32) = nI 160 from rfl, nI_add, nI_clamp (by omega)]
theorem q_demand (h : RF n v fo ro ra vc os li (mo 0)) : ∃ r, St_demand fo ro ra x y = some r ∧ Mo_demand mo x y = some r := by
  have hn := h.f.n20
  have hs := h.f.sn
  unfold St_demand Mo_demand
  rw [St_isHour_s, show (11 : Int32) = nI 11 from rfl, Mo_in0 11 (by omega)]
  simp only [bn1_r, bI_z]
  by_cases hx : in0 x 12
  · rw [if_pos hx, if_pos hx, show (2 : Int32) = nI 2 from rfl, Mo_in0 2 (by omega)]
    obtain ⟨f, hf, rfl⟩ := in0_of hx (by omega)
    simp only [bn1_r, bI_z]
    by_cases hy : in0 y 3
    · rw [if_pos hy]
      obtain ⟨k, hk, rfl⟩ := in0_of hy (by omega)
      rcases (show k = 0 ∨ k = 1 ∨ k = 2 by omega) with rfl | rfl | rfl
      · rw [if_pos (show nI 0 = 0 from rfl), if_neg (show ¬ nI 0 = 1 by decide), Fi_dueIn_s h.f, bn1_r, show nI 0 = (0 : Int32) from rfl, Mo_demand_0 hn hs]
        exact ⟨_, rfl, rfl⟩
      · rw [if_neg (show ¬ nI 1 = 0 by decide), if_pos (show nI 1 = 1 from rfl), if_pos (show nI 1 = 1 from rfl), Ra_of_s h.2.1 hf, bn1_r, n160 _ hf, k160 hf]
        exact ⟨_, rfl, rfl⟩
      · rw [if_neg (show ¬ nI 2 = 0 by decide), if_neg (show ¬ nI 2 = 1 by decide), if_neg (show ¬ nI 2 = 1 by decide), if_pos (show nI 2 = nI 2 from rfl), Fi_seatedIn_s h.f, bn1_r, show nI 2 = (2 : Int32) from rfl, Mo_demand_2 hn hs]
        exact ⟨_, rfl, rfl⟩
    · rw [if_neg hy]
      have hk := sw_no hy (by omega)
      refine ⟨-1, ?_, rfl⟩
      rw [if_neg (show ¬ y = 0 from hk 0 (by omega)), if_neg (show ¬ y = 1 from hk 1 (by omega)), if_neg (hk 2 (by omega))]
  · rw [if_neg hx, if_neg hx]
    exact ⟨_, rfl, rfl⟩
/-- under way at a minute -/
abbrev UW (s : Nat → Int32) (m : Int32) (f : Nat) : Prop := Pd s f ∧ goS s f ≤ m ∧ m < s (8 * f + 4)
theorem Mo_isUnderWay_s {f : Nat} (hf : f < 20) : Mo_isUnderWay mo (nI f) x = some (bI (UW (mo 0) x f)) := by
  unfold Mo_isUnderWay
  rw [Mo_isPlanned_s hf, Mo_offOf_s hf, Mo_of_5 hf, Mo_of_4 hf]
  simp only [bn1_r, bI_z]
  by_cases hp : Pd (mo 0) f
  · rw [if_pos hp]
    by_cases h1 : goS (mo 0) f ≤ x
    · rw [if_neg (Int32.not_lt.mpr h1)]
      by_cases h2 : x < mo 0 (8 * f + 4)
      · rw [if_neg (Int32.not_le.mpr h2), bI_t ⟨hp, h1, h2⟩]
      · rw [if_pos (Int32.not_lt.mp h2), bI_f (fun z => h2 z.2.2)]
    · rw [if_pos (Int32.not_le.mp h1), bI_f (fun z => h1 z.2.1)]
  · rw [if_neg hp, bI_f (fun z => hp z.1)]
theorem msk_tail {P : Nat → Bool} (m : Nat) : ∀ k, (∀ j, m ≤ j → j < m + k → P j = false) → msk P (m + k) = msk P m
  | 0, _ => rfl
  | k + 1, h => by
    show msk P (m + k) ||| (if P (m + k) then 2 ^ (m + k) else 0) = msk P m
    rw [msk_tail m k (fun j h1 h2 => h j h1 (by omega)), h (m + k) (by omega) (by omega)]
    simp
theorem msk_step (P : Nat → Bool) {i : Nat} (hi : i < 20) : nI (msk P (i + 1)) = if P i then nI (msk P i) ||| ((1 : Int32) <<< (nI i &&& 31)) else nI (msk P i) := by
  show nI (msk P i ||| (if P i then 2 ^ i else 0)) = _
  by_cases hp : P i = true
  · rw [if_pos hp, if_pos hp, shl_bit i hi]
    have h1 : msk P i < 2 ^ 20 := Nat.lt_of_lt_of_le (msk_lt P i) (Nat.pow_le_pow_right (by omega) (by omega))
    have h2 := p20 hi
    rw [nI_or _ _ (by omega) (by omega)]
  · rw [if_neg hp, if_neg hp]; simp
/-- who is under way, as bits -/
def uwB (n : Nat) (s : Nat → Int32) (m : Int32) (f : Nat) : Bool := decide (f < n ∧ UW s m f)
theorem Fi_underWay_s (h : Rf n fo ro (mo 0)) : Fi_underWay fo ro x = some (nI (msk (uwB n (mo 0) x) 20)) := by
  unfold Fi_underWay
  have e := for_up (fun k z a => Fi_underWay_b4 fo ro x k a z) 20 (fun i _ => nI (msk (uwB n (mo 0) x) (i + 1))) some (fun i a => a = nI (msk (uwB n (mo 0) x) i)) (fun k i a hi hv => ?_) (fun i a _ _ => rfl) (fun k a hv => rfl) 20 fl 0 0 (by omega) (by rw [fl_v]; omega) rfl
  · refine Eq.trans e (congrArg some ?_)
    rw [iter_succ _ 19]
  · show Fi_underWay_b4B fo ro x (Fi_underWay_b4 fo ro x k) a (nI i) = _
    unfold Fi_underWay_b4B
    rw [L20, if_neg (nI_ge hi (by omega)), Fi_isSeated_s h hi, msk_step _ hi, ← hv]
    simp only [bn1_r, stk_r, nI_1, bI_z]
    by_cases hp : i < n ∧ Pd (mo 0) i
    · rw [if_pos hp, Fi_goesOff_s h hp.1 hp.2, ckI_nI _ hi (by omega), nI_clamp (by omega), (h.pd hp.1 hp.2).1, bn1_r]
      by_cases h1 : goS (mo 0) i ≤ x
      · rw [if_neg (Int32.not_lt.mpr h1)]
        by_cases h2 : x < mo 0 (8 * i + 4)
        · rw [if_neg (Int32.not_le.mpr h2), if_pos (show uwB n (mo 0) x i = true from decide_eq_true ⟨hp.1, hp.2, h1, h2⟩)]
        · rw [if_pos (Int32.not_lt.mp h2), if_neg (show ¬ uwB n (mo 0) x i = true from fun z => h2 (of_decide_eq_true z).2.2.2)]
      · rw [if_pos (Int32.not_le.mp h1), if_neg (show ¬ uwB n (mo 0) x i = true from fun z => h1 (of_decide_eq_true z).2.2.1)]
    · rw [if_neg hp, if_neg (show ¬ uwB n (mo 0) x i = true from fun z => hp ⟨(of_decide_eq_true z).1, (of_decide_eq_true z).2.1⟩)]
theorem Mo_airborne_l (hn : n ≤ 20) (hs : mo 0 173 = nI n) : Mo_airborne_b13 mo x fl 0 0 = some (nI (msk (uwB n (mo 0) x) 20)) := by
  have e := for_up (fun k z a => Mo_airborne_b13 mo x k a z) n (fun i _ => nI (msk (uwB n (mo 0) x) (i + 1))) some (fun i a => a = nI (msk (uwB n (mo 0) x) i)) (fun k i a hi hv => ?_) (fun i a _ _ => rfl) (fun k a hv => ?_) n fl 0 0 (by omega) (by rw [fl_v]; omega) rfl
  · refine Eq.trans e (congrArg some ?_)
    have h1 : iter (fun i (_ : Int32) => nI (msk (uwB n (mo 0) x) (i + 1))) 0 n 0 = nI (msk (uwB n (mo 0) x) n) := by
      cases n with
      | zero => rfl
      | succ m => rw [iter_succ, Nat.zero_add]
    rw [h1, show 20 = n + (20 - n) by omega, msk_tail (P := uwB n (mo 0) x) n (20 - n) (fun j h1 _ => decide_eq_false (fun z => by omega))]
  · show Mo_airborne_b13B mo x (Mo_airborne_b13 mo x k) a (nI i) = _
    unfold Mo_airborne_b13B
    rw [n173 (mo := mo), k173, hs, if_neg (nI_ge hi (by omega)), Mo_isUnderWay_s (by omega), msk_step _ (by omega), ← hv]
    simp only [bn1_r, stk_r, nI_1, bI_z, Int32.or_zero]
    by_cases hu : UW (mo 0) x i
    · rw [if_pos hu, if_pos (show uwB n (mo 0) x i = true from decide_eq_true ⟨hi, hu⟩)]
    · rw [if_neg hu, if_neg (show ¬ uwB n (mo 0) x i = true from fun z => hu (of_decide_eq_true z).2)]
  · show Mo_airborne_b13B mo x (Mo_airborne_b13 mo x k) a (nI n) = _
    unfold Mo_airborne_b13B
    rw [n173 (mo := mo), k173, hs, if_pos (nI_le (Nat.le_refl n) (by omega))]
theorem q_airborne (h : RF n v fo ro ra vc os li (mo 0)) : ∃ r, St_airborne fo ro x = some r ∧ Mo_airborne mo x = some r := by
  unfold St_airborne Mo_airborne
  rw [St_isMinute_s, Mo_isMinute_s]
  simp only [bn1_r, bI_z]
  rw [Fi_underWay_s h.f, Mo_airborne_l h.f.n20 h.f.sn, bn1_r]
  by_cases hx : in0 x 1200
  · rw [if_pos hx]; exact ⟨_, rfl, rfl⟩
  · rw [if_neg hx]; exact ⟨_, rfl, rfl⟩
end RO2
