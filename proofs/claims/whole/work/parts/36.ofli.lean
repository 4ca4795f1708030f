/-! offered, linked -/
section OL
variable {n v : Nat} {fo ro ra vc os li mo : Mem} {x y : Int32}
theorem Of_has_in {i : Nat} (h : Ros os (mo 0)) (hi : i < 8) : Of_has os (nI i) = some (bI (made (mo 0) i = true)) := by
  unfold Of_has
  rw [if_neg (nI_pos (by omega)), if_neg (show ¬ 8 ≤ nI i from nI_ge (b := 8) hi (by omega)), h.1]
  simp only [bit_ask (P := made (mo 0)) (k := 8) (by omega) hi]
  by_cases hm : made (mo 0) i = true
  · rw [if_neg (by rw [hm]; decide), bI_t hm]
  · rw [if_pos (Bool.not_eq_true _ ▸ hm), bI_f hm]
theorem Of_has_out (hx : ¬ in0 x 8) : Of_has os x = some 0 := by
  unfold Of_has
  by_cases h1 : x < 0
  · rw [if_pos h1]
  · rw [if_neg h1, if_pos]
    exact Int32.not_lt.mp (fun z => hx ⟨h1, z⟩)
theorem Mo_isOffer_in {i : Nat} (hi : i < 8) : Mo_isOffer mo (nI i) = some (bI (made (mo 0) i = true)) := by
  unfold Mo_isOffer
  rw [show (7 : Int32) = nI 7 from rfl, Mo_in0 7 (by omega), bn1_r, bI_z, if_pos (in0_nI hi (by omega))]
  rw [show (176 : Int32) + 5 * nI i + 4 = nI (180 + 5 * i) by rw [show (176 : Int32) = nI 176 from rfl, show (5 : Int32) = nI 5 from rfl, show (4 : Int32) = nI 4 from rfl, pk_mul, nI_add, nI_add, show 176 + 5 * i + 4 = 180 + 5 * i by omega], ckI_nI _ (by omega) (by omega), nI_clamp (by omega)]
  unfold made
  by_cases hm : mo 0 (180 + 5 * i) = 1
  · rw [if_pos hm, bI_t (decide_eq_true hm)]
  · rw [if_neg hm, bI_f (fun z => hm (of_decide_eq_true z))]
theorem Mo_isOffer_out (hx : ¬ in0 x 8) : Mo_isOffer mo x = some 0 := by
  unfold Mo_isOffer
  rw [show (7 : Int32) = nI 7 from rfl, Mo_in0 7 (by omega), bn1_r, bI_z, if_neg hx]
theorem Mo_asked_s {i w : Nat} (hi : i < 8) (hw : w < 5) : Mo_asked mo (nI i) (nI w) = some (mo 0 (176 + 5 * i + w)) := by
  unfold Mo_asked
  rw [show (176 : Int32) + 5 * nI i + nI w = nI (176 + 5 * i + w) by rw [show (176 : Int32) = nI 176 from rfl, show (5 : Int32) = nI 5 from rfl, pk_mul, nI_add, nI_add], ckI_nI _ (by omega) (by omega), nI_clamp (by omega)]
theorem q_offered (h : RF n v fo ro ra vc os li (mo 0)) : ∃ r, St_offered os x y = some r ∧ Mo_offered mo x y = some r := by
  unfold St_offered Mo_offered
  by_cases hx : in0 x 8
  · obtain ⟨i, hi, rfl⟩ := in0_of hx (by omega)
    rw [Of_has_in h.2.2.2.2.1 hi, Mo_isOffer_in hi]
    simp only [bn1_r, bI_z]
    by_cases hm : made (mo 0) i = true
    · rw [if_pos hm, if_pos hm, show (3 : Int32) = nI 3 from rfl, Mo_in0 3 (by omega), bn1_r, bI_z]
      obtain ⟨o0, o1, o2, o3⟩ := h.2.2.2.2.1.2 i hi (of_decide_eq_true hm)
      rw [ckI_nI _ hi (by omega), ckI_nI _ hi (by omega), ckI_nI _ hi (by omega), ckI_nI _ hi (by omega), nI_clamp (by omega), o0, o1, o2, o3]
      by_cases hy : in0 y 4
      · rw [if_pos hy]
        obtain ⟨k, hk, rfl⟩ := in0_of hy (by omega)
        rw [Mo_asked_s hi (by omega), bn1_r]
        rcases (show k = 0 ∨ k = 1 ∨ k = 2 ∨ k = 3 by omega) with rfl | rfl | rfl | rfl
        · rw [if_pos (show nI 0 = 0 from rfl)]; exact ⟨_, rfl, rfl⟩
        · rw [if_neg (show ¬ nI 1 = 0 by decide), if_pos (show nI 1 = 1 from rfl), show 176 + 5 * i + 1 = 177 + 5 * i by omega]; exact ⟨_, rfl, rfl⟩
        · rw [if_neg (show ¬ nI 2 = 0 by decide), if_neg (show ¬ nI 2 = 1 by decide), if_pos (show nI 2 = 2 from rfl), show 176 + 5 * i + 2 = 178 + 5 * i by omega]; exact ⟨_, rfl, rfl⟩
        · rw [if_neg (show ¬ nI 3 = 0 by decide), if_neg (show ¬ nI 3 = 1 by decide), if_neg (show ¬ nI 3 = 2 by decide), if_pos (show nI 3 = nI 3 from rfl), show 176 + 5 * i + 3 = 179 + 5 * i by omega]; exact ⟨_, rfl, rfl⟩
      · rw [if_neg hy]
        have hk := sw_no hy (by omega)
        refine ⟨-1, ?_, rfl⟩
        rw [if_neg (show ¬ y = 0 from hk 0 (by omega)), if_neg (show ¬ y = 1 from hk 1 (by omega)), if_neg (show ¬ y = 2 from hk 2 (by omega)), if_neg (hk 3 (by omega))]
    · rw [if_neg hm, if_neg hm]; exact ⟨_, rfl, rfl⟩
  · rw [Of_has_out hx, Mo_isOffer_out hx]; exact ⟨_, rfl, rfl⟩
/-! links -/
/-- what link i lacks -/
def lkS (s : Nat → Int32) (i : Nat) : Int32 := if Pd s (s (216 + 3 * i)).toNatClampNeg ∧ Pd s (s (216 + 3 * i + 1)).toNatClampNeg then mx 0 (s (8 * (s (216 + 3 * i)).toNatClampNeg + 4) + s (216 + 3 * i + 2) - goS s (s (216 + 3 * i + 1)).toNatClampNeg) else -2
theorem sub_sub32 (a b c : Int32) : a - b - c = a - (b + c) := by
  rw [Int32.sub_eq_add_neg, Int32.sub_eq_add_neg, Int32.sub_eq_add_neg, Int32.neg_add, Int32.sub_eq_add_neg, Int32.add_assoc]
theorem Mo_lacks_s {i f g k : Nat} (hi : i < 12) (hf : f < 20) (hg : g < 20) (e1 : mo 0 (216 + 3 * i) = nI f) (e2 : mo 0 (216 + 3 * i + 1) = nI g) (e3 : mo 0 (216 + 3 * i + 2) = nI k) : Mo_lacks mo (nI i) = some (lkS (mo 0) i) := by
  unfold Mo_lacks lkS
  rw [show (216 : Int32) + 3 * nI i = nI (216 + 3 * i) by rw [show (216 : Int32) = nI 216 from rfl, show (3 : Int32) = nI 3 from rfl, pk_mul, nI_add], stk_r, show (2 : Int32) = nI 2 from rfl, nI_1, nI_add]
  simp (disch := omega) only [ckI_nI, nI_clamp, e1, e2, Mo_isPlanned_s hf, Mo_isPlanned_s hg, Mo_of_4 hf, Mo_of_5 hg, Mo_offOf_s hg, bn1_r, bI_z, Mo_more_s]
  by_cases h1 : Pd (mo 0) f
  · rw [if_pos h1]
    by_cases h2 : Pd (mo 0) g
    · rw [if_pos h2, if_pos ⟨h1, h2⟩, sub_sub32]
    · rw [if_neg h2, if_neg (fun z => h2 z.2)]
  · rw [if_neg h1, if_neg (fun z => h1 z.1)]
theorem Li_has_s {L : Nat} (hL : L ≤ 12) (h : li 3 0 = nI L) : Li_has li x = some (bI (in0 x L)) := by
  unfold Li_has
  rw [h]
  by_cases h1 : x < 0
  · rw [if_pos h1, bI_f (fun z => z.1 h1)]
  · rw [if_neg h1]
    by_cases h2 : nI L ≤ x
    · rw [if_pos h2, bI_f (fun z => absurd z.2 (Int32.not_lt.mpr h2))]
    · rw [if_neg h2, bI_t ⟨h1, Int32.not_le.mp h2⟩, show (12 : Int32) = nI 12 from rfl, if_neg]
      exact fun h3 => absurd (Int32.lt_of_lt_of_le (Int32.not_le.mp h2) (nI_le hL (by omega))) (Int32.not_lt.mpr h3)
theorem Fi_lackOf_s {i L f g k : Nat} (h : Rf n fo ro (mo 0)) (hl : Rl li (mo 0)) (hL : L ≤ 12) (eL : mo 0 175 = nI L) (hi : i < L) (hf : f < n) (hg : g < n) (e1 : mo 0 (216 + 3 * i) = nI f) (e2 : mo 0 (216 + 3 * i + 1) = nI g) (e3 : mo 0 (216 + 3 * i + 2) = nI k) : Fi_lackOf fo ro li (nI i) = some (lkS (mo 0) i) := by
  have hn := h.n20
  obtain ⟨l0, l1, l2⟩ := hl.2 L i eL hL hi
  unfold Fi_lackOf lkS
  rw [Li_has_s hL (hl.1.trans eL), bn1_r, bI_z, if_pos (in0_nI hi (by omega)), ckI_nI _ (by omega) (by omega), nI_clamp (show i < 2 ^ 31 by omega), l0, l1, l2, e1, e2, stk_r, stk_r, Fi_isSeated_s h (by omega), Fi_isSeated_s h (by omega), bn1_r, bn1_r, bI_z, bI_z, nI_clamp (by omega), nI_clamp (by omega)]
  by_cases h1 : Pd (mo 0) f
  · rw [if_pos (And.intro hf h1)]
    by_cases h2 : Pd (mo 0) g
    · rw [if_pos (And.intro hg h2), if_pos ⟨h1, h2⟩, ckI_nI _ (by omega) (by omega), Fi_goesOff_s h hg h2, bn1_r, (h.pd hf h1).1]
      rfl
    · rw [if_neg (fun z => h2 z.2), if_neg (fun z => h2 z.2)]
  · rw [if_neg (fun z => h1 z.2), if_neg (fun z => h1 z.1)]
theorem q_linked (h : RF n v fo ro ra vc os li (mo 0)) : ∃ r, St_linked fo ro li x y = some r ∧ Mo_linked mo x y = some r := by
  have hn := h.f.n20
  obtain ⟨L, hL, eL, hlk⟩ := h.j.2.2.2.2.2.2.2.2
  have hl : Rl li (mo 0) := h.2.2.2.2.2.1
  unfold St_linked Mo_linked
  rw [n175, k175, eL, Mo_in_s, Li_has_s hL (hl.1.trans eL), show bI (¬ x < 0 ∧ ¬ nI L - 1 < x) = bI (in0 x L) from bI_iff ((in_flight (by omega)).trans (inN_of (by omega)).symm)]
  simp only [bn1_r, bI_z]
  by_cases hx : in0 x L
  · rw [if_pos hx, if_pos hx]
    obtain ⟨i, hi, rfl⟩ := in0_of hx (by omega)
    obtain ⟨f, g, k, hf, hg, hk, e1, e2, e3⟩ := hlk i hi
    obtain ⟨l0, l1, l2⟩ := hl.2 L i eL hL hi
    rw [Fi_lackOf_s h.f hl hL eL hi hf hg e1 e2 e3, Mo_lacks_s (by omega) (by omega) (by omega) e1 e2 e3, ckI_nI _ (by omega) (by omega), ckI_nI _ (by omega) (by omega), ckI_nI _ (by omega) (by omega), nI_clamp (by omega), l0, l1, l2, show (4 : Int32) = nI 4 from rfl, Mo_in0 4 (by omega)]
    simp only [bn1_r, bI_z]
    by_cases hy : in0 y 5
    · rw [if_pos hy]
      obtain ⟨w, hw, rfl⟩ := in0_of hy (by omega)
      by_cases h3 : w < 3
      · rw [if_neg (show ¬ 3 ≤ nI w from nI_ge (b := 3) h3 (by omega)), show (216 : Int32) + 3 * nI i + nI w = nI (216 + 3 * i + w) by rw [show (216 : Int32) = nI 216 from rfl, show (3 : Int32) = nI 3 from rfl, pk_mul, nI_add, nI_add], ckI_nI _ (by omega) (by omega), nI_clamp (by omega)]
        rcases (show w = 0 ∨ w = 1 ∨ w = 2 by omega) with rfl | rfl | rfl
        · rw [if_pos (show nI 0 = 0 from rfl)]; exact ⟨_, rfl, rfl⟩
        · rw [if_neg (show ¬ nI 1 = 0 by decide), if_pos (show nI 1 = 1 from rfl)]; exact ⟨_, rfl, rfl⟩
        · rw [if_neg (show ¬ nI 2 = 0 by decide), if_neg (show ¬ nI 2 = 1 by decide), if_pos (show nI 2 = 2 from rfl)]; exact ⟨_, rfl, rfl⟩
      · rw [if_pos (show 3 ≤ nI w from nI_le (a := 3) (by omega) (by omega))]
        rcases (show w = 3 ∨ w = 4 by omega) with rfl | rfl
        · rw [if_neg (show ¬ nI 3 = 0 by decide), if_neg (show ¬ nI 3 = 1 by decide), if_neg (show ¬ nI 3 = 2 by decide), if_pos (show nI 3 = 3 from rfl), if_neg (show ¬ nI 3 = nI 4 by decide)]
          by_cases h0 : lkS (mo 0) i = 0
          · rw [if_pos h0]; exact ⟨_, rfl, rfl⟩
          · rw [if_neg h0]; exact ⟨_, rfl, rfl⟩
        · rw [if_neg (show ¬ nI 4 = 0 by decide), if_neg (show ¬ nI 4 = 1 by decide), if_neg (show ¬ nI 4 = 2 by decide), if_neg (show ¬ nI 4 = 3 by decide), if_pos (show nI 4 = nI 4 from rfl), if_pos (show nI 4 = nI 4 from rfl)]
          exact ⟨_, rfl, rfl⟩
    · rw [if_neg hy]
      have hk := sw_no hy (by omega)
      refine ⟨-1, ?_, rfl⟩
      rw [if_neg (show ¬ y = 0 from hk 0 (by omega)), if_neg (show ¬ y = 1 from hk 1 (by omega)), if_neg (show ¬ y = 2 from hk 2 (by omega)), if_neg (show ¬ y = 3 from hk 3 (by omega)), if_neg (hk 4 (by omega))]
  · rw [if_neg hx, if_neg hx]; exact ⟨_, rfl, rfl⟩
/-- how many links don't hold -/
def brS (s : Nat → Int32) (L : Nat) : Int32 := sm (fun i => if lkS s i = 0 then 0 else 1) L
theorem Mo_broken_s {L : Nat} (hn : n ≤ 20) (hL : L ≤ 12) (eL : mo 0 175 = nI L) (hlk : ∀ i, i < L → ∃ f g k, f < n ∧ g < n ∧ k ≤ 300 ∧ mo 0 (216 + 3 * i) = nI f ∧ mo 0 (216 + 3 * i + 1) = nI g ∧ mo 0 (216 + 3 * i + 2) = nI k) : Mo_broken mo = some (brS (mo 0) L) := by
  unfold Mo_broken
  refine for_sum (fun k a z => Mo_broken_b4 mo k a z) L _ some (by omega) (fun k i a hi => ?_) (fun k a => ?_)
  · show Mo_broken_b4B mo (Mo_broken_b4 mo k) a (nI i) = _
    obtain ⟨f, g, kk, hf, hg, hk, e1, e2, e3⟩ := hlk i hi
    unfold Mo_broken_b4B
    rw [n175, k175, eL, if_neg (nI_ge hi (by omega)), Mo_lacks_s (by omega) (by omega) (by omega) e1 e2 e3]
    simp only [bn1_r, stk_r, nI_1]
    split <;> rfl
  · show Mo_broken_b4B mo (Mo_broken_b4 mo k) a (nI L) = _
    unfold Mo_broken_b4B
    rw [n175, k175, eL, if_pos (nI_le (Nat.le_refl L) (by omega))]
theorem Fi_countBroken_s {L : Nat} (h : Rf n fo ro (mo 0)) (hl : Rl li (mo 0)) (hL : L ≤ 12) (eL : mo 0 175 = nI L) (hlk : ∀ i, i < L → ∃ f g k, f < n ∧ g < n ∧ k ≤ 300 ∧ mo 0 (216 + 3 * i) = nI f ∧ mo 0 (216 + 3 * i + 1) = nI g ∧ mo 0 (216 + 3 * i + 2) = nI k) : Fi_countBroken fo ro li = some (brS (mo 0) L) := by
  unfold Fi_countBroken
  refine for_sum (fun k a z => Fi_countBroken_b4 fo ro li k a z) L _ some (by omega) (fun k i a hi => ?_) (fun k a => ?_)
  · show Fi_countBroken_b4B fo ro li (Fi_countBroken_b4 fo ro li k) a (nI i) = _
    obtain ⟨f, g, kk, hf, hg, hk, e1, e2, e3⟩ := hlk i hi
    unfold Fi_countBroken_b4B
    rw [hl.1, eL, if_neg (nI_ge hi (by omega)), Fi_lackOf_s h hl hL eL hi hf hg e1 e2 e3]
    simp only [bn1_r, stk_r, nI_1]
    split <;> rfl
  · show Fi_countBroken_b4B fo ro li (Fi_countBroken_b4 fo ro li k) a (nI L) = _
    unfold Fi_countBroken_b4B
    rw [hl.1, eL, if_pos (nI_le (Nat.le_refl L) (by omega))]
end OL
