/-! calls that change nothing: told, line, demand .. -/
section RO1
variable {n v : Nat} {fo ro ra vc os li mo : Mem} {x y : Int32}
theorem RF.f (h : RF n v fo ro ra vc os li (mo 0)) : Rf n fo ro (mo 0) := h.1
theorem RF.j (h : RF n v fo ro ra vc os li (mo 0)) : J n (mo 0) := h.2.2.2.2.2.2
theorem Fi_isCancelled_s {f : Nat} (h : RF n v fo ro ra vc os li (mo 0)) (hf : f < 20) : Fi_isCancelled fo ro (nI f) = some (bI (f < n ∧ mo 0 (8 * f + 7) = 1)) := by
  unfold Fi_isCancelled
  rw [Fi_isFlight_s h.f hf, h.2.2.1.2]
  simp only [bn1_r, bI_z, bit_ask (P := gone n (mo 0)) (k := 20) (Nat.le_refl 20) hf]
  by_cases h1 : f < n
  · rw [if_pos h1]
    by_cases h2 : mo 0 (8 * f + 7) = 1
    · rw [if_neg (by simp [gone, h1, h2]), bI_t ⟨h1, h2⟩]
    · rw [if_pos (by simp [gone, h2]), bI_f (fun z => h2 z.2)]
  · rw [if_neg h1, bI_f (fun z => h1 z.1)]
theorem g01 {f : Nat} (h : J n (mo 0)) (hf : f < n) : mo 0 (8 * f + 7) = 0 ∨ mo 0 (8 * f + 7) = 1 := by
  rcases h.2.2.1 f hf with z | z
  · exact Or.inl z.1
  · exact z.1
theorem gsel {f : Nat} (h : J n (mo 0)) (hf : f < n) : (if mo 0 (8 * f + 7) = 1 then some (1 : Int32) else some 0) = some (mo 0 (8 * f + 7)) := by
  rcases g01 h hf with e | e
  · rw [e]; rfl
  · rw [if_pos e, e]
theorem sw_no {N : Nat} (h : ¬ in0 y N) (hN : N < 2 ^ 31) (k : Nat) (hk : k < N) : ¬ y = nI k := fun e => h (by rw [e]; exact in0_nI hk hN)
theorem q_told (h : RF n v fo ro ra vc os li (mo 0)) : ∃ r, St_told fo ro x y = some r ∧ Mo_told mo x y = some r := by
  have hn := h.f.n20
  unfold St_told Mo_told
  rw [Fi_isFlight_x hn h.f.rn, Mo_isFlight_s hn h.f.sn, show (10 : Int32) = nI 10 from rfl, Mo_in0 10 (by omega)]
  simp only [bn1_r, bI_z]
  by_cases hx : in0 x n
  · rw [if_pos hx, if_pos hx]
    obtain ⟨f, hf, rfl⟩ := in0_of hx (by omega)
    have hf20 : f < 20 := by omega
    by_cases hy : in0 y 11
    · rw [if_pos hy]
      obtain ⟨k, hk, rfl⟩ := in0_of hy (by omega)
      simp only [Mo_of_0 hf20, Mo_of_1 hf20, Mo_of_2 hf20, Mo_of_3 hf20, Mo_of_4 hf20, Mo_of_5 hf20, Mo_of_6 hf20, Mo_of_7 hf20, Mo_isPlanned_s hf20, Mo_earliest_s hf20, Mo_isAir_s hf20, Mo_cost_s hf20, Fi_isSeated_s h.f hf20, Fi_isAloft_s h.f hf20, Fi_isCancelled_s h hf20, Fi_costOf_s h.f hf, Fi_earliest_s h.f hf, bn1_r, ckI_nI _ hf20 (show 20 < 2 ^ 31 by decide), nI_clamp (show f < 2 ^ 31 by omega), h.f.ln hf, h.f.et hf, h.f.tm hf, h.f.wt hf, bI_z, hf, true_and, gsel h.j hf]
      by_cases hp : Pd (mo 0) f
      · obtain ⟨p5, p6, p7⟩ := h.f.pd hf hp
        simp only [if_pos hp, p5, p6, p7]
        rcases (show k = 0 ∨ k = 1 ∨ k = 2 ∨ k = 3 ∨ k = 4 ∨ k = 5 ∨ k = 6 ∨ k = 7 ∨ k = 8 ∨ k = 9 ∨ k = 10 by omega) with rfl | rfl | rfl | rfl | rfl | rfl | rfl | rfl | rfl | rfl | rfl
        all_goals simp (disch := decide) only [L2, L3, L4, L5, L6, L7, L8, L9, L10, L12, L20, L31, L32, L59, L60, L65, L80, L97, L100, L160, L172, L173, L174, L175, L176, L216, L252, L255, L300, L319, L320, L720, L719, L1000, L1199, L1200, L1452, L13068, L65535, L65536, nI_zero, nI_one, nI_eqP, Nat.reduceEqDiff, if_true, if_false, reduceIte]
        all_goals first | exact ⟨_, rfl, rfl⟩ | (split <;> exact ⟨_, rfl, rfl⟩)
      · simp only [if_neg hp]
        rcases (show k = 0 ∨ k = 1 ∨ k = 2 ∨ k = 3 ∨ k = 4 ∨ k = 5 ∨ k = 6 ∨ k = 7 ∨ k = 8 ∨ k = 9 ∨ k = 10 by omega) with rfl | rfl | rfl | rfl | rfl | rfl | rfl | rfl | rfl | rfl | rfl
        all_goals simp (disch := decide) only [L2, L3, L4, L5, L6, L7, L8, L9, L10, L12, L20, L31, L32, L59, L60, L65, L80, L97, L100, L160, L172, L173, L174, L175, L176, L216, L252, L255, L300, L319, L320, L720, L719, L1000, L1199, L1200, L1452, L13068, L65535, L65536, nI_zero, nI_one, nI_eqP, Nat.reduceEqDiff, if_true, if_false, reduceIte]
        all_goals first | exact ⟨_, rfl, rfl⟩ | (split <;> exact ⟨_, rfl, rfl⟩)
    · rw [if_neg hy]
      have hk := sw_no hy (by omega)
      refine ⟨-1, ?_, rfl⟩
      rw [if_neg (show ¬ y = 0 from hk 0 (by omega)), if_neg (show ¬ y = 1 from hk 1 (by omega)), if_neg (show ¬ y = 2 from hk 2 (by omega)), if_neg (show ¬ y = 3 from hk 3 (by omega)), if_neg (show ¬ y = 4 from hk 4 (by omega)), if_neg (show ¬ y = 5 from hk 5 (by omega)), if_neg (show ¬ y = 6 from hk 6 (by omega)), if_neg (show ¬ y = 7 from hk 7 (by omega)), if_neg (show ¬ y = 8 from hk 8 (by omega)), if_neg (show ¬ y = 9 from hk 9 (by omega)), if_neg (hk 10 (by omega))]
  · rw [if_neg hx, if_neg hx]
    exact ⟨_, rfl, rfl⟩
end RO1
