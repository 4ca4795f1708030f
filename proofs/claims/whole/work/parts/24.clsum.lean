/-! sums over the flights: the class -/
section CS
variable {fo ro : Mem} {s : Nat → Int32} {n : Nat}
theorem Fi_lineCost_s (h : Rf n fo ro s) (p1 : Int32) : Fi_lineCost fo ro p1 = some (sm (fun f => if s (8 * f) = p1 then coS s f else 0) n) := by
  have hn := h.n20
  have e : Fi_lineCost fo ro p1 = some (sm (fun f => if f < n then if s (8 * f) = p1 then coS s f else 0 else 0) 20) := by
    unfold Fi_lineCost
    refine for_sum (fun k a x => Fi_lineCost_b4 fo ro p1 k a x) 20 _ some (by omega) (fun k i a hi => ?_) (fun k a => ?_)
    · show Fi_lineCost_b4B fo ro p1 (Fi_lineCost_b4 fo ro p1 k) a (nI i) = _
      unfold Fi_lineCost_b4B
      rw [L20, if_neg (nI_ge hi (by omega)), Fi_isOf_s h hi, Fi_isSeated_s h hi]
      simp only [bn1_r, stk_r, nI_1, bI_z]
      by_cases hin : i < n
      · rw [Fi_costOf_s h hin]
        unfold coS
        simp only [hin, true_and, if_true, bn1_r, stk_r, nI_1, bI_z]
        repeat' split
        all_goals first | rfl | (simp_all; done)
      · simp only [hin, false_and, if_false]
    · rfl
  rw [e]
  exact congrArg some (sm_cut hn (fun j hj => if_pos hj) (fun j h1 _ => if_neg (by omega)))
theorem Fi_waitsOf_s (h : Rf n fo ro s) (p1 : Int32) : Fi_waitsOf fo ro p1 = some (sm (fun f => if s (8 * f) = p1 then waS s f else 0) n) := by
  have hn := h.n20
  have e : Fi_waitsOf fo ro p1 = some (sm (fun f => if f < n then if s (8 * f) = p1 then waS s f else 0 else 0) 20) := by
    unfold Fi_waitsOf
    refine for_sum (fun k a x => Fi_waitsOf_b4 fo ro p1 k a x) 20 _ some (by omega) (fun k i a hi => ?_) (fun k a => ?_)
    · show Fi_waitsOf_b4B fo ro p1 (Fi_waitsOf_b4 fo ro p1 k) a (nI i) = _
      unfold Fi_waitsOf_b4B
      rw [L20, if_neg (nI_ge hi (by omega)), Fi_isOf_s h hi, Fi_isSeated_s h hi, Fi_waitOf_s h hi]
      simp only [bn1_r, stk_r, nI_1, bI_z]
      by_cases hin : i < n
      · unfold waS
        simp only [hin, true_and, if_true, bn1_r, stk_r, nI_1, bI_z]
        repeat' split
        all_goals first | rfl | (simp_all; done)
      · simp only [hin, false_and, if_false]
    · rfl
  rw [e]
  exact congrArg some (sm_cut hn (fun j hj => if_pos hj) (fun j h1 _ => if_neg (by omega)))
theorem Fi_seatedOf_s (h : Rf n fo ro s) (p1 : Int32) : Fi_seatedOf fo ro p1 = some (sm (fun f => if s (8 * f) = p1 ∧ Pd s f then 1 else 0) n) := by
  have hn := h.n20
  have e : Fi_seatedOf fo ro p1 = some (sm (fun f => if f < n then if s (8 * f) = p1 ∧ Pd s f then 1 else 0 else 0) 20) := by
    unfold Fi_seatedOf
    refine for_sum (fun k a x => Fi_seatedOf_b4 fo ro p1 k a x) 20 _ some (by omega) (fun k i a hi => ?_) (fun k a => ?_)
    · show Fi_seatedOf_b4B fo ro p1 (Fi_seatedOf_b4 fo ro p1 k) a (nI i) = _
      unfold Fi_seatedOf_b4B
      rw [L20, if_neg (nI_ge hi (by omega)), Fi_isOf_s h hi, Fi_isSeated_s h hi]
      simp only [bn1_r, stk_r, nI_1, bI_z]
      by_cases hin : i < n
      · skip
        simp only [hin, true_and, if_true, bn1_r, stk_r, nI_1, bI_z]
        repeat' split
        all_goals first | rfl | (simp_all; done)
      · simp only [hin, false_and, if_false]
    · rfl
  rw [e]
  exact congrArg some (sm_cut hn (fun j hj => if_pos hj) (fun j h1 _ => if_neg (by omega)))
theorem Fi_flightsOf_s (h : Rf n fo ro s) (p1 : Int32) : Fi_flightsOf ro p1 = some (sm (fun f => if s (8 * f) = p1 then 1 else 0) n) := by
  have hn := h.n20
  have e : Fi_flightsOf ro p1 = some (sm (fun f => if f < n then if s (8 * f) = p1 then 1 else 0 else 0) 20) := by
    unfold Fi_flightsOf
    refine for_sum (fun k a x => Fi_flightsOf_b4 ro p1 k a x) 20 _ some (by omega) (fun k i a hi => ?_) (fun k a => ?_)
    · show Fi_flightsOf_b4B ro p1 (Fi_flightsOf_b4 ro p1 k) a (nI i) = _
      unfold Fi_flightsOf_b4B
      rw [L20, if_neg (nI_ge hi (by omega)), Fi_isOf_s h hi]
      simp only [bn1_r, stk_r, nI_1, bI_z]
      by_cases hin : i < n
      · skip
        simp only [hin, true_and, if_true, bn1_r, stk_r, nI_1, bI_z]
        repeat' split
        all_goals first | rfl | (simp_all; done)
      · simp only [hin, false_and, if_false]
    · rfl
  rw [e]
  exact congrArg some (sm_cut hn (fun j hj => if_pos hj) (fun j h1 _ => if_neg (by omega)))
theorem Fi_aloftOf_s (h : Rf n fo ro s) (p1 : Int32) : Fi_aloftOf fo ro p1 = some (sm (fun f => if s (8 * f) = p1 ∧ Air s f then 1 else 0) n) := by
  have hn := h.n20
  have e : Fi_aloftOf fo ro p1 = some (sm (fun f => if f < n then if s (8 * f) = p1 ∧ Air s f then 1 else 0 else 0) 20) := by
    unfold Fi_aloftOf
    refine for_sum (fun k a x => Fi_aloftOf_b4 fo ro p1 k a x) 20 _ some (by omega) (fun k i a hi => ?_) (fun k a => ?_)
    · show Fi_aloftOf_b4B fo ro p1 (Fi_aloftOf_b4 fo ro p1 k) a (nI i) = _
      unfold Fi_aloftOf_b4B
      rw [L20, if_neg (nI_ge hi (by omega)), Fi_isOf_s h hi, Fi_isAloft_s h hi]
      simp only [bn1_r, stk_r, nI_1, bI_z]
      by_cases hin : i < n
      · skip
        simp only [hin, true_and, if_true, bn1_r, stk_r, nI_1, bI_z]
        repeat' split
        all_goals first | rfl | (simp_all; done)
      · simp only [hin, false_and, if_false]
    · rfl
  rw [e]
  exact congrArg some (sm_cut hn (fun j hj => if_pos hj) (fun j h1 _ => if_neg (by omega)))
end CS
