/-! sums and the like over the flights: the reference -/
section MS
variable {mo : Mem} {n : Nat}
theorem sp_add {α : Type} {c : Prop} [Decidable c] (k : Int32 → α) (a v : Int32) : (if c then k (a + v) else k (a + 0)) = k (a + if c then v else 0) := by split <;> rfl
theorem sp_add2 {α : Type} {c : Prop} [Decidable c] (k : Int32 → α) (a v : Int32) : (if c then k (a + 0) else k (a + v)) = k (a + if c then 0 else v) := by split <;> rfl
theorem n175 {α : Type} (x : Option α) : ckI 175 1452 x = x := ckI_nI (i := 175) x (by omega) (by omega)
theorem k175 : (175 : Int32).toNatClampNeg = 175 := by decide
theorem Mo_lineCost_s (p1 : Int32) (hn : n ≤ 20) (hs : mo 0 173 = nI n) : Mo_lineCost mo p1 = some (sm (fun f => if mo 0 (8 * f) = p1 then coS (mo 0) f else 0) n) := by
  unfold Mo_lineCost
  refine for_fl (fun k a x => Mo_lineCost_b4 mo p1 k a x) _ hn some (fun k i a hi => ?_) (fun k a => ?_)
  · show Mo_lineCost_b4B mo p1 (Mo_lineCost_b4 mo p1 k) a (nI i) = _
    have h20 : i < 20 := by omega
    unfold Mo_lineCost_b4B
    rw [n173 (mo := mo), k173, hs, if_neg (nI_ge hi (by omega)), Mo_of_0 h20, Mo_cost_s h20]
    simp only [bn1_r, stk_r, nI_1, bI_z]
    repeat' split
    all_goals first | rfl | (simp_all; done)
  · show Mo_lineCost_b4B mo p1 (Mo_lineCost_b4 mo p1 k) a (nI n) = _
    unfold Mo_lineCost_b4B
    rw [n173 (mo := mo), k173, hs, if_pos (nI_le (Nat.le_refl n) (by omega))]
theorem Mo_allCost_s (hn : n ≤ 20) (hs : mo 0 173 = nI n) : Mo_allCost mo  = some (sm (fun f => coS (mo 0) f) n) := by
  unfold Mo_allCost
  refine for_fl (fun k a x => Mo_allCost_b4 mo  k a x) _ hn some (fun k i a hi => ?_) (fun k a => ?_)
  · show Mo_allCost_b4B mo  (Mo_allCost_b4 mo  k) a (nI i) = _
    have h20 : i < 20 := by omega
    unfold Mo_allCost_b4B
    rw [n173 (mo := mo), k173, hs, if_neg (nI_ge hi (by omega)), Mo_cost_s h20]
    simp only [bn1_r, stk_r, nI_1, bI_z]
    repeat' split
    all_goals first | rfl | (simp_all; done)
  · show Mo_allCost_b4B mo  (Mo_allCost_b4 mo  k) a (nI n) = _
    unfold Mo_allCost_b4B
    rw [n173 (mo := mo), k173, hs, if_pos (nI_le (Nat.le_refl n) (by omega))]
theorem Mo_lineWaits_s (p1 : Int32) (hn : n ≤ 20) (hs : mo 0 173 = nI n) : Mo_lineWaits mo p1 = some (sm (fun f => if mo 0 (8 * f) = p1 then waS (mo 0) f else 0) n) := by
  unfold Mo_lineWaits
  refine for_fl (fun k a x => Mo_lineWaits_b4 mo p1 k a x) _ hn some (fun k i a hi => ?_) (fun k a => ?_)
  · show Mo_lineWaits_b4B mo p1 (Mo_lineWaits_b4 mo p1 k) a (nI i) = _
    have h20 : i < 20 := by omega
    unfold Mo_lineWaits_b4B
    rw [n173 (mo := mo), k173, hs, if_neg (nI_ge hi (by omega)), Mo_of_0 h20, Mo_waits_s h20]
    simp only [bn1_r, stk_r, nI_1, bI_z]
    repeat' split
    all_goals first | rfl | (simp_all; done)
  · show Mo_lineWaits_b4B mo p1 (Mo_lineWaits_b4 mo p1 k) a (nI n) = _
    unfold Mo_lineWaits_b4B
    rw [n173 (mo := mo), k173, hs, if_pos (nI_le (Nat.le_refl n) (by omega))]
theorem Mo_lineFlights_s (p1 : Int32) (hn : n ≤ 20) (hs : mo 0 173 = nI n) : Mo_lineFlights mo p1 = some (sm (fun f => if mo 0 (8 * f) = p1 ∧ Pd (mo 0) f then 1 else 0) n) := by
  unfold Mo_lineFlights
  refine for_fl (fun k a x => Mo_lineFlights_b4 mo p1 k a x) _ hn some (fun k i a hi => ?_) (fun k a => ?_)
  · show Mo_lineFlights_b4B mo p1 (Mo_lineFlights_b4 mo p1 k) a (nI i) = _
    have h20 : i < 20 := by omega
    unfold Mo_lineFlights_b4B
    rw [n173 (mo := mo), k173, hs, if_neg (nI_ge hi (by omega)), Mo_of_0 h20, Mo_isPlanned_s h20]
    simp only [bn1_r, stk_r, nI_1, bI_z]
    repeat' split
    all_goals first | rfl | (simp_all; done)
  · show Mo_lineFlights_b4B mo p1 (Mo_lineFlights_b4 mo p1 k) a (nI n) = _
    unfold Mo_lineFlights_b4B
    rw [n173 (mo := mo), k173, hs, if_pos (nI_le (Nat.le_refl n) (by omega))]
theorem Mo_allOf_s (w : Nat) (hw : w < 8) (hn : n ≤ 20) (hs : mo 0 173 = nI n) : Mo_allOf mo (nI w) = some (sm (fun f => if Pd (mo 0) f then mo 0 (8 * f + w) else 0) n) := by
  unfold Mo_allOf
  refine for_fl (fun k a x => Mo_allOf_b4 mo (nI w) k a x) _ hn some (fun k i a hi => ?_) (fun k a => ?_)
  · show Mo_allOf_b4B mo (nI w) (Mo_allOf_b4 mo (nI w) k) a (nI i) = _
    have h20 : i < 20 := by omega
    unfold Mo_allOf_b4B
    rw [n173 (mo := mo), k173, hs, if_neg (nI_ge hi (by omega)), Mo_isPlanned_s h20, Mo_of_s (by omega)]
    simp only [bn1_r, stk_r, nI_1, bI_z]
    repeat' split
    all_goals first | rfl | (simp_all; done)
  · show Mo_allOf_b4B mo (nI w) (Mo_allOf_b4 mo (nI w) k) a (nI n) = _
    unfold Mo_allOf_b4B
    rw [n173 (mo := mo), k173, hs, if_pos (nI_le (Nat.le_refl n) (by omega))]
/-- the greatest, from 0 on -/
def gr (g : Nat → Int32) : Nat → Int32
  | 0 => 0
  | n + 1 => mx (gr g n) (g n)
theorem gr_iter (g : Nat → Int32) : ∀ m : Nat, iter (fun i b => mx b (g i)) 0 m 0 = gr g m
  | 0 => rfl
  | m + 1 => by
    rw [iter_succ, gr_iter g m]
    show mx (gr g m) (g (0 + m)) = mx (gr g m) (g m)
    rw [Nat.zero_add]
theorem for_gr {β : Type} (L : Nat → Int32 → Int32 → Option β) (N : Nat) (g : Nat → Int32) (E : Int32 → Option β) (hN : N < 900000)
    (h1 : ∀ n i a, i < N → L (n + 1) a (nI i) = L n (mx a (g i)) (nI (i + 1))) (h2 : ∀ n a, L (n + 1) a (nI N) = E a) : L fl 0 0 = E (gr g N) := by
  have h := for_up (fun n x a => L n a x) N (fun i a => mx a (g i)) E (fun _ _ => True) (fun n i a hi _ => h1 n i a hi) (fun _ _ _ _ => trivial) (fun n a _ => h2 n a) N fl 0 0 (by omega) (by rw [fl_v]; omega) trivial
  rw [gr_iter] at h
  exact h
theorem Mo_longest_s (hn : n ≤ 20) (hs : mo 0 173 = nI n) : Mo_longest mo = some (gr (waS (mo 0)) n) := by
  unfold Mo_longest
  refine for_gr (fun k a x => Mo_longest_b4 mo k a x) n _ some (by omega) (fun k i a hi => ?_) (fun k a => ?_)
  · show Mo_longest_b4B mo (Mo_longest_b4 mo k) a (nI i) = _
    have h20 : i < 20 := by omega
    unfold Mo_longest_b4B
    rw [n173 (mo := mo), k173, hs, if_neg (nI_ge hi (by omega)), Mo_waits_s h20]
    simp only [bn1_r, stk_r, nI_1, Mo_more_s]
  · show Mo_longest_b4B mo (Mo_longest_b4 mo k) a (nI n) = _
    unfold Mo_longest_b4B
    rw [n173 (mo := mo), k173, hs, if_pos (nI_le (Nat.le_refl n) (by omega))]
theorem mx_self (a : Int32) : mx a a = a := by unfold mx; split <;> rfl
theorem Mo_lastSlot_s (hn : n ≤ 20) (hs : mo 0 173 = nI n) : Mo_lastSlot mo = some (iter (fun f a => if Pd (mo 0) f then mx a (mo 0 (8 * f + 4)) else a) 0 n 0) := by
  unfold Mo_lastSlot
  have h := for_up (fun k x a => Mo_lastSlot_b4 mo k a x) n (fun f a => if Pd (mo 0) f then mx a (mo 0 (8 * f + 4)) else a) some (fun _ _ => True) (fun k i a hi _ => ?_) (fun _ _ _ _ => trivial) (fun k a _ => ?_) n fl 0 0 (by omega) (by rw [fl_v]; omega) trivial
  · exact h
  · show Mo_lastSlot_b4B mo (Mo_lastSlot_b4 mo k) a (nI i) = _
    have h20 : i < 20 := by omega
    unfold Mo_lastSlot_b4B
    rw [n173 (mo := mo), k173, hs, if_neg (nI_ge hi (by omega)), Mo_isPlanned_s h20, Mo_of_4 h20]
    simp only [bn1_r, stk_r, nI_1, bI_z, Mo_more_s]
    split <;> rfl
  · show Mo_lastSlot_b4B mo (Mo_lastSlot_b4 mo k) a (nI n) = _
    unfold Mo_lastSlot_b4B
    rw [n173 (mo := mo), k173, hs, if_pos (nI_le (Nat.le_refl n) (by omega))]
end MS
