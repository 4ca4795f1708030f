/-! count -/
section CO
variable {n v : Nat} {fo ro ra vc os li mo bsa smm : Mem} {x y : Int32}
theorem sm_add (g h : Nat → Int32) : ∀ m, sm (fun l => g l + h l) m = sm g m + sm h m
  | 0 => rfl
  | m + 1 => by
    show sm (fun l => g l + h l) m + (g m + h m) = sm g m + g m + (sm h m + h m)
    rw [sm_add g h m, Int32.add_assoc, Int32.add_assoc, ← Int32.add_assoc (sm h m), Int32.add_comm (sm h m), Int32.add_assoc]
theorem sm_zero : ∀ m, sm (fun _ => 0) m = 0
  | 0 => rfl
  | m + 1 => by
    show sm (fun _ => 0) m + 0 = 0
    rw [sm_zero m]; rfl
theorem one_of {a : Nat} (ha : a < 5) (z : Int32) : sm (fun l => if nI a = nI l then z else 0) 5 = z := by
  show ((((0 + (if nI a = nI 0 then z else 0)) + (if nI a = nI 1 then z else 0)) + (if nI a = nI 2 then z else 0)) + (if nI a = nI 3 then z else 0)) + (if nI a = nI 4 then z else 0) = z
  rcases (show a = 0 ∨ a = 1 ∨ a = 2 ∨ a = 3 ∨ a = 4 by omega) with rfl | rfl | rfl | rfl | rfl
  · rw [if_pos rfl, if_neg (by decide), if_neg (by decide), if_neg (by decide), if_neg (by decide)]; simp
  · rw [if_neg (by decide), if_pos rfl, if_neg (by decide), if_neg (by decide), if_neg (by decide)]; simp
  · rw [if_neg (by decide), if_neg (by decide), if_pos rfl, if_neg (by decide), if_neg (by decide)]; simp
  · rw [if_neg (by decide), if_neg (by decide), if_neg (by decide), if_pos rfl, if_neg (by decide)]; simp
  · rw [if_neg (by decide), if_neg (by decide), if_neg (by decide), if_neg (by decide), if_pos rfl]; simp
/-- each of the five lines, all together -/
theorem sm_swap {ln g : Nat → Int32} : ∀ {m : Nat}, (∀ f, f < m → ∃ a, a < 5 ∧ ln f = nI a) → sm (fun l => sm (fun f => if ln f = nI l then g f else 0) m) 5 = sm g m
  | 0, _ => sm_zero 5
  | m + 1, h => by
    obtain ⟨a, ha, e⟩ := h m (by omega)
    have e1 : sm (fun l => sm (fun f => if ln f = nI l then g f else 0) (m + 1)) 5 = sm (fun l => sm (fun f => if ln f = nI l then g f else 0) m + (if nI a = nI l then g m else 0)) 5 := sm_congr (fun l _ => by
      show sm (fun f => if ln f = nI l then g f else 0) m + (if ln m = nI l then g m else 0) = _
      rw [e])
    rw [e1, sm_add, sm_swap (fun f hf => h f (by omega)), one_of ha]
    rfl
theorem sm_cn {P : Nat → Bool} : ∀ {m : Nat}, sm (fun i => if P i then 1 else 0) m = nI (cn P m)
  | 0 => rfl
  | m + 1 => by
    show sm (fun i => if P i then 1 else 0) m + (if P m then 1 else 0) = nI (cn P m + if P m then 1 else 0)
    rw [sm_cn]
    by_cases h : P m = true
    · rw [if_pos h, if_pos h, nI_1]
    · rw [if_neg h, if_neg h, Int32.add_zero, Nat.add_zero]
theorem cn_tail {P : Nat → Bool} (m k : Nat) (h : ∀ j, m ≤ j → j < m + k → P j = false) : cn P (m + k) = cn P m := by
  rw [cn_add, cn_congr (Q := fun _ => false) (fun i hi => h (m + i) (by omega) (by omega))]
  have : ∀ k, cn (fun _ => false) k = 0 := fun k => by
    induction k with
    | zero => rfl
    | succ k ih => show cn (fun _ => false) k + 0 = 0; rw [ih]
  rw [this]; rfl
theorem Fi_totalHold_s (h : Rf n fo ro (mo 0)) : Fi_totalHold fo = some (sm (fun f => if Pd (mo 0) f then mo 0 (8 * f + 5) else 0) n) := by
  unfold Fi_totalHold
  refine for_cl (fun k a z => Fi_totalHold_b4 fo k a z) _ h.n20 some (fun k i a hi => ?_) (fun k a => rfl)
  show Fi_totalHold_b4B fo (Fi_totalHold_b4 fo k) a (nI i) = _
  unfold Fi_totalHold_b4B
  rw [L20, if_neg (nI_ge hi (by omega)), Fi_isSeated_s h hi, ckI_nI _ hi (by omega), nI_clamp (by omega)]
  simp only [bn1_r, stk_r, nI_1, bI_z]
  by_cases hin : i < n
  · by_cases hp : Pd (mo 0) i
    · rw [if_pos ⟨hin, hp⟩, if_pos hin, (h.pd hin hp).2.1, if_pos hp]
    · rw [if_neg (fun z => hp z.2), if_pos hin, if_neg hp]
  · rw [if_neg (fun z => hin z.1), if_neg hin]
theorem Fi_totalCircles_s (h : Rf n fo ro (mo 0)) : Fi_totalCircles fo = some (sm (fun f => if Pd (mo 0) f then mo 0 (8 * f + 6) else 0) n) := by
  unfold Fi_totalCircles
  refine for_cl (fun k a z => Fi_totalCircles_b4 fo k a z) _ h.n20 some (fun k i a hi => ?_) (fun k a => rfl)
  show Fi_totalCircles_b4B fo (Fi_totalCircles_b4 fo k) a (nI i) = _
  unfold Fi_totalCircles_b4B
  rw [L20, if_neg (nI_ge hi (by omega)), Fi_isSeated_s h hi, ckI_nI _ hi (by omega), nI_clamp (by omega)]
  simp only [bn1_r, stk_r, nI_1, bI_z]
  by_cases hin : i < n
  · by_cases hp : Pd (mo 0) i
    · rw [if_pos ⟨hin, hp⟩, if_pos hin, (h.pd hin hp).2.2, if_pos hp]
    · rw [if_neg (fun z => hp z.2), if_pos hin, if_neg hp]
  · rw [if_neg (fun z => hin z.1), if_neg hin]
theorem Fi_countCancelled_s (hn : n ≤ 20) (h : fo 8 0 = nI (msk (gone n (mo 0)) 20)) : Fi_countCancelled fo = some (nI (cn (gone n (mo 0)) n)) := by
  unfold Fi_countCancelled
  rw [h, pop_s, bn1_r]
  have e : cn (gone n (mo 0)) 20 = cn (gone n (mo 0)) n := by
    rw [show 20 = n + (20 - n) by omega]
    exact cn_tail n (20 - n) (fun j h1 _ => decide_eq_false (fun z => by omega))
  rw [e]
theorem Mo_count_5 (hn : n ≤ 20) (hs : mo 0 173 = nI n) (j : J n (mo 0)) : Mo_count_b138 mo x fl 0 0 = some (nI (cn (gone n (mo 0)) n)) := by
  have e := for_sum (fun k a z => Mo_count_b138 mo x k a z) 5 (fun l => sm (fun f => if mo 0 (8 * f) = nI l then mo 0 (8 * f + 7) else 0) n) some (by omega) (fun k i a hi => ?_) (fun k a => rfl)
  · refine Eq.trans e (congrArg some ?_)
    rw [sm_swap (ln := fun f => mo 0 (8 * f)) (g := fun f => mo 0 (8 * f + 7)) (fun f hf => by obtain ⟨a, b, c, d, e1, ha, -⟩ := j.2.1 f hf; exact ⟨a, ha, e1⟩), ← sm_cn]
    refine sm_congr (fun f hf => ?_)
    rcases g01 j hf with e1 | e1
    · rw [e1, show gone n (mo 0) f = false from decide_eq_false (fun z => by rw [e1] at z; exact absurd z.2 (by decide))]; rfl
    · rw [e1, show gone n (mo 0) f = true from decide_eq_true ⟨hf, e1⟩]; rfl
  · show Mo_count_b138B mo x (Mo_count_b138 mo x k) a (nI i) = _
    unfold Mo_count_b138B
    rw [show (5 : Int32) = nI 5 from rfl, if_neg (nI_ge hi (by omega)), Mo_lineCounts_1 hn hs, bn1_r, stk_r, stk_r, nI_1]
theorem Mo_count_6 {mm kk : Nat → Nat} (h : RvL v vc (mo 0) mm kk) : Mo_count_b162 mo x fl 0 0 = some (nI v) := by
  have e := for_sum (fun k a z => Mo_count_b162 mo x k a z) 5 (fun l => sm (fun i => if kk i = l then 1 else 0) v) some (by omega) (fun k i a hi => ?_) (fun k a => rfl)
  · refine Eq.trans e (congrArg some ?_)
    have e1 : sm (fun l => sm (fun i => if kk i = l then (1 : Int32) else 0) v) 5 = sm (fun l => sm (fun i => if nI (kk i) = nI l then (1 : Int32) else 0) v) 5 := sm_congr (fun l hl => sm_congr (fun i hi => by
      have h5 := (h.2.1 i hi).2.2.2.1
      by_cases hk : kk i = l
      · rw [if_pos hk, if_pos (by rw [hk])]
      · rw [if_neg hk, if_neg (fun z => hk ((nI_eq (by omega) (by omega)).mp z))]))
    rw [e1, sm_swap (ln := fun i => nI (kk i)) (g := fun _ => 1) (fun f hf => ⟨kk f, (h.2.1 f hf).2.2.2.1, rfl⟩)]
    have : ∀ m, sm (fun _ => (1 : Int32)) m = nI m := fun m => by
      induction m with
      | zero => rfl
      | succ m ih => show sm (fun _ => (1 : Int32)) m + 1 = nI (m + 1); rw [ih, nI_1]
    exact this v
  · show Mo_count_b162B mo x (Mo_count_b162 mo x k) a (nI i) = _
    unfold Mo_count_b162B
    rw [show (5 : Int32) = nI 5 from rfl, if_neg (nI_ge hi (by omega)), Mo_keeps_s hi h, bn1_r, stk_r, stk_r, nI_1]
theorem Mo_count_7 : Mo_count_b185 mo x fl 0 0 = some (nI (cn (made (mo 0)) 8)) := by
  have e := for_sum (fun k a z => Mo_count_b185 mo x k a z) 8 (fun i => if made (mo 0) i then 1 else 0) some (by omega) (fun k i a hi => ?_) (fun k a => rfl)
  · rw [sm_cn] at e; exact e
  · show Mo_count_b185B mo x (Mo_count_b185 mo x k) a (nI i) = _
    unfold Mo_count_b185B
    rw [show (8 : Int32) = nI 8 from rfl, if_neg (nI_ge hi (by omega)), Mo_isOffer_in hi]
    simp only [bn1_r, stk_r, nI_1, bI_z]
    split <;> rfl
theorem Of_countMade_s (h : Ros os (mo 0)) : Of_countMade os = some (nI (cn (made (mo 0)) 8)) := by
  unfold Of_countMade
  have e1 : msk (made (mo 0)) 8 = msk (fun i => decide (i < 8) && made (mo 0) i) 20 := by
    rw [show 20 = 8 + 12 from rfl, msk_tail (P := fun i => decide (i < 8) && made (mo 0) i) 8 12 (fun j h1 _ => by rw [decide_eq_false (show ¬ j < 8 by omega)]; rfl)]
    exact msk_congr (fun i hi => by rw [decide_eq_true hi]; rfl)
  rw [h.1, e1, pop_s, bn1_r, show 20 = 8 + 12 from rfl, cn_tail 8 12 (fun j h1 _ => by rw [decide_eq_false (show ¬ j < 8 by omega)]; rfl), cn_congr (Q := made (mo 0)) (fun i hi => by rw [decide_eq_true hi]; rfl)]
theorem Ra_countSlots_s (h : Rr ra (mo 0)) : Ra_countSlots ra = some (sm (fun i => mo 0 (160 + i)) 12 + 96) := by
  unfold Ra_countSlots
  have e := for_up (fun k z a => Ra_countSlots_b5 ra k a z) 12 (fun i a => a + mo 0 (160 + i)) some (fun _ _ => True) (fun k i a hi _ => ?_) (fun _ _ _ _ => trivial) (fun k a _ => rfl) 12 fl 0 96 (by omega) (by rw [fl_v]; omega) trivial
  · rw [sm_iter, Int32.add_comm] at e; exact e
  · show Ra_countSlots_b5B ra (Ra_countSlots_b5 ra k) a (nI i) = _
    unfold Ra_countSlots_b5B
    rw [show (12 : Int32) = nI 12 from rfl, if_neg (nI_ge hi (by omega)), ckI_nI _ hi (by omega), nI_clamp (by omega), h i hi, stk_r, stk_r, nI_1]
theorem Mo_count_10 : Mo_count_b227 mo x fl 0 0 = some (sm (fun i => mo 0 (160 + i)) 12 + 96) := by
  refine for_sum (fun k a z => Mo_count_b227 mo x k a z) 12 (fun i => mo 0 (160 + i)) (fun a => some (a + 96)) (by omega) (fun k i a hi => ?_) (fun k a => rfl)
  show Mo_count_b227B mo x (Mo_count_b227 mo x k) a (nI i) = _
  unfold Mo_count_b227B
  rw [show (12 : Int32) = nI 12 from rfl, if_neg (nI_ge hi (by omega)), n160 _ hi, k160 hi, stk_r, stk_r, nI_1]
theorem n174 {α : Type} (z : Option α) : ckI 174 1452 z = z := ckI_nI (i := 174) z (by omega) (by omega)
theorem k174 : (174 : Int32).toNatClampNeg = 174 := by decide
theorem q_count (h : RF n v fo ro ra vc os li (mo 0)) (ht : bsa 1 0 = mo 3 0) (hk : smm 10 0 = mo 21 0) : ∃ r, St_count smm bsa fo ro ra vc os li x = some r ∧ Mo_count mo x = some r := by
  have hn := h.f.n20
  have hs := h.f.sn
  obtain ⟨mm, kk, hl⟩ := h.2.2.2.1.l
  obtain ⟨L, hL, eL, hlk⟩ := h.j.2.2.2.2.2.2.2.2
  have hli : Rl li (mo 0) := h.2.2.2.2.2.1
  unfold St_count Mo_count
  rw [Mo_in_s, bn1_r, bI_z]
  by_cases hx : in0 x 13
  · obtain ⟨w, hw, rfl⟩ := in0_of hx (by omega)
    rw [if_neg (show ¬ (¬ nI w < 20 ∧ ¬ 31 < nI w) from fun z => z.1 (nI_lt (b := 20) (by omega) (by omega)))]
    rcases (show w = 0 ∨ w = 1 ∨ w = 2 ∨ w = 3 ∨ w = 4 ∨ w = 5 ∨ w = 6 ∨ w = 7 ∨ w = 8 ∨ w = 9 ∨ w = 10 ∨ w = 11 ∨ w = 12 by omega) with rfl | rfl | rfl | rfl | rfl | rfl | rfl | rfl | rfl | rfl | rfl | rfl | rfl
    all_goals simp (disch := decide) only [L2, L3, L4, L5, L6, L7, L8, L9, L10, L12, L20, L31, L32, L59, L60, L65, L80, L97, L100, L160, L172, L173, L174, L175, L176, L216, L252, L255, L300, L319, L320, L720, L719, L1000, L1199, L1200, L1452, L13068, L65535, L65536, show (11 : Int32) = nI 11 from rfl, nI_zero, nI_one, nI_eqP, Nat.reduceEqDiff, if_true, if_false, reduceIte]
    · rw [show nI 173 = (173 : Int32) from rfl, n173 (mo := mo), k173, h.f.rn, hs]; exact ⟨_, rfl, rfl⟩
    · rw [show nI 172 = (172 : Int32) from rfl, n172 (mo := mo), k172, h.f.ck]; exact ⟨_, rfl, rfl⟩
    · rw [show nI 174 = (174 : Int32) from rfl, n174, k174, h.2.2.1.1]
      rcases h.j.1.2 with e | e
      · rw [e]; exact ⟨_, rfl, rfl⟩
      · rw [e]; exact ⟨_, rfl, rfl⟩
    · rw [Fi_totalHold_s h.f, Mo_allOf_s 5 (by omega) hn hs]; exact ⟨_, rfl, rfl⟩
    · rw [Fi_totalCircles_s h.f, Mo_allOf_s 6 (by omega) hn hs]; exact ⟨_, rfl, rfl⟩
    · rw [Fi_countCancelled_s hn h.2.2.1.2, show nI 0 = (0 : Int32) from rfl, Mo_count_5 hn hs h.j]; exact ⟨_, rfl, rfl⟩
    · rw [show nI 0 = (0 : Int32) from rfl, hl.1, Mo_count_6 hl]; exact ⟨_, rfl, rfl⟩
    · rw [Of_countMade_s h.2.2.2.2.1, show nI 0 = (0 : Int32) from rfl, Mo_count_7]; exact ⟨_, rfl, rfl⟩
    · exact ⟨_, congrArg some ht, rfl⟩
    · exact ⟨_, congrArg some hk, rfl⟩
    · rw [Ra_countSlots_s h.2.1, show nI 0 = (0 : Int32) from rfl, Mo_count_10]; exact ⟨_, rfl, rfl⟩
    · rw [show nI 175 = (175 : Int32) from rfl, n175, k175]; exact ⟨_, congrArg some hli.1, rfl⟩
    · rw [Fi_countBroken_s h.f hli hL eL hlk, Mo_broken_s hn hL eL hlk]; exact ⟨_, rfl, rfl⟩
  · have hk13 := sw_no hx (by omega)
    rw [if_neg (show ¬ x = 0 from hk13 0 (by omega)), if_neg (show ¬ x = 1 from hk13 1 (by omega)), if_neg (show ¬ x = 2 from hk13 2 (by omega)), if_neg (show ¬ x = 3 from hk13 3 (by omega)), if_neg (show ¬ x = 4 from hk13 4 (by omega)), if_neg (show ¬ x = 5 from hk13 5 (by omega)), if_neg (show ¬ x = 6 from hk13 6 (by omega)), if_neg (show ¬ x = 7 from hk13 7 (by omega)), if_neg (show ¬ x = 8 from hk13 8 (by omega)), if_neg (show ¬ x = 9 from hk13 9 (by omega)), if_neg (show ¬ x = 10 from hk13 10 (by omega)), if_neg (show ¬ x = 11 from hk13 11 (by omega)), if_neg (show ¬ x = 12 from hk13 12 (by omega))]
    rw [St_isHour_s, bn1_r, bI_z]
    by_cases hr : ¬ x < 20 ∧ ¬ 31 < x
    · obtain ⟨w, hw, rfl⟩ := nI_of (x := x) (fun z => hr.1 (Int32.lt_trans z (by decide)))
      have h1 : 20 ≤ w := Nat.le_of_not_lt (fun z => hr.1 (nI_lt (b := 20) z (by omega)))
      have h2 : w ≤ 31 := Nat.le_of_not_lt (fun z => hr.2 (nI_lt (a := 31) z hw))
      rw [if_pos hr, show (20 : Int32) = nI 20 from rfl, pk_sub h1, if_pos (in0_nI (show w - 20 < 12 by omega) (by omega)), Ra_of_s h.2.1 (by omega), bn1_r]
      rw [show (160 : Int32) + nI w - nI 20 = nI (160 + (w - 20)) by rw [show (160 : Int32) = nI 160 from rfl, nI_add, pk_sub (by omega), show 160 + w - 20 = 160 + (w - 20) by omega], ckI_nI _ (by omega) (by omega), nI_clamp (by omega)]
      exact ⟨_, rfl, rfl⟩
    · rw [if_neg hr, if_neg (fun z => hr ?_)]
      · rw [if_neg (show ¬ x = 0 from hk13 0 (by omega)), if_neg (show ¬ x = 1 from hk13 1 (by omega)), if_neg (show ¬ x = 2 from hk13 2 (by omega)), if_neg (show ¬ x = 3 from hk13 3 (by omega)), if_neg (show ¬ x = 4 from hk13 4 (by omega)), if_neg (show ¬ x = 5 from hk13 5 (by omega)), if_neg (show ¬ x = 6 from hk13 6 (by omega)), if_neg (show ¬ x = 7 from hk13 7 (by omega)), if_neg (show ¬ x = 8 from hk13 8 (by omega)), if_neg (show ¬ x = 9 from hk13 9 (by omega)), if_neg (show ¬ x = 10 from hk13 10 (by omega)), if_neg (show ¬ x = 11 from hk13 11 (by omega)), if_neg (show ¬ x = 12 from hk13 12 (by omega))]
        exact ⟨_, rfl, rfl⟩
      · obtain ⟨w, hw, e⟩ := in0_of z (by omega)
        have e2 : x = nI (w + 20) := by
          rw [← nI_add, ← e, show nI 20 = (20 : Int32) from rfl, Int32.sub_add_cancel]
        rw [e2]
        exact ⟨nI_nlt (b := 20) (by omega) (by omega), nI_nlt (a := 31) (by omega) (by omega)⟩
end CO
