/-! line: counts of a line -/
section LN
variable {n v : Nat} {fo ro ra vc os li mo : Mem} {mm kk : Nat → Nat}
theorem Mo_keeps_l {l : Nat} (hl5 : l < 5) (h : RvL v vc (mo 0) mm kk) : ∀ (r N M j : Nat), M + r = 1200 → r < N → vi v mm M j → Mo_keeps_b4 mo (nI l) N (sm (fun i => if kk i = l then 1 else 0) j) (nI M) = some (sm (fun i => if kk i = l then 1 else 0) v)
  | 0, N + 1, M, j, hM, _, hi => by
    have e : M = 1200 := by omega
    subst e
    show Mo_keeps_b4B mo (nI l) (Mo_keeps_b4 mo (nI l) N) _ (nI 1200) = _
    unfold Mo_keeps_b4B
    rw [if_pos (show (1200 : Int32) ≤ nI 1200 by decide)]
    have hjv : j = v := by
      have h1 := hi.1
      by_cases h2 : j < v
      · have h3 := (hi.2 j h2).mp (h.2.1 j h2).2.2.1
        omega
      · omega
    rw [hjv]
  | r + 1, N + 1, M, j, hM, hN, hi => by
    show Mo_keeps_b4B mo (nI l) (Mo_keeps_b4 mo (nI l) N) _ (nI M) = _
    unfold Mo_keeps_b4B
    rw [show (1200 : Int32) = nI 1200 from rfl, if_neg (nI_ge (show M < 1200 by omega) (by omega)), n252 _ (by omega), k252 (by omega), nI_1]
    rcases vstep h hi (by omega) with ⟨e, h2⟩ | ⟨hjv, e1, e2, h3⟩
    · rw [e, if_neg (fun z => kk_ne hl5 z.symm), stk_r, stk_r, nI_1, Int32.add_zero]
      exact Mo_keeps_l hl5 h r N (M + 1) j (by omega) (by omega) h2
    · have h5 := (h.2.1 j hjv).2.2.2.1
      rw [e2]
      simp only [stk_r, nI_1]
      have e3 : sm (fun i => if kk i = l then (1 : Int32) else 0) (j + 1) = sm (fun i => if kk i = l then (1 : Int32) else 0) j + (if kk j = l then (1 : Int32) else 0) := rfl
      have ih := Mo_keeps_l hl5 h r N (M + 1) (j + 1) (by omega) (by omega) h3
      rw [e3] at ih
      by_cases hk : kk j = l
      · rw [if_pos (by rw [hk])]
        rw [if_pos hk] at ih
        exact ih
      · rw [if_neg (fun z => hk (by have := (nI_eq (by omega) (by omega)).mp z; omega))]
        rw [if_neg hk] at ih
        exact ih
theorem Mo_keeps_s {l : Nat} (hl5 : l < 5) (h : RvL v vc (mo 0) mm kk) : Mo_keeps mo (nI l) = some (sm (fun i => if kk i = l then 1 else 0) v) := Mo_keeps_l hl5 h 1200 fl 0 0 (by omega) (by rw [fl_v]; omega) vi_0
theorem Va_keptBy_s {l : Nat} (hl5 : l < 5) (hv : v ≤ 20) (h : RvL v vc (mo 0) mm kk) : Va_keptBy vc (nI l) = some (sm (fun i => if kk i = l then 1 else 0) v) := by
  unfold Va_keptBy
  refine for_sum (fun k a x => Va_keptBy_b4 vc (nI l) k a x) v _ some (by omega) (fun k i a hi => ?_) (fun k a => ?_)
  · show Va_keptBy_b4B vc (nI l) (Va_keptBy_b4 vc (nI l) k) a (nI i) = _
    unfold Va_keptBy_b4B
    have h5 := (h.2.1 i hi).2.2.2.1
    rw [h.1, L20, if_neg (nI_ge hi (by omega)), if_neg (nI_ge (by omega) (by omega)), ckI_nI _ (by omega) (by omega), nI_clamp (by omega), (h.2.1 i hi).2.1]
    simp only [stk_r, nI_1]
    by_cases hk : kk i = l
    · rw [if_pos hk, if_pos (by rw [hk])]
    · rw [if_neg hk, if_neg (fun z => hk ((nI_eq (by omega) (by omega)).mp z)), Int32.add_zero]
  · show Va_keptBy_b4B vc (nI l) (Va_keptBy_b4 vc (nI l) k) a (nI v) = _
    unfold Va_keptBy_b4B
    rw [h.1, if_pos (nI_le (Nat.le_refl v) (by omega))]
theorem Fi_cancelledOf_s (h : RF n v fo ro ra vc os li (mo 0)) (p1 : Int32) : Fi_cancelledOf fo ro p1 = some (sm (fun f => if mo 0 (8 * f) = p1 then mo 0 (8 * f + 7) else 0) n) := by
  have hn := h.f.n20
  have e : Fi_cancelledOf fo ro p1 = some (sm (fun f => if f < n then (if mo 0 (8 * f) = p1 then mo 0 (8 * f + 7) else 0) else 0) 20) := by
    unfold Fi_cancelledOf
    refine for_sum (fun k a x => Fi_cancelledOf_b4 fo ro p1 k a x) 20 _ some (by omega) (fun k i a hi => ?_) (fun k a => ?_)
    · show Fi_cancelledOf_b4B fo ro p1 (Fi_cancelledOf_b4 fo ro p1 k) a (nI i) = _
      unfold Fi_cancelledOf_b4B
      rw [L20, if_neg (nI_ge hi (by omega)), Fi_isOf_s h.f hi, Fi_isCancelled_s h hi]
      simp only [bn1_r, stk_r, nI_1, bI_z]
      by_cases hin : i < n
      · simp only [hin, true_and, if_true]
        by_cases hl : mo 0 (8 * i) = p1
        · rw [if_pos hl, if_pos hl]
          rcases g01 h.j hin with e | e
          · rw [e]; rfl
          · rw [e]; rfl
        · rw [if_neg hl, if_neg hl]
      · simp only [hin, false_and, if_false]
    · rfl
  rw [e]
  exact congrArg some (sm_cut hn (fun j hj => if_pos hj) (fun j h1 _ => if_neg (by omega)))
/-- what a planned flight waits is not below 0 -/
theorem waS_nI {f : Nat} (h : J n (mo 0)) (hf : f < n) : ∃ w, w < 1200 ∧ waS (mo 0) f = nI w := by
  unfold waS
  by_cases hp : Pd (mo 0) f
  · obtain ⟨b, c, t, m, hh, k, -, -, -, -, e5, e6, hm, e, -⟩ := h.2.2.2.1 f hf hp
    rw [if_pos hp, e5, e6, nI_add]
    exact ⟨hh + k, by omega, rfl⟩
  · rw [if_neg hp]; exact ⟨0, by omega, rfl⟩
theorem mx_nI {a b : Nat} (ha : a < 2 ^ 31) (hb : b < 2 ^ 31) : mx (nI a) (nI b) = nI (max a b) := by
  unfold mx
  by_cases h : a < b
  · rw [if_pos (nI_lt h hb), Nat.max_eq_right (by omega)]
  · rw [if_neg (nI_nlt (by omega) ha), Nat.max_eq_left (by omega)]
theorem mx_0 {a : Nat} (ha : a < 2 ^ 31) : mx (nI a) 0 = nI a := by
  rw [show (0 : Int32) = nI 0 from rfl, mx_nI ha (by omega), Nat.max_eq_left (by omega)]
/-- greatest of those of a sort -/
abbrev grl (s : Nat → Int32) (l : Int32) (n : Nat) : Int32 := iter (fun f a => if s (8 * f) = l then mx a (waS s f) else a) 0 n 0
theorem grl_nI (h : J n (mo 0)) (l : Int32) : ∀ m, m ≤ n → ∃ w, w < 1200 ∧ grl (mo 0) l m = nI w
  | 0, _ => ⟨0, by omega, rfl⟩
  | m + 1, hm => by
    obtain ⟨w, hw, e⟩ := grl_nI h l m (by omega)
    obtain ⟨u, hu, e2⟩ := waS_nI h (show m < n by omega)
    show ∃ w, w < 1200 ∧ iter _ 0 (m + 1) 0 = nI w
    rw [iter_succ]
    show ∃ w, w < 1200 ∧ (if mo 0 (8 * (0 + m)) = l then mx (grl (mo 0) l m) (waS (mo 0) (0 + m)) else grl (mo 0) l m) = nI w
    rw [Nat.zero_add, e, e2, mx_nI (by omega) (by omega)]
    split
    · exact ⟨max w u, by omega, rfl⟩
    · exact ⟨w, hw, rfl⟩
theorem Fi_longestWaitOf_s (h : RF n v fo ro ra vc os li (mo 0)) (p1 : Int32) : Fi_longestWaitOf fo ro p1 = some (grl (mo 0) p1 n) := by
  have hn := h.f.n20
  unfold Fi_longestWaitOf
  have e := for_up (fun k x a => Fi_longestWaitOf_b4 fo ro p1 k a x) 20 (fun f a => if f < n ∧ mo 0 (8 * f) = p1 ∧ Pd (mo 0) f then mx a (waS (mo 0) f) else a) some (fun _ _ => True) (fun k i a hi _ => ?_) (fun _ _ _ _ => trivial) (fun k a _ => rfl) 20 fl 0 0 (by omega) (by rw [fl_v]; omega) trivial
  · refine Eq.trans e (congrArg some ?_)
    rw [show 20 = n + (20 - n) by omega, iter_add, iter_id _ (20 - n) (0 + n) _ (fun j b h1 h2 => if_neg (fun z => by omega))]
    have key : ∀ m, m ≤ n → iter (fun f a => if f < n ∧ mo 0 (8 * f) = p1 ∧ Pd (mo 0) f then mx a (waS (mo 0) f) else a) 0 m 0 = grl (mo 0) p1 m := by
      intro m
      induction m with
      | zero => intro _; rfl
      | succ m ih =>
        intro hm
        rw [iter_succ, ih (by omega)]
        show _ = iter _ 0 (m + 1) 0
        rw [iter_succ, Nat.zero_add]
        show (if m < n ∧ mo 0 (8 * m) = p1 ∧ Pd (mo 0) m then mx (grl (mo 0) p1 m) (waS (mo 0) m) else grl (mo 0) p1 m) = (if mo 0 (8 * m) = p1 then mx (grl (mo 0) p1 m) (waS (mo 0) m) else grl (mo 0) p1 m)
        by_cases hl : mo 0 (8 * m) = p1
        · rw [if_pos hl]
          by_cases hp : Pd (mo 0) m
          · rw [if_pos ⟨by omega, hl, hp⟩]
          · rw [if_neg (fun z => hp z.2.2)]
            obtain ⟨w, hw, e2⟩ := grl_nI h.j p1 m (by omega)
            rw [e2, waS, if_neg hp, mx_0 (by omega)]
        · rw [if_neg hl, if_neg (fun z => hl z.2.1)]
    exact key n (Nat.le_refl n)
  · show Fi_longestWaitOf_b4B fo ro p1 (Fi_longestWaitOf_b4 fo ro p1 k) a (nI i) = _
    unfold Fi_longestWaitOf_b4B
    rw [L20, if_neg (nI_ge hi (by omega)), Fi_isOf_s h.f hi, Fi_isSeated_s h.f hi, Fi_waitOf_s h.f hi]
    simp only [bn1_r, stk_r, nI_1, bI_z]
    by_cases hin : i < n
    · simp only [hin, true_and, if_true]
      by_cases hl : mo 0 (8 * i) = p1
      · by_cases hp : Pd (mo 0) i
        · rw [if_pos hl, if_pos hp, if_pos (And.intro hl hp)]; rfl
        · rw [if_pos hl, if_neg hp, if_neg (fun z => hp z.2)]
      · rw [if_neg hl, if_neg (fun z => hl z.1)]
    · simp only [hin, false_and, if_false]
theorem Mo_lineCounts_0 (hn : n ≤ 20) (hs : mo 0 173 = nI n) (p1 : Int32) : Mo_lineCounts mo p1 0 = some (sm (fun f => if mo 0 (8 * f) = p1 then 1 else 0) n) := by
  unfold Mo_lineCounts
  refine for_fl (fun k a x => Mo_lineCounts_b5 mo p1 0 k a x) _ hn some (fun k i a hi => ?_) (fun k a => ?_)
  · show Mo_lineCounts_b5B mo p1 0 (Mo_lineCounts_b5 mo p1 0 k) a (nI i) = _
    unfold Mo_lineCounts_b5B
    rw [n173 (mo := mo), k173, hs, if_neg (nI_ge hi (by omega)), Mo_of_0 (by omega), if_neg (show ¬ (0 : Int32) = 4 by decide), if_pos (show (0 : Int32) = 0 from rfl)]
    simp only [bn1_r, stk_r, nI_1]
    by_cases hl : mo 0 (8 * i) = p1
    · rw [if_pos hl, if_pos hl]
    · rw [if_neg hl, if_neg hl, Int32.add_zero]
  · show Mo_lineCounts_b5B mo p1 0 (Mo_lineCounts_b5 mo p1 0 k) a (nI n) = _
    unfold Mo_lineCounts_b5B
    rw [n173 (mo := mo), k173, hs, if_pos (nI_le (Nat.le_refl n) (by omega))]
theorem Mo_lineCounts_1 (hn : n ≤ 20) (hs : mo 0 173 = nI n) (p1 : Int32) : Mo_lineCounts mo p1 1 = some (sm (fun f => if mo 0 (8 * f) = p1 then mo 0 (8 * f + 7) else 0) n) := by
  unfold Mo_lineCounts
  refine for_fl (fun k a x => Mo_lineCounts_b5 mo p1 1 k a x) _ hn some (fun k i a hi => ?_) (fun k a => ?_)
  · show Mo_lineCounts_b5B mo p1 1 (Mo_lineCounts_b5 mo p1 1 k) a (nI i) = _
    unfold Mo_lineCounts_b5B
    rw [n173 (mo := mo), k173, hs, if_neg (nI_ge hi (by omega)), Mo_of_0 (by omega), Mo_of_7 (by omega), if_neg (show ¬ (1 : Int32) = 4 by decide), if_neg (show ¬ (1 : Int32) = 0 by decide), if_pos (show (1 : Int32) = 1 from rfl)]
    simp only [bn1_r, stk_r, nI_1]
    by_cases hl : mo 0 (8 * i) = p1
    · rw [if_pos hl, if_pos hl]
    · rw [if_neg hl, if_neg hl, Int32.add_zero]
  · show Mo_lineCounts_b5B mo p1 1 (Mo_lineCounts_b5 mo p1 1 k) a (nI n) = _
    unfold Mo_lineCounts_b5B
    rw [n173 (mo := mo), k173, hs, if_pos (nI_le (Nat.le_refl n) (by omega))]
theorem Mo_lineCounts_6 (hn : n ≤ 20) (hs : mo 0 173 = nI n) (p1 : Int32) : Mo_lineCounts mo p1 6 = some (sm (fun f => if mo 0 (8 * f) = p1 ∧ Air (mo 0) f then 1 else 0) n) := by
  unfold Mo_lineCounts
  refine for_fl (fun k a x => Mo_lineCounts_b5 mo p1 6 k a x) _ hn some (fun k i a hi => ?_) (fun k a => ?_)
  · show Mo_lineCounts_b5B mo p1 6 (Mo_lineCounts_b5 mo p1 6 k) a (nI i) = _
    unfold Mo_lineCounts_b5B
    rw [n173 (mo := mo), k173, hs, if_neg (nI_ge hi (by omega)), Mo_of_0 (by omega), Mo_isAir_s (by omega), if_neg (show ¬ (6 : Int32) = 4 by decide), if_neg (show ¬ (6 : Int32) = 0 by decide), if_neg (show ¬ (6 : Int32) = 1 by decide)]
    simp only [bn1_r, stk_r, nI_1, bI_z]
    by_cases hl : mo 0 (8 * i) = p1
    · rw [if_pos hl]
      by_cases ha : Air (mo 0) i
      · rw [if_pos ha, if_pos ⟨hl, ha⟩]
      · rw [if_neg ha, if_neg (fun z => ha z.2)]
    · rw [if_neg hl, if_neg (fun z => hl z.1), Int32.add_zero]
  · show Mo_lineCounts_b5B mo p1 6 (Mo_lineCounts_b5 mo p1 6 k) a (nI n) = _
    unfold Mo_lineCounts_b5B
    rw [n173 (mo := mo), k173, hs, if_pos (nI_le (Nat.le_refl n) (by omega))]
theorem Mo_lineCounts_4 (hn : n ≤ 20) (hs : mo 0 173 = nI n) (p1 : Int32) : Mo_lineCounts mo p1 4 = some (grl (mo 0) p1 n) := by
  unfold Mo_lineCounts
  have e := for_up (fun k x a => Mo_lineCounts_b5 mo p1 4 k a x) n (fun f a => if mo 0 (8 * f) = p1 then mx a (waS (mo 0) f) else a) some (fun _ _ => True) (fun k i a hi _ => ?_) (fun _ _ _ _ => trivial) (fun k a _ => ?_) n fl 0 0 (by omega) (by rw [fl_v]; omega) trivial
  · exact e
  · show Mo_lineCounts_b5B mo p1 4 (Mo_lineCounts_b5 mo p1 4 k) a (nI i) = _
    unfold Mo_lineCounts_b5B
    rw [n173 (mo := mo), k173, hs, if_neg (nI_ge hi (by omega)), Mo_of_0 (by omega), Mo_waits_s (by omega), if_pos (show (4 : Int32) = 4 from rfl)]
    simp only [bn1_r, stk_r, nI_1, Mo_more_s]
    split <;> rfl
  · show Mo_lineCounts_b5B mo p1 4 (Mo_lineCounts_b5 mo p1 4 k) a (nI n) = _
    unfold Mo_lineCounts_b5B
    rw [n173 (mo := mo), k173, hs, if_pos (nI_le (Nat.le_refl n) (by omega))]
theorem q_line {x y : Int32} (h : RF n v fo ro ra vc os li (mo 0)) : ∃ r, St_line fo ro vc x y = some r ∧ Mo_line mo x y = some r := by
  have hn := h.f.n20
  have hs := h.f.sn
  have hv20 := h.2.2.2.1.v20 h.f.n20
  obtain ⟨mm, kk, hl⟩ := h.2.2.2.1.l
  unfold St_line Mo_line
  rw [St_isLine_s, Mo_isLine_s]
  simp only [bn1_r, bI_z]
  by_cases hx : in0 x 5
  · rw [if_pos hx, if_pos hx]
    obtain ⟨l, hl5, rfl⟩ := in0_of hx (by omega)
    rw [show (6 : Int32) = nI 6 from rfl, Mo_in0 6 (by omega)]
    simp only [bn1_r, bI_z]
    by_cases hy : in0 y 7
    · rw [if_pos hy]
      obtain ⟨k, hk, rfl⟩ := in0_of hy (by omega)
      rcases (show k = 0 ∨ k = 1 ∨ k = 2 ∨ k = 3 ∨ k = 4 ∨ k = 5 ∨ k = 6 by omega) with rfl | rfl | rfl | rfl | rfl | rfl | rfl
      · rw [if_pos (show nI 0 = 0 from rfl), Fi_flightsOf_s h.f, bn1_r]
        rw [if_neg (show ¬ nI 0 = 2 by decide), if_neg (show ¬ nI 0 = 3 by decide), if_neg (show ¬ nI 0 = 4 by decide), if_neg (show ¬ nI 0 = 5 by decide)]
        rw [show nI 0 = (0 : Int32) from rfl, Mo_lineCounts_0 hn hs, bn1_r]
        exact ⟨_, rfl, rfl⟩
      · rw [if_neg (show ¬ nI 1 = 0 by decide), if_pos (show nI 1 = 1 from rfl), Fi_cancelledOf_s h, bn1_r]
        rw [if_neg (show ¬ nI 1 = 2 by decide), if_neg (show ¬ nI 1 = 3 by decide), if_neg (show ¬ nI 1 = 4 by decide), if_neg (show ¬ nI 1 = 5 by decide)]
        rw [show nI 1 = (1 : Int32) from rfl, Mo_lineCounts_1 hn hs, bn1_r]
        exact ⟨_, rfl, rfl⟩
      · rw [if_neg (show ¬ nI 2 = 0 by decide), if_neg (show ¬ nI 2 = 1 by decide), if_pos (show nI 2 = 2 from rfl), Fi_waitsOf_s h.f, bn1_r]
        rw [if_pos (show nI 2 = 2 from rfl), Mo_lineWaits_s _ hn hs, bn1_r]
        exact ⟨_, rfl, rfl⟩
      · rw [if_neg (show ¬ nI 3 = 0 by decide), if_neg (show ¬ nI 3 = 1 by decide), if_neg (show ¬ nI 3 = 2 by decide), if_pos (show nI 3 = 3 from rfl), Fi_lineCost_s h.f, bn1_r]
        rw [if_neg (show ¬ nI 3 = 2 by decide), if_pos (show nI 3 = 3 from rfl), Mo_lineCost_s _ hn hs, bn1_r]
        exact ⟨_, rfl, rfl⟩
      · rw [if_neg (show ¬ nI 4 = 0 by decide), if_neg (show ¬ nI 4 = 1 by decide), if_neg (show ¬ nI 4 = 2 by decide), if_neg (show ¬ nI 4 = 3 by decide), if_pos (show nI 4 = 4 from rfl), Fi_longestWaitOf_s h, bn1_r]
        rw [if_neg (show ¬ nI 4 = 2 by decide), if_neg (show ¬ nI 4 = 3 by decide), if_pos (show nI 4 = 4 from rfl)]
        rw [show nI 4 = (4 : Int32) from rfl, Mo_lineCounts_4 hn hs, bn1_r]
        exact ⟨_, rfl, rfl⟩
      · rw [if_neg (show ¬ nI 5 = 0 by decide), if_neg (show ¬ nI 5 = 1 by decide), if_neg (show ¬ nI 5 = 2 by decide), if_neg (show ¬ nI 5 = 3 by decide), if_neg (show ¬ nI 5 = 4 by decide), if_pos (show nI 5 = 5 from rfl), Va_keptBy_s hl5 hv20 hl, bn1_r]
        rw [if_neg (show ¬ nI 5 = 2 by decide), if_neg (show ¬ nI 5 = 3 by decide), if_neg (show ¬ nI 5 = 4 by decide), if_pos (show nI 5 = 5 from rfl), Mo_keeps_s hl5 hl, bn1_r]
        exact ⟨_, rfl, rfl⟩
      · rw [if_neg (show ¬ nI 6 = 0 by decide), if_neg (show ¬ nI 6 = 1 by decide), if_neg (show ¬ nI 6 = 2 by decide), if_neg (show ¬ nI 6 = 3 by decide), if_neg (show ¬ nI 6 = 4 by decide), if_neg (show ¬ nI 6 = 5 by decide), if_pos (show nI 6 = nI 6 from rfl), Fi_aloftOf_s h.f, bn1_r]
        rw [if_neg (show ¬ nI 6 = 2 by decide), if_neg (show ¬ nI 6 = 3 by decide), if_neg (show ¬ nI 6 = 4 by decide), if_neg (show ¬ nI 6 = 5 by decide)]
        rw [show nI 6 = (6 : Int32) from rfl, Mo_lineCounts_6 hn hs, bn1_r]
        exact ⟨_, rfl, rfl⟩
    · rw [if_neg hy]
      have hk := sw_no hy (by omega)
      refine ⟨-1, ?_, rfl⟩
      rw [if_neg (show ¬ y = 0 from hk 0 (by omega)), if_neg (show ¬ y = 1 from hk 1 (by omega)), if_neg (show ¬ y = 2 from hk 2 (by omega)), if_neg (show ¬ y = 3 from hk 3 (by omega)), if_neg (show ¬ y = 4 from hk 4 (by omega)), if_neg (show ¬ y = 5 from hk 5 (by omega)), if_neg (hk 6 (by omega))]
  · rw [if_neg hx, if_neg hx]
    exact ⟨_, rfl, rfl⟩
end LN
