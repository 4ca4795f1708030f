/-! what a plan amounts to; rates for hours -/
section ME
variable {n v m k c f : Nat} {fo ro ra vc os li mo pn : Mem} {x y z w : Int32} {s s' : Nat → Int32}
theorem Fi_countWaiting_s (h : Rf n fo ro (mo 0)) : Fi_countWaiting fo = some (sm (fun f => if waS (mo 0) f ≤ 0 then 0 else 1) n) := by
  unfold Fi_countWaiting
  refine for_cl (fun k a z => Fi_countWaiting_b4 fo k a z) _ h.n20 some (fun k i a hi => ?_) (fun k a => rfl)
  show Fi_countWaiting_b4B fo (Fi_countWaiting_b4 fo k) a (nI i) = _
  unfold Fi_countWaiting_b4B
  rw [L20, if_neg (nI_ge hi (by omega)), Fi_isSeated_s h hi, Fi_waitOf_s h hi]
  simp only [bn1_r, stk_r, nI_1, bI_z]
  by_cases hin : i < n
  · by_cases hp : Pd (mo 0) i
    · rw [if_pos ⟨hin, hp⟩, if_pos hin, if_pos hin]
      by_cases q : waS (mo 0) i ≤ 0
      · rw [if_pos q, if_pos q]
      · rw [if_neg q, if_neg q]
    · rw [if_neg (fun z => hp z.2), if_pos hin]
      unfold waS
      rw [if_neg hp, if_pos (by decide)]
  · rw [if_neg (fun z => hin z.1), if_neg hin]
theorem Mo_plan_b23_s (hn : n ≤ 20) (hs : mo 0 173 = nI n) : Mo_plan_b23 fl mo 0 0 = some (sm (fun f => if waS (mo 0) f ≤ 0 then 0 else 1) n, mo) := by
  refine for_fl (fun k a x => Mo_plan_b23 k mo a x) _ hn (fun a => some (a, mo)) (fun k i a hi => ?_) (fun k a => ?_)
  · show Mo_plan_b23B (Mo_plan_b23 k) mo a (nI i) = _
    unfold Mo_plan_b23B
    rw [n173 (mo := mo), k173, hs, if_neg (nI_ge hi (by omega)), Mo_waits_s (by omega)]
    simp only [bn1_r, stk_r, nI_1]
    by_cases q : waS (mo 0) i ≤ 0
    · rw [if_pos q, if_pos q]
    · rw [if_neg q, if_neg q]
  · show Mo_plan_b23B (Mo_plan_b23 k) mo a (nI n) = _
    unfold Mo_plan_b23B
    rw [n173 (mo := mo), k173, hs, if_pos (nI_le (Nat.le_refl n) (by omega))]
theorem Fi_totalCost_s (h : Rf n fo ro (mo 0)) (j : Jf n (mo 0)) : Fi_totalCost fo ro = some (sm (fun f => coS (mo 0) f) n) := by
  unfold Fi_totalCost
  have e := for_sum (fun k a x => Fi_totalCost_b4 fo ro k a x) 5 (fun l => sm (fun f => if mo 0 (8 * f) = nI l then coS (mo 0) f else 0) n) some (by omega) (fun k i a hi => ?_) (fun k a => rfl)
  · refine Eq.trans e (congrArg some (sm_swap (ln := fun f => mo 0 (8 * f)) (g := fun f => coS (mo 0) f) (fun f hf => ?_)))
    obtain ⟨a, -, -, -, e1, h1, -⟩ := j f hf
    exact ⟨a, h1, e1⟩
  · show Fi_totalCost_b4B fo ro (Fi_totalCost_b4 fo ro k) a (nI i) = _
    unfold Fi_totalCost_b4B
    rw [if_neg (show ¬ 5 ≤ nI i from nI_ge (b := 5) (by omega) (by omega)), Fi_lineCost_s h]
    simp only [bn1_r, stk_r, nI_1]
theorem gr_lines (j : J n (mo 0)) : ∀ m, m ≤ n → gr (fun l => grl (mo 0) (nI l) m) 5 = gr (waS (mo 0)) m ∧ ∃ w, w < 1200 ∧ gr (waS (mo 0)) m = nI w
  | 0, _ => ⟨rfl, 0, by omega, rfl⟩
  | m + 1, hm => by
    obtain ⟨ih, w, hw, ew⟩ := gr_lines j m (by omega)
    obtain ⟨u, hu, eu⟩ := waS_nI j (show m < n by omega)
    obtain ⟨a, -, -, -, ea, ha, -⟩ := j.2.1 m (by omega)
    have st : ∀ l, grl (mo 0) (nI l) (m + 1) = if nI a = nI l then mx (grl (mo 0) (nI l) m) (nI u) else grl (mo 0) (nI l) m := fun l => by
      show iter _ 0 (m + 1) 0 = _
      rw [iter_succ, Nat.zero_add]
      show (if mo 0 (8 * m) = nI l then mx (grl (mo 0) (nI l) m) (waS (mo 0) m) else grl (mo 0) (nI l) m) = _
      rw [ea, eu]
    obtain ⟨g0, b0, e0⟩ := grl_nI j (nI 0) m (by omega)
    obtain ⟨g1, b1, e1⟩ := grl_nI j (nI 1) m (by omega)
    obtain ⟨g2, b2, e2⟩ := grl_nI j (nI 2) m (by omega)
    obtain ⟨g3, b3, e3⟩ := grl_nI j (nI 3) m (by omega)
    obtain ⟨g4, b4, e4⟩ := grl_nI j (nI 4) m (by omega)
    have ih' : mx (mx (mx (mx (mx (nI 0) (grl (mo 0) (nI 0) m)) (grl (mo 0) (nI 1) m)) (grl (mo 0) (nI 2) m)) (grl (mo 0) (nI 3) m)) (grl (mo 0) (nI 4) m) = nI w := ih.trans ew
    rw [e0, e1, e2, e3, e4, mx_nI (by omega) (by omega), mx_nI (by omega) (by omega), mx_nI (by omega) (by omega), mx_nI (by omega) (by omega), mx_nI (by omega) (by omega)] at ih'
    have ihn := (nI_eq (by omega) (by omega)).mp ih'
    have gm : gr (waS (mo 0)) (m + 1) = nI (max w u) := by
      show mx (gr (waS (mo 0)) m) (waS (mo 0) m) = _
      rw [ew, eu, mx_nI (by omega) (by omega)]
    refine ⟨?_, max w u, by omega, gm⟩
    rw [gm]
    show mx (mx (mx (mx (mx (nI 0) (grl (mo 0) (nI 0) (m + 1))) (grl (mo 0) (nI 1) (m + 1))) (grl (mo 0) (nI 2) (m + 1))) (grl (mo 0) (nI 3) (m + 1))) (grl (mo 0) (nI 4) (m + 1)) = _
    rw [st, st, st, st, st, e0, e1, e2, e3, e4]
    rcases (show a = 0 ∨ a = 1 ∨ a = 2 ∨ a = 3 ∨ a = 4 by omega) with rfl | rfl | rfl | rfl | rfl
    · rw [if_pos rfl, if_neg (by decide), if_neg (by decide), if_neg (by decide), if_neg (by decide)]
      iterate 6 rw [mx_nI (by omega) (by omega)]
      congr 1; omega
    · rw [if_neg (by decide), if_pos rfl, if_neg (by decide), if_neg (by decide), if_neg (by decide)]
      iterate 6 rw [mx_nI (by omega) (by omega)]
      congr 1; omega
    · rw [if_neg (by decide), if_neg (by decide), if_pos rfl, if_neg (by decide), if_neg (by decide)]
      iterate 6 rw [mx_nI (by omega) (by omega)]
      congr 1; omega
    · rw [if_neg (by decide), if_neg (by decide), if_neg (by decide), if_pos rfl, if_neg (by decide)]
      iterate 6 rw [mx_nI (by omega) (by omega)]
      congr 1; omega
    · rw [if_neg (by decide), if_neg (by decide), if_neg (by decide), if_neg (by decide), if_pos rfl]
      iterate 6 rw [mx_nI (by omega) (by omega)]
      congr 1; omega
theorem Fi_longestWait_s (h : RF n v fo ro ra vc os li (mo 0)) : Fi_longestWait fo ro = some (gr (waS (mo 0)) n) := by
  unfold Fi_longestWait
  have e := for_gr (fun k a x => Fi_longestWait_b4 fo ro k a x) 5 (fun l => grl (mo 0) (nI l) n) some (by omega) (fun k i a hi => ?_) (fun k a => rfl)
  · exact Eq.trans e (congrArg some (gr_lines h.j n (Nat.le_refl n)).1)
  · show Fi_longestWait_b4B fo ro (Fi_longestWait_b4 fo ro k) a (nI i) = _
    unfold Fi_longestWait_b4B
    rw [if_neg (show ¬ 5 ≤ nI i from nI_ge (b := 5) (by omega) (by omega)), Fi_longestWaitOf_s h]
    simp only [bn1_r, stk_r, nI_1]
    rfl
theorem Fi_lastSlot_s (h : Rf n fo ro (mo 0)) (j : J n (mo 0)) : Fi_lastSlot fo = some (iter (fun f a => if Pd (mo 0) f then mx a (mo 0 (8 * f + 4)) else a) 0 n 0) := by
  have hn := h.n20
  unfold Fi_lastSlot
  have e := for_up (fun k x a => Fi_lastSlot_b4 fo k a x) 20 (fun f a => if f < n ∧ Pd (mo 0) f then mx a (mo 0 (8 * f + 4)) else a) some (fun _ a => ∃ w, w < 1200 ∧ a = nI w) (fun k i a hi hv => ?_) (fun i a hi hv => ?_) (fun k a _ => rfl) 20 fl 0 0 (by omega) (by rw [fl_v]; omega) ⟨0, by omega, rfl⟩
  · refine Eq.trans e (congrArg some ?_)
    rw [show 20 = n + (20 - n) by omega, iter_add, iter_id _ (20 - n) (0 + n) _ (fun j b h1 h2 => if_neg (fun z => by omega))]
    refine iter_congr _ _ n 0 0 (fun f b _ hf => ?_)
    by_cases hp : Pd (mo 0) f
    · rw [if_pos ⟨by omega, hp⟩, if_pos hp]
    · rw [if_neg (fun z => hp z.2), if_neg hp]
  · show Fi_lastSlot_b4B fo (Fi_lastSlot_b4 fo k) a (nI i) = _
    unfold Fi_lastSlot_b4B
    rw [L20, if_neg (nI_ge hi (by omega)), ckI_nI _ (by omega) (by omega), nI_clamp (by omega)]
    simp only [stk_r, nI_1]
    obtain ⟨w, hw, rfl⟩ := hv
    by_cases hp : i < n ∧ Pd (mo 0) i
    · rw [if_pos hp, (h.pd hp.1 hp.2).1]; rfl
    · rw [if_neg hp, (h.np hi hp).1, if_neg (show ¬ nI w < -1 from fun z => nI_pos (show w < 2 ^ 31 by omega) (Int32.lt_trans z (by decide)))]
  · obtain ⟨w, hw, rfl⟩ := hv
    by_cases hp : i < n ∧ Pd (mo 0) i
    · obtain ⟨-, -, -, mm, -, -, -, -, -, e4, -, -, hm, -⟩ := j.2.2.2.1 i hp.1 hp.2
      rw [if_pos hp, e4, mx_nI (by omega) (by omega)]
      exact ⟨max w mm, by omega, rfl⟩
    · rw [if_neg hp]; exact ⟨w, hw, rfl⟩
/-! rates -/
def ptR (X Y : Nat) (r : Int32) (g : Nat → Int32) (i : Nat) : Int32 := if X ≤ i ∧ i < Y then r else g i
theorem ptR_0 {X : Nat} {r : Int32} {g : Nat → Int32} : ptR X X r g = g := funext (fun i => if_neg (by omega))
theorem ptR_1 {X Y : Nat} {r : Int32} {g : Nat → Int32} (h : X ≤ Y) : upd (ptR X Y r g) Y r = ptR X (Y + 1) r g := funext (fun i => by
  unfold ptR
  by_cases q : i = Y
  · subst q; rw [pk_us, if_pos (by omega)]
  · rw [pk_un q]
    by_cases z : X ≤ i ∧ i < Y
    · rw [if_pos z, if_pos (by omega)]
    · rw [if_neg z, if_neg (by omega)])
theorem Ra_putAll_s {X Y : Nat} (h : X ≤ Y) (hY : Y < 12) : Ra_putAll ra (nI X) (nI Y) x = some (upA ra 0 (ptR X (Y + 1) x (ra 0))) := by
  have l : ∀ (r h N : Nat), h + r = Y + 1 → r < N → X ≤ h → Ra_putAll_b7 (nI X) (nI Y) x N (upA ra 0 (ptR X h x (ra 0))) (nI h) = some (upA ra 0 (ptR X (Y + 1) x (ra 0))) := by
    intro r
    induction r with
    | zero =>
      intro h N e hN hX
      obtain ⟨N, rfl⟩ : ∃ q, N = q + 1 := ⟨N - 1, by omega⟩
      have e : h = Y + 1 := by omega
      subst e
      show Ra_putAll_b7B _ _ _ (Ra_putAll_b7 _ _ _ N) _ _ = _
      unfold Ra_putAll_b7B
      rw [if_pos (nI_lt (by omega) (by omega))]
    | succ r ih =>
      intro h N e hN hX
      obtain ⟨N, rfl⟩ : ∃ q, N = q + 1 := ⟨N - 1, by omega⟩
      show Ra_putAll_b7B _ _ _ (Ra_putAll_b7 _ _ _ N) _ _ = _
      unfold Ra_putAll_b7B
      rw [if_neg (nI_nlt (by omega) (by omega)), if_neg (show ¬ 12 ≤ nI h from nI_ge (b := 12) (by omega) (by omega)), ckI_nI _ (by omega) (by omega), nI_clamp (by omega), stk_r, stk_r, nI_1, upm_A, upA_A, upA_0, ptR_1 hX]
      exact ih (h + 1) N (by omega) (by omega) (by omega)
  unfold Ra_putAll
  have e0 : (if (0 : Int32) < nI X then nI X else 0) = nI X := by
    by_cases q : X = 0
    · subst q; rfl
    · rw [if_pos (show (0 : Int32) < nI X from nI_lt (a := 0) (by omega) (by omega))]
  have := l (Y + 1 - X) X fl (by omega) (by rw [fl_v]; omega) (Nat.le_refl _)
  rw [ptR_0, upA_id] at this
  rw [e0, stk_r]
  exact this
theorem Mo_rates_s {X Y : Nat} (h : X ≤ Y) (hY : Y < 12) : Mo_rates mo (nI X) (nI Y) x = some (upA mo 0 (ptR (160 + X) (160 + (Y + 1)) x (mo 0))) := by
  have l : ∀ (r h N : Nat), h + r = Y + 1 → r < N → X ≤ h → Mo_rates_b3 (nI X) (nI Y) x N (upA mo 0 (ptR (160 + X) (160 + h) x (mo 0))) (nI h) = some (upA mo 0 (ptR (160 + X) (160 + (Y + 1)) x (mo 0))) := by
    intro r
    induction r with
    | zero =>
      intro h N e hN hX
      obtain ⟨N, rfl⟩ : ∃ q, N = q + 1 := ⟨N - 1, by omega⟩
      have e : h = Y + 1 := by omega
      subst e
      show Mo_rates_b3B _ _ _ (Mo_rates_b3 _ _ _ N) _ _ = _
      unfold Mo_rates_b3B
      rw [if_pos (nI_lt (by omega) (by omega))]
    | succ r ih =>
      intro h N e hN hX
      obtain ⟨N, rfl⟩ : ∃ q, N = q + 1 := ⟨N - 1, by omega⟩
      show Mo_rates_b3B _ _ _ (Mo_rates_b3 _ _ _ N) _ _ = _
      unfold Mo_rates_b3B
      rw [if_neg (nI_nlt (by omega) (by omega)), show (160 : Int32) = nI 160 from rfl, nI_add, ckI_nI _ (by omega) (by omega), nI_clamp (by omega), stk_r, stk_r, nI_1, upm_A, upA_A, upA_0, ptR_1 (by omega)]
      exact ih (h + 1) N (by omega) (by omega) (by omega)
  have := l (Y + 1 - X) X fl (by omega) (by rw [fl_v]; omega) (Nat.le_refl _)
  rw [ptR_0, upA_id] at this
  exact this
theorem RP.cg (h : RP n fo ro ra li s) (e : ag s s' 0 1452) : RP n fo ro ra li s' := by
  obtain ⟨⟨a1, a2, a3, a4, a5⟩, hr, jr, jf, jt, hl, jl⟩ := h
  have q : ∀ i, i < 1452 → s' i = s i := fun i hi => e i (by omega) hi
  refine ⟨⟨a1, a2, by rw [q _ (by omega)]; exact a3, by rw [q _ (by omega)]; exact a4, fun f hf => ?_⟩, hr.cg (e.lo (by omega) (by omega)), jr.cg (e.lo (by omega) (by omega)), jf.cg a1 (e.lo (by omega) (by omega)), by rw [q _ (by omega)]; exact jt, hl.cg (q _ (by omega)) (e.lo (by omega) (by omega)), jl.cg (q _ (by omega)) (e.lo (by omega) (by omega))⟩
  rw [q (8 * f) (by omega), q (8 * f + 1) (by omega), q (8 * f + 2) (by omega), q (8 * f + 3) (by omega)]
  exact a5 f hf
/-- rates put into a trial whose hours but these are as they were -/
theorem RP.rates {rat : Mem} {X Y r : Nat} (h : RP n fo ro ra li s) (hY : Y < 12) (hr : r ≤ 12) (e : ∀ h, h < 12 → ¬ (X ≤ h ∧ h < Y + 1) → rat 0 h = ra 0 h) : RP n fo ro (upA rat 0 (ptR X (Y + 1) (nI r) (rat 0))) li (ptR (160 + X) (160 + (Y + 1)) (nI r) s) := by
  obtain ⟨⟨a1, a2, a3, a4, a5⟩, hr', jr, jf, jt, hl, jl⟩ := h
  have q : ∀ i, i < 160 ∨ 172 ≤ i → ptR (160 + X) (160 + (Y + 1)) (nI r) s i = s i := fun i hi => if_neg (by omega)
  refine ⟨⟨a1, a2, by rw [q _ (by omega)]; exact a3, by rw [q _ (by omega)]; exact a4, fun f hf => ?_⟩, fun k hk => ?_, fun k hk => ?_, jf.cg a1 (fun i _ h2 => q i (by omega)), by rw [q _ (by omega)]; exact jt, hl.cg (q _ (by omega)) (fun i h1 _ => q i (by omega)), jl.cg (q _ (by omega)) (fun i h1 _ => q i (by omega))⟩
  · rw [q (8 * f) (by omega), q (8 * f + 1) (by omega), q (8 * f + 2) (by omega), q (8 * f + 3) (by omega)]
    exact a5 f hf
  · rw [upA_0]
    unfold ptR
    by_cases z : X ≤ k ∧ k < Y + 1
    · rw [if_pos z, if_pos (by omega)]
    · rw [if_neg z, if_neg (by omega), e k hk z]; exact hr' k hk
  · unfold ptR
    by_cases z : X ≤ k ∧ k < Y + 1
    · rw [if_pos (by omega)]; exact ⟨r, hr, rfl⟩
    · rw [if_neg (by omega)]; exact jr k hk
end ME
