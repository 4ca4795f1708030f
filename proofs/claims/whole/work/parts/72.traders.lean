/-! a line's flights on the ground, six at most, and their minutes -/
section TD
variable {n v k f m : Nat} {fo ro ra vc os li mo se : Mem} {x l : Int32} {s : Nat → Int32} {tr mi : Nat → Nat}
def unN (g : Nat → Nat) (k z : Nat) : Nat → Nat := fun i => if i = k then z else g i
def posN (mi : Nat → Nat) (m : Nat) : Nat → Nat
  | 0 => 0
  | q + 1 => if mi q ≤ m then q + 1 else posN mi m q
theorem pos_le : ∀ q, posN mi m q ≤ q
  | 0 => Nat.le_refl 0
  | q + 1 => by
    unfold posN
    split
    · omega
    · have := pos_le q; omega
theorem pos_hi : ∀ q i, posN mi m q ≤ i → i < q → m < mi i
  | 0, i, _, h => by omega
  | q + 1, i, h1, h2 => by
    unfold posN at h1
    by_cases z : mi q ≤ m
    · rw [if_pos z] at h1; omega
    · rw [if_neg z] at h1
      by_cases e : i = q
      · subst e; omega
      · exact pos_hi q i h1 (by omega)
theorem pos_lo (st : ∀ i j, i < j → j < k → mi i < mi j) : ∀ q i, q ≤ k → i < posN mi m q → mi i ≤ m
  | 0, i, _, h => by unfold posN at h; omega
  | q + 1, i, hq, h => by
    unfold posN at h
    by_cases z : mi q ≤ m
    · rw [if_pos z] at h
      by_cases e : i = q
      · subst e; exact z
      · have := st i q (by omega) (by omega); omega
    · rw [if_neg z] at h
      exact pos_lo st q i (by omega) h
theorem gath_l (hk : k < 6) (hm : m < 2000) (hb : ∀ i, i < k → mi i < 2000) : ∀ (q N : Nat) (se : Mem), q < N → q ≤ k → (∀ i, i < q → se 3 i = nI (mi i)) → (∀ i, q < i → i ≤ k → se 3 i = nI (mi (i - 1))) → ∃ se', Se_gather_b30 fo ro x N se (nI m) (nI q) = Se_gather_b70 fo ro x se' (nI m) (nI (posN mi m q)) ∧ (∀ i, i < posN mi m q → se' 3 i = nI (mi i)) ∧ (∀ i, posN mi m q < i → i ≤ k → se' 3 i = nI (mi (i - 1))) ∧ ∀ j, j ≠ 3 → se' j = se j
  | 0, N + 1, se, _, hq, lo, hi => by
    refine ⟨se, ?_, lo, hi, fun _ _ => rfl⟩
    show Se_gather_b30B fo ro x (Se_gather_b30 fo ro x N) se (nI m) (nI 0) = _
    unfold Se_gather_b30B
    rw [if_pos (show nI 0 ≤ 0 by decide)]
    rfl
  | q + 1, N + 1, se, hN, hq, lo, hi => by
    have b := hb q (by omega)
    show ∃ se', Se_gather_b30B fo ro x (Se_gather_b30 fo ro x N) se (nI m) (nI (q + 1)) = _ ∧ _
    unfold Se_gather_b30B posN
    rw [if_neg (nI_nle (by omega) (by omega)), nI_pred, ckI_nI _ (by omega) (by omega), nI_clamp (by omega), lo q (by omega)]
    by_cases z : mi q ≤ m
    · rw [if_pos (nI_le z (by omega)), if_pos z]
      exact ⟨se, rfl, lo, hi, fun _ _ => rfl⟩
    · rw [if_neg (nI_ge (by omega) (by omega)), if_neg z, ckI_nI _ (by omega) (by omega), nI_clamp (by omega), pk_m1, stk_r, stk_r]
      obtain ⟨se', a1, a2, a3, a4⟩ := gath_l hk hm hb q N (upm se 3 (q + 1) (nI (mi q))) (by omega) (by omega) (fun i h1 => by rw [upm_0, pk_un (by omega)]; exact lo i (by omega)) (fun i h1 h2 => by
        rw [upm_0]
        by_cases h3 : i = q + 1
        · subst h3; rw [pk_us]; rfl
        · rw [pk_un h3]; exact hi i (by omega) h2)
      exact ⟨se', a1, a2, a3, fun j hj => by rw [a4 j hj, upm_n _ _ _ hj]⟩
theorem lt_l {k7 : Mem → Int32 → Option Mem} (hf : f < 20) (hk : k < 6) (hm : m < 2000) (hb : ∀ i, i < k → mi i < 2000) : ∀ (q N : Nat) (mo : Mem), q < N → q ≤ k → mo 0 (8 * f + 4) = nI m → (∀ i, i < q → mo 17 i = nI (mi i)) → (∀ i, q < i → i ≤ k → mo 17 i = nI (mi (i - 1))) → ∃ mo', Mo_laysTraders_b64 l k7 N mo (nI f) (nI q) = Mo_laysTraders_b106 l k7 mo' (nI f) (nI (posN mi m q)) ∧ (∀ i, i < posN mi m q → mo' 17 i = nI (mi i)) ∧ (∀ i, posN mi m q < i → i ≤ k → mo' 17 i = nI (mi (i - 1))) ∧ ∀ j, j ≠ 17 → mo' j = mo j
  | 0, N + 1, mo, _, hq, h4, lo, hi => by
    refine ⟨mo, ?_, lo, hi, fun _ _ => rfl⟩
    show Mo_laysTraders_b64B l k7 (Mo_laysTraders_b64 l k7 N) mo (nI f) (nI 0) = _
    unfold Mo_laysTraders_b64B
    rw [if_pos (show nI 0 ≤ 0 by decide)]
    rfl
  | q + 1, N + 1, mo, hN, hq, h4, lo, hi => by
    have b := hb q (by omega)
    show ∃ mo', Mo_laysTraders_b64B l k7 (Mo_laysTraders_b64 l k7 N) mo (nI f) (nI (q + 1)) = _ ∧ _
    unfold Mo_laysTraders_b64B posN
    rw [if_neg (nI_nle (by omega) (by omega)), nI_pred, ckI_nI _ (by omega) (by omega), nI_clamp (by omega), Mo_of_4 hf, bn1_r, h4, lo q (by omega)]
    by_cases z : mi q ≤ m
    · rw [if_pos (nI_le z (by omega)), if_pos z]
      exact ⟨mo, rfl, lo, hi, fun _ _ => rfl⟩
    · rw [if_neg (nI_ge (by omega) (by omega)), if_neg z, ckI_nI _ (by omega) (by omega), nI_clamp (by omega), stk_r, stk_r]
      obtain ⟨mo', a1, a2, a3, a4⟩ := lt_l hf hk hm hb q N (upm mo 17 (q + 1) (nI (mi q))) (by omega) (by omega) (by rw [upm_n _ _ _ (by omega)]; exact h4) (fun i h1 => by rw [upm_0, pk_un (by omega)]; exact lo i (by omega)) (fun i h1 h2 => by
        rw [upm_0]
        by_cases h3 : i = q + 1
        · subst h3; rw [pk_us]; rfl
        · rw [pk_un h3]; exact hi i (by omega) h2)
      exact ⟨mo', a1, a2, a3, fun j hj => by rw [a4 j hj, upm_n _ _ _ hj]⟩
/-- the traders among the first f -/
def TDI (n : Nat) (s : Nat → Int32) (l : Int32) (f k : Nat) (tr mi : Nat → Nat) : Prop := k ≤ 6 ∧ (∀ i, i < k → tr i < f ∧ tr i < n ∧ s (8 * tr i) = l ∧ Gnd s (tr i)) ∧ (∀ i j, i < j → j < k → tr i < tr j) ∧ (∀ i j, i < j → j < k → mi i < mi j) ∧ (∀ j, j < k → ∃ i, i < k ∧ mi j = slN s (tr i)) ∧ ∀ i, i < k → ∃ j, j < k ∧ mi j = slN s (tr i)
theorem TDI.no (h : TDI n s l f k tr mi) : TDI n s l (f + 1) k tr mi := ⟨h.1, fun i hi => by obtain ⟨a, b⟩ := h.2.1 i hi; exact ⟨by omega, b⟩, h.2.2⟩
theorem sl_v (j : J n s) (hf : f < n) (hp : Pd s f) : s (8 * f + 4) = nI (slN s f) ∧ slN s f < 1200 := by
  obtain ⟨b, c, t, m, hh, k, e1, e2, e3, e4, e5, e6, hm, -⟩ := j.2.2.2.1 f hf hp
  unfold slN
  rw [e4, nI_clamp (by omega)]
  exact ⟨rfl, hm⟩
theorem TDI.add (h : TDI n s l f k tr mi) (j : J n s) (hk : k < 6) (hf : f < n) (hl : s (8 * f) = l) (hg : Gnd s f) : TDI n s l (f + 1) (k + 1) (unN tr k f) (insN (posN mi (slN s f) k) (slN s f) mi) := by
  obtain ⟨h1, h2, h3, h4, h5, h6⟩ := h
  have hp : Pd s f := hg.1
  have p1 := pos_le (mi := mi) (m := slN s f) k
  have p2 := pos_hi (mi := mi) (m := slN s f) k
  have p3 := pos_lo (m := slN s f) h4 k
  obtain ⟨s1, s2⟩ := sl_v j hf hp
  have ne : ∀ i, i < k → mi i ≠ slN s f := fun i hi z => by
    obtain ⟨a, a1, a2⟩ := h5 i hi
    obtain ⟨b1, b2, b3, b4⟩ := h2 a a1
    obtain ⟨t1, t2⟩ := sl_v j b2 b4.1
    have := j.2.2.2.2.1 f (tr a) hf b2 hp b4.1 (by rw [s1, t1, ← z, a2])
    omega
  generalize posN mi (slN s f) k = p at *
  have tk : ∀ i, i < k → unN tr k f i = tr i := fun i hi => if_neg (by omega)
  have tkk : unN tr k f k = f := if_pos rfl
  refine ⟨by omega, fun i hi => ?_, fun i jj hij hj => ?_, fun i jj hij hj => ?_, fun jj hj => ?_, fun i hi => ?_⟩
  · by_cases e : i = k
    · subst e; rw [tkk]; exact ⟨by omega, hf, hl, hg⟩
    · rw [tk i (by omega)]; obtain ⟨a, b⟩ := h2 i (by omega); exact ⟨by omega, b⟩
  · by_cases e : jj = k
    · subst e; rw [tkk, tk i (by omega)]; exact (h2 i (by omega)).1
    · rw [tk i (by omega), tk jj (by omega)]; exact h3 i jj hij (by omega)
  · by_cases q : jj < p
    · rw [ins_lt q, ins_lt (by omega)]; exact h4 i jj hij (by omega)
    · by_cases q2 : jj = p
      · subst q2
        rw [ins_eq, ins_lt hij]
        have := p3 i (Nat.le_refl k) hij
        have := ne i (by omega)
        omega
      · rw [ins_gt (i := jj) (by omega)]
        by_cases q3 : i < p
        · rw [ins_lt q3]
          exact h4 i (jj - 1) (by omega) (by omega)
        · by_cases q4 : i = p
          · subst q4; rw [ins_eq]; exact p2 (jj - 1) (by omega) (by omega)
          · rw [ins_gt (by omega)]; exact h4 (i - 1) (jj - 1) (by omega) (by omega)
  · by_cases q : jj < p
    · rw [ins_lt q]; obtain ⟨a, a1, a2⟩ := h5 jj (by omega); exact ⟨a, by omega, by rw [tk a a1]; exact a2⟩
    · by_cases q2 : jj = p
      · subst q2; rw [ins_eq]; exact ⟨k, by omega, by rw [tkk]⟩
      · rw [ins_gt (by omega)]; obtain ⟨a, a1, a2⟩ := h5 (jj - 1) (by omega); exact ⟨a, by omega, by rw [tk a a1]; exact a2⟩
  · by_cases e : i = k
    · subst e; rw [tkk]; exact ⟨p, by omega, ins_eq⟩
    · rw [tk i (by omega)]
      obtain ⟨a, a1, a2⟩ := h6 i (by omega)
      by_cases q : a < p
      · exact ⟨a, by omega, by rw [ins_lt q]; exact a2⟩
      · exact ⟨a + 1, by omega, by rw [ins_gt (by omega)]; exact a2⟩
theorem TDI.mb (h : TDI n s l f k tr mi) (j : J n s) : ∀ i, i < k → mi i < 1200 := fun i hi => by
  obtain ⟨a, a1, a2⟩ := h.2.2.2.2.1 i hi
  obtain ⟨b1, b2, b3, b4⟩ := h.2.1 a a1
  have := (sl_v j b2 b4.1).2
  omega
def CT (k : Nat) (tr mi : Nat → Nat) (s : Nat → Int32) (se : Mem) : Prop := se 2 0 = nI k ∧ (∀ i, i < k → se 0 i = nI (tr i)) ∧ (∀ i, i < k → se 3 i = nI (mi i)) ∧ se 6 0 = sm (fun i => coS s (tr i)) k ∧ se 5 0 = 0 ∧ se 7 0 = 2147483647
theorem gath_s (hR : Rf n fo ro s) (h : TDI n s l f k tr mi) (j : J n s) (hk : k < 6) (hf : f < n) (hg : Gnd s f) (hc : CT k tr mi s se) : ∃ se', Se_gather se fo ro (nI f) = some se' ∧ CT (k + 1) (unN tr k f) (insN (posN mi (slN s f) k) (slN s f) mi) s se' := by
  have hn := hR.n20
  obtain ⟨c1, c2, c3, c4, c5, c6⟩ := hc
  obtain ⟨s1, s2⟩ := sl_v j hf hg.1
  have mb := h.mb j
  have p1 := pos_le (mi := mi) (m := slN s f) k
  obtain ⟨se', a1, a2, a3, a4⟩ := gath_l (fo := fo) (ro := ro) (x := nI f) (k := k) (m := slN s f) (mi := mi) hk (by omega) (fun i hi => by have := mb i hi; omega) k fl se (by rw [fl_v]; omega) (Nat.le_refl k) c3 (fun i h1 h2 => by omega)
  generalize hp : posN mi (slN s f) k = p at *
  refine ⟨upm (upm (upm (upm se' 3 p (nI (slN s f))) 0 k (nI f)) 6 0 (se 6 0 + coS s f)) 2 0 (nI (k + 1)), ?_, ?_⟩
  · unfold Se_gather
    rw [c1, if_neg (nI_pos (by omega)), if_pos (show nI k < 6 from nI_lt (b := 6) (by omega) (by omega)), ckI_nI _ (by omega) (by omega), nI_clamp (by omega), stk_r, stk_r, (hR.pd hf hg.1).1, s1, a1]
    unfold Se_gather_b70
    have z2 : upm se' 3 p (nI (slN s f)) 2 0 = nI k := by rw [upm_n _ _ _ (by omega), a4 2 (by omega)]; exact c1
    have z6 : upm (upm se' 3 p (nI (slN s f))) 0 k (nI f) 6 0 = se 6 0 := by rw [upm_n _ _ _ (by omega), upm_n _ _ _ (by omega), a4 6 (by omega)]
    rw [ckI_nI _ (by omega) (by omega), nI_clamp (by omega), stk_r, z2, ckI_nI _ (by omega) (by omega), nI_clamp (by omega), stk_r, Fi_costOf_s hR hf, bn1_r, z6, stk_r, upm_n _ _ _ (show (2 : Nat) ≠ 6 by omega), upm_n _ _ _ (show (2 : Nat) ≠ 0 by omega), z2, nI_1, stk_r]
  · refine ⟨by rw [upm_0, pk_us], fun i hi => ?_, fun i hi => ?_, ?_, ?_, ?_⟩
    · rw [upm_n _ _ _ (by omega), upm_n _ _ _ (by omega), upm_0]
      by_cases e : i = k
      · subst e; rw [pk_us, show unN tr i f i = f from if_pos rfl]
      · rw [pk_un e, upm_n _ _ _ (by omega), a4 0 (by omega), show unN tr k f i = tr i from if_neg e]; exact c2 i (by omega)
    · rw [upm_n _ _ _ (by omega), upm_n _ _ _ (by omega), upm_n _ _ _ (by omega), upm_0]
      by_cases e : i = p
      · subst e; rw [pk_us, ins_eq]
      · rw [pk_un e]
        by_cases q : i < p
        · rw [ins_lt q]; exact a2 i q
        · rw [ins_gt (by omega)]; exact a3 i (by omega) (by omega)
    · rw [upm_n _ _ _ (by omega), upm_0, pk_us, c4]
      show _ = sm (fun i => coS s (unN tr k f i)) k + coS s (unN tr k f k)
      rw [show unN tr k f k = f from if_pos rfl]
      congr 1
      exact sm_congr (fun i hi => by rw [show unN tr k f i = tr i from if_neg (by omega)])
    · rw [upm_n _ _ _ (by omega), upm_n _ _ _ (by omega), upm_n _ _ _ (by omega), upm_n _ _ _ (by omega), a4 5 (by omega)]; exact c5
    · rw [upm_n _ _ _ (by omega), upm_n _ _ _ (by omega), upm_n _ _ _ (by omega), upm_n _ _ _ (by omega), a4 7 (by omega)]; exact c6
def MT (k : Nat) (tr mi : Nat → Nat) (s : Nat → Int32) (mo0 mo : Mem) : Prop := mo 20 0 = nI k ∧ (∀ i, i < k → mo 16 i = nI (tr i)) ∧ (∀ i, i < k → mo 17 i = nI (mi i)) ∧ mo 0 = s ∧ KP mo0 mo ∧ mo 1 = mo0 1
/-- both gather -/
theorem trd_l {mo0 : Mem} (hR : Rf n fo ro s) (j : J n s) : ∀ (r f N k : Nat) (tr mi : Nat → Nat) (mo : Mem), f + r = n → r < N → TDI n s l f k tr mi → MT k tr mi s mo0 mo → ∃ k' tr' mi' mo', Mo_laysTraders_b7 l N mo (nI f) = some mo' ∧ TDI n s l n k' tr' mi' ∧ MT k' tr' mi' s mo0 mo' ∧ ∀ (N : Nat) (se : Mem), r + (20 - n) < N → CT k tr mi s se → ∃ se', Se_solve_b23 fo ro l N se (nI f) = bn1 (Se_lay se' fo ro 0 0) (fun se_7 => some se_7) ∧ CT k' tr' mi' s se' := by
  have hn := hR.n20
  have tail : ∀ (r f N : Nat) (se : Mem), f + r = 20 → r < N → n ≤ f → Se_solve_b23 fo ro l N se (nI f) = bn1 (Se_lay se fo ro 0 0) (fun se_7 => some se_7) := by
    intro r
    induction r with
    | zero =>
      intro f N se hf hN hh
      obtain ⟨N, rfl⟩ : ∃ q, N = q + 1 := ⟨N - 1, by omega⟩
      have : f = 20 := by omega
      subst this
      show Se_solve_b23B fo ro l (Se_solve_b23 fo ro l N) se (nI 20) = _
      unfold Se_solve_b23B
      rw [if_pos (by decide)]
    | succ r ih =>
      intro f N se hf hN hh
      obtain ⟨N, rfl⟩ : ∃ q, N = q + 1 := ⟨N - 1, by omega⟩
      show Se_solve_b23B fo ro l (Se_solve_b23 fo ro l N) se (nI f) = _
      unfold Se_solve_b23B
      rw [if_neg (show ¬ 20 ≤ nI f from nI_ge (b := 20) (by omega) (by omega)), Fi_isOf_s hR (by omega), bn1_r, bI_z, if_neg (fun z => by omega), stk_r, nI_1]
      exact ih (f + 1) N se (by omega) (by omega) (by omega)
  -- six have been gathered
  have full : ∀ (r f N : Nat) (se : Mem), f + r = n → r + (20 - n) < N → se 2 0 = nI 6 → Se_solve_b23 fo ro l N se (nI f) = bn1 (Se_lay se fo ro 0 0) (fun se_7 => some se_7) := by
    intro r
    induction r with
    | zero => intro f N se hf hN _; exact tail (20 - n) f N se (by omega) (by omega) (by omega)
    | succ r ih =>
      intro f N se hf hN h6
      obtain ⟨N, rfl⟩ : ∃ q, N = q + 1 := ⟨N - 1, by omega⟩
      have ih' := ih (f + 1) N se (by omega) (by omega) h6
      have ga : Se_gather se fo ro (nI f) = some se := by
        unfold Se_gather
        rw [h6, if_neg (by decide), if_neg (by decide)]
      show Se_solve_b23B fo ro l (Se_solve_b23 fo ro l N) se (nI f) = _
      unfold Se_solve_b23B
      rw [if_neg (show ¬ 20 ≤ nI f from nI_ge (b := 20) (by omega) (by omega)), Fi_isOf_s hR (by omega), bn1_r, bI_z, Fi_isGrounded_s hR (by omega), bn1_r, bI_z, ga, bn1_r]
      simp only [stk_r, nI_1]
      split
      · split
        · exact ih'
        · exact ih'
      · exact ih'
  intro r
  induction r with
  | zero =>
    intro f N k tr mi mo hf hN hT hM
    obtain ⟨N, rfl⟩ : ∃ q, N = q + 1 := ⟨N - 1, by omega⟩
    have e : f = n := by omega
    subst e
    refine ⟨k, tr, mi, mo, ?_, hT, hM, fun N se hN' hC => ⟨se, tail (20 - f) f N se (by omega) (by omega) (Nat.le_refl f), hC⟩⟩
    show Mo_laysTraders_b7B l (Mo_laysTraders_b7 l N) mo (nI f) = _
    unfold Mo_laysTraders_b7B
    rw [n173 (mo := mo), k173, hM.2.2.2.1, hR.sn, if_pos (nI_le (Nat.le_refl _) (by omega))]
  | succ r ih =>
    intro f N k tr mi mo hf hN hT hM
    obtain ⟨N, rfl⟩ : ∃ q, N = q + 1 := ⟨N - 1, by omega⟩
    have fn : f < n := by omega
    have k6 := hT.1
    have un : Mo_laysTraders_b7 l (N + 1) mo (nI f) = Mo_laysTraders_b7B l (Mo_laysTraders_b7 l N) mo (nI f) := rfl
    by_cases h6 : k = 6
    · subst h6
      refine ⟨6, tr, mi, mo, ?_, ?_, hM, fun N se hN' hC => ⟨se, full (r + 1) f N se hf hN' hC.1, hC⟩⟩
      · rw [un]
        unfold Mo_laysTraders_b7B
        rw [n173 (mo := mo), k173, hM.2.2.2.1, hR.sn, if_neg (nI_ge fn (by omega)), hM.1, if_pos (by decide)]
      · exact ⟨hT.1, fun i hi => by obtain ⟨a, b⟩ := hT.2.1 i hi; exact ⟨by omega, b⟩, hT.2.2⟩
    · have m6 : ¬ (6 : Int32) ≤ nI k := nI_ge (b := 6) (by omega) (by omega)
      have skip : ∀ (hno : ¬ (s (8 * f) = l ∧ Gnd s f)), Mo_laysTraders_b7 l (N + 1) mo (nI f) = Mo_laysTraders_b7 l N mo (nI (f + 1)) ∧ ∀ (N : Nat) (se : Mem), Se_solve_b23 fo ro l (N + 1) se (nI f) = Se_solve_b23 fo ro l N se (nI (f + 1)) := fun hno => by
        constructor
        · rw [un]
          unfold Mo_laysTraders_b7B
          rw [n173 (mo := mo), k173, hM.2.2.2.1, hR.sn, if_neg (nI_ge fn (by omega)), hM.1, if_neg m6, Mo_of_0 (by omega), bn1_r, hM.2.2.2.1, Mo_isGround_s (by omega), bn1_r, bI_z, hM.2.2.2.1]
          simp only [stk_r, nI_1]
          by_cases z : s (8 * f) = l
          · rw [if_pos z, if_neg (fun z2 => hno ⟨z, z2⟩)]
          · rw [if_neg z]
        · intro N se
          show Se_solve_b23B fo ro l (Se_solve_b23 fo ro l N) se (nI f) = _
          unfold Se_solve_b23B
          rw [if_neg (show ¬ 20 ≤ nI f from nI_ge (b := 20) (by omega) (by omega)), Fi_isOf_s hR (by omega), bn1_r, bI_z, Fi_isGrounded_s hR (by omega), bn1_r, bI_z]
          simp only [stk_r, nI_1]
          by_cases z : f < n ∧ s (8 * f) = l
          · rw [if_pos z, if_neg (fun z2 => hno ⟨z.2, z2.2⟩)]
          · rw [if_neg z]
      by_cases hc : s (8 * f) = l ∧ Gnd s f
      · obtain ⟨s1, s2⟩ := sl_v j fn hc.2.1
        have mb := hT.mb j
        have hT' := hT.add j (by omega) fn hc.1 hc.2
        have p1 := pos_le (mi := mi) (m := slN s f) k
        obtain ⟨m1, m2, m3, m4, m5, m7⟩ := hM
        obtain ⟨mo', a1, a2, a3, a4⟩ := lt_l (l := l) (k7 := Mo_laysTraders_b7 l N) (f := f) (k := k) (m := slN s f) (mi := mi) (by omega) (by omega) (by omega) (fun i hi => by have := mb i hi; omega) k fl (upm mo 16 k (nI f)) (by rw [fl_v]; omega) (Nat.le_refl k) (by rw [upm_n _ _ _ (by omega), m4]; exact s1) (fun i hi => by rw [upm_n _ _ _ (by omega)]; exact m3 i hi) (fun i h1 h2 => by omega)
        have hM' : MT (k + 1) (unN tr k f) (insN (posN mi (slN s f) k) (slN s f) mi) s mo0 (upm (upm mo' 17 (posN mi (slN s f) k) (nI (slN s f))) 20 0 (nI (k + 1))) := by
          generalize posN mi (slN s f) k = p at *
          refine ⟨by rw [upm_0, pk_us], fun i hi => ?_, fun i hi => ?_, ?_, ?_, ?_⟩
          · rw [upm_n _ _ _ (by omega), upm_n _ _ _ (by omega), a4 16 (by omega), upm_0]
            by_cases e : i = k
            · subst e; rw [pk_us, show unN tr i f i = f from if_pos rfl]
            · rw [pk_un e, show unN tr k f i = tr i from if_neg e]; exact m2 i (by omega)
          · rw [upm_n _ _ _ (by omega), upm_0]
            by_cases e : i = p
            · subst e; rw [pk_us, ins_eq]
            · rw [pk_un e]
              by_cases q : i < p
              · rw [ins_lt q]; exact a2 i q
              · rw [ins_gt (by omega)]; exact a3 i (by omega) (by omega)
          · rw [upm_n _ _ _ (by omega), upm_n _ _ _ (by omega), a4 0 (by omega), upm_n _ _ _ (by omega)]; exact m4
          · have kp : KP mo mo' := ⟨by rw [a4 2 (by omega), upm_n _ _ _ (by omega)], by rw [a4 3 (by omega), upm_n _ _ _ (by omega)], by rw [a4 21 (by omega), upm_n _ _ _ (by omega)], fun i _ => by rw [a4 1 (by omega), upm_n _ _ _ (by omega)]⟩
            exact ((m5.tr kp).tr (KP.um (by omega))).tr (KP.um (by omega))
          · rw [upm_n _ _ _ (by omega), upm_n _ _ _ (by omega), a4 1 (by omega), upm_n _ _ _ (by omega)]; exact m7
        obtain ⟨k', tr', mi', mo2, o1, o2, o3, o4⟩ := ih (f + 1) N (k + 1) _ _ _ (by omega) (by omega) hT' hM'
        refine ⟨k', tr', mi', mo2, ?_, o2, o3, fun N se hN' hC => ?_⟩
        · rw [un]
          unfold Mo_laysTraders_b7B
          rw [n173 (mo := mo), k173, m4, hR.sn, if_neg (nI_ge fn (by omega)), m1, if_neg m6, Mo_of_0 (by omega), bn1_r, m4, if_pos hc.1, Mo_isGround_s (by omega), bn1_r, bI_z, m4, if_pos hc.2, ckI_nI _ (by omega) (by omega), nI_clamp (by omega), stk_r, stk_r, upm_n _ _ _ (show (20 : Nat) ≠ 16 by omega), m1, a1]
          unfold Mo_laysTraders_b106
          have z0 : mo' 0 (8 * f + 4) = nI (slN s f) := by rw [a4 0 (by omega), upm_n _ _ _ (by omega), m4]; exact s1
          have z20 : upm mo' 17 (posN mi (slN s f) k) (nI (slN s f)) 20 0 = nI k := by rw [upm_n _ _ _ (by omega), a4 20 (by omega), upm_n _ _ _ (by omega)]; exact m1
          rw [Mo_of_4 (by omega), bn1_r, z0, ckI_nI _ (by omega) (by omega), nI_clamp (by omega), stk_r, z20, nI_1, stk_r, stk_r, nI_1]
          exact o1
        · obtain ⟨N, rfl⟩ : ∃ q, N = q + 1 := ⟨N - 1, by omega⟩
          obtain ⟨se1, g1, g2⟩ := gath_s hR hT j (by omega) fn hc.2 hC
          obtain ⟨se2, g3, g4⟩ := o4 N se1 (by omega) g2
          refine ⟨se2, ?_, g4⟩
          rw [← g3]
          show Se_solve_b23B fo ro l (Se_solve_b23 fo ro l N) se (nI f) = _
          unfold Se_solve_b23B
          rw [if_neg (show ¬ 20 ≤ nI f from nI_ge (b := 20) (by omega) (by omega)), Fi_isOf_s hR (by omega), bn1_r, bI_z, if_pos ⟨fn, hc.1⟩, Fi_isGrounded_s hR (by omega), bn1_r, bI_z, if_pos ⟨fn, hc.2⟩, g1, bn1_r, stk_r, nI_1]
      · obtain ⟨k', tr', mi', mo2, o1, o2, o3, o4⟩ := ih (f + 1) N k tr mi mo (by omega) (by omega) hT.no hM
        refine ⟨k', tr', mi', mo2, by rw [(skip hc).1]; exact o1, o2, o3, fun N se hN' hC => ?_⟩
        obtain ⟨N, rfl⟩ : ∃ q, N = q + 1 := ⟨N - 1, by omega⟩
        rw [(skip hc).2]
        exact o4 N se (by omega) hC
end TD
