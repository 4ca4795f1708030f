/-! the queue; the reference's next one -/
section QU
variable {n v m k : Nat} {fo ro ra vc os li mo pn : Mem} {x y : Int32} {s s' : Nat → Int32} {U C : Nat → Bool} {K e : Nat → Nat}
def QR (m : Nat) (e : Nat → Nat) (pn : Mem) : Prop := pn 1 0 = nI m ∧ ∀ i, i < m → pn 0 i = nI (e i)
theorem enq_x {z q : Nat} (hm : m < 20) (hq : q ≤ m) (e1 : pn 1 0 = nI m) (lo : ∀ i, i < q → pn 0 i = nI (e i)) (hi : ∀ i, q < i → i ≤ m → pn 0 i = nI (e (i - 1))) : ∃ pn', Pl_enqueue_b69 x y pn (nI z) (nI q) = some pn' ∧ QR (m + 1) (insN q z e) pn' ∧ pn' 2 = pn 2 ∧ pn' 3 = pn 3 := by
  refine ⟨upm (upm pn 0 q (nI z)) 1 0 (nI (m + 1)), ?_, ⟨by rw [upm_0, pk_us], fun i hi' => ?_⟩, ?_, ?_⟩
  · unfold Pl_enqueue_b69
    rw [ckI_nI _ (by omega) (by omega), nI_clamp (by omega), stk_r, stk_r, upm_n _ _ _ (show (1 : Nat) ≠ 0 by omega), e1, nI_1]
  · rw [upm_n _ _ _ (show (0 : Nat) ≠ 1 by omega), upm_0]
    by_cases h : i = q
    · subst h; rw [pk_us, ins_eq]
    · rw [pk_un h]
      by_cases h1 : i < q
      · rw [ins_lt h1]; exact lo i h1
      · rw [ins_gt (by omega)]; exact hi i (by omega) (by omega)
  · rw [upm_n _ _ _ (by omega), upm_n _ _ _ (by omega)]
  · rw [upm_n _ _ _ (by omega), upm_n _ _ _ (by omega)]
theorem enq_l {z : Nat} (hz : z < 2 ^ 30) (hm : m < 20) (hb : ∀ i, i < m → e i < 2 ^ 30) : ∀ (q N : Nat) (pn : Mem), q < N → q ≤ m → pn 1 0 = nI m → (∀ i, i < q → pn 0 i = nI (e i)) → (∀ i, q < i → i ≤ m → pn 0 i = nI (e (i - 1))) → (∀ i, q ≤ i → i < m → z < e i) → ∃ p pn', Pl_enqueue_b29 x y N pn (nI z) (nI q) = some pn' ∧ p ≤ m ∧ (0 < p → e (p - 1) ≤ z) ∧ (∀ i, p ≤ i → i < m → z < e i) ∧ QR (m + 1) (insN p z e) pn' ∧ pn' 2 = pn 2 ∧ pn' 3 = pn 3
  | 0, N + 1, pn, _, hq, e1, lo, hi, gt => by
    obtain ⟨pn', a1, a2, a3, a4⟩ := enq_x (x := x) (y := y) (z := z) hm hq e1 lo hi
    refine ⟨0, pn', ?_, by omega, by omega, gt, a2, a3, a4⟩
    show Pl_enqueue_b29B x y (Pl_enqueue_b29 x y N) pn (nI z) (nI 0) = _
    unfold Pl_enqueue_b29B
    rw [if_pos (show nI 0 ≤ 0 by decide), a1]
  | q + 1, N + 1, pn, hN, hq, e1, lo, hi, gt => by
    show ∃ p pn', Pl_enqueue_b29B x y (Pl_enqueue_b29 x y N) pn (nI z) (nI (q + 1)) = some pn' ∧ _
    unfold Pl_enqueue_b29B
    have hbq := hb q (by omega)
    rw [if_neg (nI_nle (by omega) (by omega)), nI_pred, ckI_nI _ (by omega) (by omega), nI_clamp (by omega), lo q (by omega)]
    by_cases h : e q ≤ z
    · obtain ⟨pn', a1, a2, a3, a4⟩ := enq_x (x := x) (y := y) (z := z) hm hq e1 lo hi
      rw [if_pos (nI_le h (by omega)), a1]
      exact ⟨q + 1, pn', rfl, hq, fun _ => h, gt, a2, a3, a4⟩
    · rw [if_neg (nI_ge (by omega) (by omega)), ckI_nI _ (by omega) (by omega), nI_clamp (by omega), pk_m1, stk_r, stk_r]
      obtain ⟨p, pn', a1, a2, a3, a4, a5, a6, a7⟩ := enq_l hz hm hb q N (upm pn 0 (q + 1) (nI (e q))) (by omega) (by omega) (by rw [upm_n _ _ _ (by omega)]; exact e1) (fun i h1 => by rw [upm_0, pk_un (by omega)]; exact lo i (by omega)) (fun i h1 h2 => by
        rw [upm_0]
        by_cases h3 : i = q + 1
        · subst h3; rw [pk_us]; rfl
        · rw [pk_un h3]; exact hi i (by omega) h2) (fun i h1 h2 => by
        by_cases h3 : i = q
        · subst h3; omega
        · exact gt i (by omega) h2)
      exact ⟨p, pn', a1, a2, a3, a4, a5, by rw [a6, upm_n _ _ _ (by omega)], by rw [a7, upm_n _ _ _ (by omega)]⟩
/-- the queue of those of the first k that are to be -/
def QS (k : Nat) (C : Nat → Bool) (K : Nat → Nat) (m : Nat) (e : Nat → Nat) (pn : Mem) : Prop := QR m e pn ∧ m = cn C k ∧ (∀ i j, i < j → j < m → e i < e j) ∧ (∀ i, i < m → ∃ f, f < k ∧ C f = true ∧ e i = 32 * K f + f) ∧ ∀ f, f < k → C f = true → ∃ i, i < m ∧ e i = 32 * K f + f
theorem QS.zero (h : pn 1 0 = 0) : QS 0 C K 0 e pn := ⟨⟨h, fun i hi => by omega⟩, rfl, fun i j _ hj => by omega, fun i hi => by omega, fun f hf => by omega⟩
theorem QS.no (h : QS k C K m e pn) (hc : C k = false) : QS (k + 1) C K m e pn := ⟨h.1, by show m = cn C k + (if C k = true then 1 else 0); rw [hc, ← h.2.1]; rfl, h.2.2.1, fun i hi => by obtain ⟨f, h1, h2⟩ := h.2.2.2.1 i hi; exact ⟨f, by omega, h2⟩, fun f hf hcf => by
  by_cases q : f = k
  · subst q; rw [hc] at hcf; exact Bool.noConfusion hcf
  · exact h.2.2.2.2 f (by omega) hcf⟩
theorem QS.add (h : QS k C K m e pn) (hc : C k = true) (hk : k < 20) (hK : ∀ f, f < 20 → K f < 10000) : ∃ e' pn', Pl_enqueue pn (nI (K k)) (nI k) = some pn' ∧ QS (k + 1) C K (m + 1) e' pn' ∧ pn' 2 = pn 2 ∧ pn' 3 = pn 3 := by
  obtain ⟨⟨h1, h2⟩, h3', h4, h5, h6⟩ := h
  have h3 : m ≤ k := by rw [h3']; exact cn_le C k
  have hKk := hK k hk
  have hb : ∀ i, i < m → e i < 2 ^ 30 := fun i hi => by
    obtain ⟨f, a1, a2, a3⟩ := h5 i hi
    have := hK f (by omega)
    omega
  have sh : nI (K k) <<< ((5 : Int32) &&& 31) + nI k = nI (32 * K k + k) := by
    rw [pk_shlN _ 5 (by decide) (by omega), nI_add, show K k * 2 ^ 5 = 32 * K k by omega]
  obtain ⟨p, pn', a1, a2, a3, a4, a5, a6, a7⟩ := enq_l (x := nI (K k)) (y := nI k) (z := 32 * K k + k) (by omega) (show m < 20 by omega) hb m fl pn (by rw [fl_v]; omega) (Nat.le_refl m) h1 h2 (fun i h1 h2 => by omega) (fun i h1 h2 => by omega)
  have ne : ∀ i, i < m → e i ≠ 32 * K k + k := fun i hi z => by
    obtain ⟨f, b1, b2, b3⟩ := h5 i hi
    omega
  have lt : ∀ i, i < p → e i < 32 * K k + k := fun i hi => by
    have l := a3 (by omega)
    have n1 := ne i (by omega)
    by_cases q : i = p - 1
    · subst q; omega
    · have := h4 i (p - 1) (by omega) (by omega); omega
  refine ⟨insN p (32 * K k + k) e, pn', ?_, ⟨a5, by show m + 1 = cn C k + (if C k = true then 1 else 0); rw [if_pos hc, ← h3'], fun i j hij hj => ?_, fun i hi => ?_, fun f hf hcf => ?_⟩, a6, a7⟩
  · unfold Pl_enqueue
    rw [h1, if_neg (nI_pos (by omega)), if_pos (show nI m < 20 from nI_lt (b := 20) (by omega) (by omega)), sh, stk_r, stk_r]
    exact a1
  · by_cases q : j < p
    · rw [ins_lt q, ins_lt (by omega)]; exact h4 i j hij (by omega)
    · by_cases q2 : j = p
      · subst q2; rw [ins_eq, ins_lt hij]; exact lt i hij
      · rw [ins_gt (i := j) (by omega)]
        by_cases q3 : i < p
        · rw [ins_lt q3]; exact h4 i (j - 1) (by omega) (by omega)
        · by_cases q4 : i = p
          · subst q4; rw [ins_eq]; exact a4 (j - 1) (by omega) (by omega)
          · rw [ins_gt (by omega)]; exact h4 (i - 1) (j - 1) (by omega) (by omega)
  · by_cases q : i < p
    · rw [ins_lt q]; obtain ⟨f, b1, b2, b3⟩ := h5 i (by omega); exact ⟨f, by omega, b2, b3⟩
    · by_cases q2 : i = p
      · subst q2; rw [ins_eq]; exact ⟨k, by omega, hc, rfl⟩
      · rw [ins_gt (by omega)]; obtain ⟨f, b1, b2, b3⟩ := h5 (i - 1) (by omega); exact ⟨f, by omega, b2, b3⟩
  · by_cases q : f = k
    · subst q; exact ⟨p, by omega, ins_eq⟩
    · obtain ⟨i, b1, b2⟩ := h6 f (by omega) hcf
      by_cases q2 : i < p
      · exact ⟨i, by omega, by rw [ins_lt q2]; exact b2⟩
      · exact ⟨i + 1, by omega, by rw [ins_gt (by omega)]; exact b2⟩
/-- the reference's choice -/
def bk (c : Nat → Bool) (K : Nat → Nat) : Nat → Int32
  | 0 => -1
  | k + 1 => if c k then (if bk c K k = -1 then nI k else if K k < K (bk c K k).toNatClampNeg then nI k else bk c K k) else bk c K k
theorem bk_spec {c : Nat → Bool} : ∀ k, k ≤ 20 → (bk c K k = -1 ∧ ∀ f, f < k → c f = false) ∨ ∃ g, g < k ∧ bk c K k = nI g ∧ c g = true ∧ ∀ f, f < k → c f = true → 32 * K g + g ≤ 32 * K f + f
  | 0, _ => Or.inl ⟨rfl, fun f hf => by omega⟩
  | k + 1, hk => by
    show (ite _ _ _ = -1 ∧ _) ∨ ∃ g, g < k + 1 ∧ ite _ _ _ = nI g ∧ _
    have ih := bk_spec (c := c) k (by omega)
    by_cases hc : c k = true
    · rw [if_pos hc]
      rcases ih with ⟨e, no⟩ | ⟨g, hg, e, cg, mn⟩
      · rw [if_pos e]
        refine Or.inr ⟨k, by omega, rfl, hc, fun f hf hcf => ?_⟩
        by_cases q : f = k
        · subst q; omega
        · have := no f (by omega); rw [this] at hcf; exact Bool.noConfusion hcf
      · rw [if_neg (by rw [e]; exact fun z => by rw [nI_eqm (by omega)] at z; exact z), e, nI_clamp (by omega)]
        by_cases q : K k < K g
        · rw [if_pos q]
          refine Or.inr ⟨k, by omega, rfl, hc, fun f hf hcf => ?_⟩
          by_cases q2 : f = k
          · subst q2; omega
          · have := mn f (by omega) hcf; omega
        · rw [if_neg q]
          refine Or.inr ⟨g, by omega, rfl, cg, fun f hf hcf => ?_⟩
          by_cases q2 : f = k
          · subst q2; omega
          · exact mn f (by omega) hcf
    · rw [if_neg hc]
      rcases ih with ⟨e, no⟩ | ⟨g, hg, e, cg, mn⟩
      · refine Or.inl ⟨e, fun f hf => ?_⟩
        by_cases q : f = k
        · subst q; exact Bool.not_eq_true _ ▸ hc
        · exact no f (by omega)
      · refine Or.inr ⟨g, by omega, e, cg, fun f hf hcf => ?_⟩
        by_cases q : f = k
        · subst q; exact absurd hcf hc
        · exact mn f (by omega) hcf
theorem firstOf_g {c : Nat → Bool} {p1 p2 p3 : Int32} (hn : n ≤ 20) (hs : mo 0 173 = nI n) (hc : ∀ f, f < n → ∀ k6 x4, Mo_firstOf_b6B mo p1 p2 p3 k6 x4 (nI f) = if c f then Mo_firstOf_b122 mo p1 p2 p3 k6 x4 (nI f) 1 else k6 x4 (nI (f + 1))) (ha : ∀ f g, f < n → g < n → c f = true → c g = true → Mo_isAhead mo (nI f) (nI g) p2 = some (bI (K f < K g))) : Mo_firstOf mo p1 p2 p3 = some (bk c K n) := by
  have l : ∀ (r k N : Nat), k + r = n → r < N → Mo_firstOf_b6 mo p1 p2 p3 N (bk c K k) (nI k) = some (bk c K n) := by
    intro r
    induction r with
    | zero =>
      intro k N hk hN
      obtain ⟨N, rfl⟩ : ∃ q, N = q + 1 := ⟨N - 1, by omega⟩
      have e : k = n := by omega
      subst e
      show Mo_firstOf_b6B mo p1 p2 p3 (Mo_firstOf_b6 mo p1 p2 p3 N) (bk c K k) (nI k) = _
      unfold Mo_firstOf_b6B
      rw [n173 (mo := mo), k173, hs, if_pos (nI_le (Nat.le_refl _) (by omega))]
    | succ r ih =>
      intro k N hk hN
      obtain ⟨N, rfl⟩ : ∃ q, N = q + 1 := ⟨N - 1, by omega⟩
      show Mo_firstOf_b6B mo p1 p2 p3 (Mo_firstOf_b6 mo p1 p2 p3 N) (bk c K k) (nI k) = _
      rw [hc k (by omega)]
      have ih' := ih (k + 1) N (by omega) (by omega)
      have un : bk c K (k + 1) = if c k then (if bk c K k = -1 then nI k else if K k < K (bk c K k).toNatClampNeg then nI k else bk c K k) else bk c K k := rfl
      rw [un] at ih'
      by_cases q : c k = true
      · rw [if_pos q] at ih' ⊢
        unfold Mo_firstOf_b122
        rw [if_neg (by decide)]
        simp only [stk_r, nI_1]
        by_cases q2 : bk c K k = -1
        · rw [if_pos q2] at ih' ⊢
          exact ih'
        · rw [if_neg q2] at ih' ⊢
          rcases bk_spec (c := c) (K := K) k (by omega) with ⟨e, -⟩ | ⟨g, hg, e, cg, -⟩
          · exact absurd e q2
          · rw [e] at ih' ⊢
            rw [nI_clamp (by omega)] at ih'
            rw [ha k g (by omega) (by omega) q cg, bn1_r, bI_z]
            by_cases q3 : K k < K g
            · rw [if_pos q3] at ih' ⊢; exact ih'
            · rw [if_neg q3] at ih' ⊢; exact ih'
      · rw [if_neg q] at ih' ⊢
        exact ih'
  exact l n 0 fl (by omega) (by rw [fl_v]; omega)
/-- what is picked is the queue's next -/
theorem pick_s {i : Nat} (hn : n ≤ 20) (hq : QS 20 C K m e pn) (hC : ∀ f, f < 20 → C f = true → f < n) (him : i ≤ m) {c : Nat → Bool} (hcc : ∀ f, f < n → (c f = true ↔ C f = true ∧ ∀ j, j < i → e j ≠ 32 * K f + f)) : bk c K n = if i < m then nI (e i % 32) else -1 := by
  obtain ⟨-, h3, h4, h5, h6⟩ := hq
  rcases bk_spec (c := c) (K := K) n hn with ⟨e1, no⟩ | ⟨g, hg, e1, cg, mn⟩
  · by_cases q : i < m
    · exfalso
      obtain ⟨f, b1', b2, b3⟩ := h5 i q
      have b1 := hC f b1' b2
      have := no f b1
      have ct : c f = true := (hcc f b1).mpr ⟨b2, fun j hj z => by have := h4 j i hj q; omega⟩
      rw [this] at ct
      exact Bool.noConfusion ct
    · rw [if_neg q]; exact e1
  · obtain ⟨d1, d2⟩ := (hcc g hg).mp cg
    obtain ⟨j, j1, j2⟩ := h6 g (by omega) d1
    have ij : i ≤ j := Nat.le_of_not_lt (fun z => d2 j z j2)
    have q : i < m := by omega
    rw [if_pos q, e1]
    obtain ⟨f, b1', b2, b3⟩ := h5 i q
    have b1 := hC f b1' b2
    have ct : c f = true := (hcc f b1).mpr ⟨b2, fun j' hj' z => by have := h4 j' i hj' q; omega⟩
    have le := mn f b1 ct
    have eq : i = j := by
      by_cases z : i = j
      · exact z
      · have := h4 i j (by omega) j1; omega
    subst eq
    rw [j2]
    congr 1
    omega
/-! who is ahead -/
def etN (s : Nat → Int32) (f : Nat) : Nat := (s (8 * f + 1)).toNatClampNeg
def wtN (s : Nat → Int32) (f : Nat) : Nat := (9 - (s (8 * f + 3)).toNatClampNeg) * 720 + etN s f
theorem et_v {f : Nat} (j : Jf n s) (hf : f < n) : s (8 * f + 1) = nI (etN s f) ∧ etN s f < 720 := by
  obtain ⟨a, b, c, d, -, -, e, h, -⟩ := j f hf
  unfold etN
  rw [e, nI_clamp (by omega)]
  exact ⟨rfl, h⟩
theorem ah_41 {f g a b : Nat} {p : Int32} (hf : f < 20) (hg : g < 20) (hp : ¬ p = 3) (e1 : mo 0 (8 * f + 1) = nI a) (e2 : mo 0 (8 * g + 1) = nI b) (ha : a < 720) (hb : b < 720) : Mo_isAhead_b41 mo (nI f) (nI g) p = some (bI (a < b)) := by
  unfold Mo_isAhead_b41 Mo_isAhead_b62 Mo_isAhead_b86
  rw [Mo_of_1 hf, bn1_r, if_neg hp, stk_r, Mo_of_1 hg, bn1_r, if_neg hp, stk_r, e1, e2, Int32.add_zero, Int32.add_zero]
  by_cases q : a < b
  · rw [if_neg (nI_ge q (by omega)), bI_t q]
  · rw [if_pos (nI_le (by omega) (by omega)), bI_f q]
theorem ah_0 {p : Int32} (hn : n ≤ 20) (j : Jf n (mo 0)) (hp : ¬ p = 1) (hp3 : ¬ p = 3) : ∀ f g, f < n → g < n → Mo_isAhead mo (nI f) (nI g) p = some (bI (etN (mo 0) f < etN (mo 0) g)) := fun f g hf hg => by
  obtain ⟨a1, a2⟩ := et_v j hf
  obtain ⟨b1, b2⟩ := et_v j hg
  unfold Mo_isAhead
  rw [if_neg hp, ah_41 (by omega) (by omega) hp3 a1 b1 a2 b2]
theorem ah_1 (hn : n ≤ 20) (j : Jf n (mo 0)) : ∀ f g, f < n → g < n → Mo_isAhead mo (nI f) (nI g) 1 = some (bI (wtN (mo 0) f < wtN (mo 0) g)) := fun f g hf hg => by
  obtain ⟨a1, a2⟩ := et_v j hf
  obtain ⟨b1, b2⟩ := et_v j hg
  obtain ⟨-, -, -, d, -, -, -, -, -, -, e1, h1, h2⟩ := j f hf
  obtain ⟨-, -, -, d', -, -, -, -, -, -, e2, h1', h2'⟩ := j g hg
  unfold Mo_isAhead wtN
  rw [if_pos rfl, Mo_of_3 (by omega), Mo_of_3 (by omega), bn1_r, bn1_r, bn1_r, bn1_r, e1, e2, nI_clamp (by omega), nI_clamp (by omega)]
  by_cases q : d = d'
  · subst q
    rw [if_pos rfl, ah_41 (by omega) (by omega) (by decide) a1 b1 a2 b2]
    exact congrArg some (bI_iff ⟨fun z => by omega, fun z => by omega⟩)
  · rw [if_neg (fun z => q ((nI_eq (by omega) (by omega)).mp z))]
    by_cases q2 : d ≤ d'
    · rw [if_pos (nI_le q2 (by omega)), bI_f]
      intro z
      have : (9 - d) * 720 ≥ (9 - d' + 1) * 720 := Nat.mul_le_mul_right 720 (by omega)
      omega
    · rw [if_neg (nI_ge (by omega) (by omega)), bI_t]
      have : (9 - d' ) * 720 ≥ (9 - d + 1) * 720 := Nat.mul_le_mul_right 720 (by omega)
      omega
end QU
