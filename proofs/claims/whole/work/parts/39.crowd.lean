/-! crowded -/
def stN (s : Nat → Int32) (f : Nat) : Nat := (s (8 * f + 1) + s (8 * f + 5)).toNatClampNeg - (s (8 * f + 2)).toNatClampNeg
def slN (s : Nat → Int32) (f : Nat) : Nat := (s (8 * f + 4)).toNatClampNeg
/-- how many are under way at minute m -/
def uN (n : Nat) (s : Nat → Int32) (m : Nat) : Nat := cn (uwB n s (nI m)) n
theorem argmax {P : Nat → Prop} (c : Nat → Nat) : ∀ {n : Nat}, (∃ g, g < n ∧ P g) → ∃ f, f < n ∧ P f ∧ ∀ g, g < n → P g → c g ≤ c f
  | 0, ⟨g, hg, _⟩ => by omega
  | n + 1, ⟨g, hg, hp⟩ => by
    by_cases h : ∃ g, g < n ∧ P g
    · obtain ⟨f, hf, hpf, hm⟩ := argmax c h
      by_cases hn : P n ∧ c f < c n
      · refine ⟨n, by omega, hn.1, fun g hg hpg => ?_⟩
        by_cases e : g = n
        · subst e; exact Nat.le_refl _
        · have := hm g (by omega) hpg; omega
      · refine ⟨f, by omega, hpf, fun g hg hpg => ?_⟩
        by_cases e : g = n
        · subst e
          exact Nat.le_of_not_lt (fun z => hn ⟨hpg, z⟩)
        · exact hm g (by omega) hpg
    · have e : g = n := by
        by_cases e : g = n
        · exact e
        · exact absurd ⟨g, by omega, hp⟩ h
      subst e
      refine ⟨g, by omega, hp, fun g' hg' hpg' => ?_⟩
      by_cases e2 : g' = g
      · subst e2; exact Nat.le_refl _
      · exact absurd ⟨g', by omega, hpg'⟩ h
theorem cn_le_cn {P Q : Nat → Bool} : ∀ {k : Nat}, (∀ i, i < k → P i = true → Q i = true) → cn P k ≤ cn Q k
  | 0, _ => Nat.le_refl 0
  | k + 1, h => by
    show cn P k + _ ≤ cn Q k + _
    have h1 := cn_le_cn (P := P) (Q := Q) (k := k) (fun i hi => h i (by omega))
    by_cases hp : P k = true
    · rw [if_pos hp, if_pos (h k (by omega) hp)]; omega
    · rw [if_neg hp]; omega
theorem cn_pos {P : Nat → Bool} : ∀ {k : Nat}, 0 < cn P k → ∃ i, i < k ∧ P i = true
  | 0, h => absurd h (Nat.lt_irrefl 0)
  | k + 1, h => by
    by_cases hp : P k = true
    · exact ⟨k, by omega, hp⟩
    · have h2 : 0 < cn P k := by
        have h3 : cn P (k + 1) = cn P k + (if P k then 1 else 0) := rfl
        rw [if_neg hp] at h3; omega
      obtain ⟨i, hi, e⟩ := cn_pos h2
      exact ⟨i, by omega, e⟩
section CR
variable {n v : Nat} {fo ro ra vc os li mo : Mem} {x y : Int32}
theorem pdN {f : Nat} (j : J n (mo 0)) (hf : f < n) (hp : Pd (mo 0) f) : (if (0 : Int32) < goS (mo 0) f then goS (mo 0) f else 0) = nI (stN (mo 0) f) ∧ stN (mo 0) f < 1200 ∧ mo 0 (8 * f + 4) = nI (slN (mo 0) f) ∧ slN (mo 0) f < 1200 ∧ ∀ m, m < 2000 → (goS (mo 0) f ≤ nI m ↔ stN (mo 0) f ≤ m) := by
  obtain ⟨b, c, t, m, hh, k, e1, e2, -, e4, e5, -, hm, em, -, hb, hc, -⟩ := j.2.2.2.1 f hf hp
  have eg : goS (mo 0) f = nI (b + hh) - nI c := by
    show mo 0 (8 * f + 1) - mo 0 (8 * f + 2) + mo 0 (8 * f + 5) = _
    rw [e1, e2, e5, ← nI_add]
    rw [Int32.sub_eq_add_neg, Int32.sub_eq_add_neg, Int32.add_assoc, Int32.add_comm (-nI c), ← Int32.add_assoc]
  unfold stN slN
  rw [eg, e1, e2, e4, e5, nI_add, nI_clamp (by omega), nI_clamp (by omega), nI_clamp (by omega)]
  have ti : (nI (b + hh) - nI c).toInt = ((b + hh : Nat) : Int) - (c : Int) := pk_sub_toInt (by omega) (by omega)
  refine ⟨?_, by omega, rfl, by omega, fun m' hm' => ?_⟩
  · by_cases hz : c < b + hh
    · rw [pk_sub (by omega), if_pos (show (0 : Int32) < nI (b + hh - c) from nI_lt (a := 0) (by omega) (by omega))]
    · rw [if_neg, show b + hh - c = 0 by omega]
      · rfl
      · intro z
        have := Int32.lt_iff_toInt_lt.mp z
        rw [ti] at this
        have h0 : (0 : Int32).toInt = 0 := by decide
        omega
  · rw [Int32.le_iff_toInt_le, ti, nI_toInt (by omega)]
    omega
theorem uw_iff {f m : Nat} (j : J n (mo 0)) (hm : m < 2000) : uwB n (mo 0) (nI m) f = true ↔ f < n ∧ Pd (mo 0) f ∧ stN (mo 0) f ≤ m ∧ m < slN (mo 0) f := by
  unfold uwB
  rw [decide_eq_true_iff]
  constructor
  · rintro ⟨h1, h2, h3, h4⟩
    obtain ⟨-, -, e4, h5, h6⟩ := pdN j h1 h2
    rw [e4, nI_ltI (by omega) (by omega)] at h4
    exact ⟨h1, h2, (h6 m hm).mp h3, h4⟩
  · rintro ⟨h1, h2, h3, h4⟩
    obtain ⟨-, -, e4, h5, h6⟩ := pdN j h1 h2
    exact ⟨h1, h2, (h6 m hm).mpr h3, by rw [e4]; exact nI_lt h4 (by omega)⟩
/-- where some are under way, one of them went off no later, and then there were no fewer -/
theorem uN_back {m : Nat} (j : J n (mo 0)) (hm : m < 1200) (h : 0 < uN n (mo 0) m) : ∃ f, f < n ∧ Pd (mo 0) f ∧ stN (mo 0) f ≤ m ∧ uN n (mo 0) m ≤ uN n (mo 0) (stN (mo 0) f) := by
  obtain ⟨g, hg, hu⟩ := cn_pos h
  obtain ⟨f, hf, hpf, hmax⟩ := argmax (P := fun g => uwB n (mo 0) (nI m) g = true) (stN (mo 0)) ⟨g, hg, hu⟩
  obtain ⟨h1, h2, h3, h4⟩ := (uw_iff j (by omega)).mp hpf
  refine ⟨f, hf, h2, h3, cn_le_cn (fun i hi hui => ?_)⟩
  obtain ⟨i1, i2, i3, i4⟩ := (uw_iff j (by omega)).mp hui
  exact (uw_iff j (by omega)).mpr ⟨i1, i2, hmax i hi hui, by omega⟩
/-- the most, and the first minute of it, among the first i minutes -/
def crT (n : Nat) (s : Nat → Int32) (i M t : Nat) : Prop := (M = 0 ∧ t = 0 ∧ ∀ m, m < i → uN n s m = 0) ∨ (0 < M ∧ t < i ∧ uN n s t = M ∧ (∀ m, m < i → uN n s m ≤ M) ∧ ∀ m, m < t → uN n s m < M)
theorem crT_uniq {s : Nat → Int32} {i M t M' t' : Nat} (h : crT n s i M t) (h' : crT n s i M' t') : M = M' ∧ t = t' := by
  rcases h with ⟨a1, a2, a3⟩ | ⟨a1, a2, a3, a4, a5⟩
  · rcases h' with ⟨b1, b2, b3⟩ | ⟨b1, b2, b3, b4, b5⟩
    · exact ⟨by omega, by omega⟩
    · have := a3 t' b2; omega
  · rcases h' with ⟨b1, b2, b3⟩ | ⟨b1, b2, b3, b4, b5⟩
    · have := b3 t a2; omega
    · have h1 := a4 t' b2
      have h2 := b4 t a2
      refine ⟨by omega, ?_⟩
      rcases Nat.lt_trichotomy t t' with h | h | h
      · have := b5 t h; omega
      · exact h
      · have := a5 t' h; omega
theorem uN_le (hn : n ≤ 20) (s : Nat → Int32) (m : Nat) : uN n s m ≤ 20 := Nat.le_trans (cn_le _ n) hn
theorem Mo_crowd_in {p x2 x3 : Int32} {m : Nat} (hn : n ≤ 20) (hs : mo 0 173 = nI n) (k18 : Int32 → Int32 → Int32 → Option Int32) : Mo_crowded_b32 mo p k18 fl x2 x3 (nI m) 0 0 = if x2 < nI (uN n (mo 0) m) then k18 (nI (uN n (mo 0) m)) (nI m) (nI (m + 1)) else k18 x2 x3 (nI (m + 1)) := by
  have e := for_sum (fun k a z => Mo_crowded_b32 mo p k18 k x2 x3 (nI m) a z) n (fun f => if uwB n (mo 0) (nI m) f then 1 else 0) (fun a => if x2 < a then k18 a (nI m) (nI (m + 1)) else k18 x2 x3 (nI (m + 1))) (by omega) (fun k i a hi => ?_) (fun k a => ?_)
  · rw [sm_cn] at e; exact e
  · show Mo_crowded_b32B mo p k18 (Mo_crowded_b32 mo p k18 k) x2 x3 (nI m) a (nI i) = _
    unfold Mo_crowded_b32B
    rw [n173 (mo := mo), k173, hs, if_neg (nI_ge hi (by omega)), Mo_isUnderWay_s (by omega)]
    simp only [bn1_r, stk_r, nI_1, bI_z]
    by_cases hu : UW (mo 0) (nI m) i
    · rw [if_pos hu, if_pos (show uwB n (mo 0) (nI m) i = true from decide_eq_true ⟨hi, hu⟩)]
    · rw [if_neg hu, if_neg (show ¬ uwB n (mo 0) (nI m) i = true from fun z => hu (of_decide_eq_true z).2)]
  · show Mo_crowded_b32B mo p k18 (Mo_crowded_b32 mo p k18 k) x2 x3 (nI m) a (nI n) = _
    unfold Mo_crowded_b32B
    rw [n173 (mo := mo), k173, hs, if_pos (nI_le (Nat.le_refl n) (by omega)), stk_r, stk_r, nI_1]
theorem Mo_crowd_l {p : Int32} (hn : n ≤ 20) (hs : mo 0 173 = nI n) : ∀ (r N m M t : Nat), m + r = 1200 → r < N → crT n (mo 0) m M t → ∃ M' t', crT n (mo 0) 1200 M' t' ∧ Mo_crowded_b18 mo p N (nI M) (nI t) (nI m) = if p = 0 then some (nI M') else some (nI t')
  | 0, N + 1, m, M, t, hm, _, hc => by
    have e : m = 1200 := by omega
    subst e
    refine ⟨M, t, hc, ?_⟩
    show Mo_crowded_b18B mo p (Mo_crowded_b18 mo p N) (nI M) (nI t) (nI 1200) = _
    unfold Mo_crowded_b18B
    rw [if_pos (show (1200 : Int32) ≤ nI 1200 by decide)]
  | r + 1, N + 1, m, M, t, hm, hN, hc => by
    have hu := uN_le hn (mo 0) m
    have hM : M ≤ 20 := by
      rcases hc with ⟨a1, -⟩ | ⟨a1, a2, a3, -⟩
      · omega
      · have := uN_le hn (mo 0) t; omega
    have e : Mo_crowded_b18 mo p (N + 1) (nI M) (nI t) (nI m) = if nI M < nI (uN n (mo 0) m) then Mo_crowded_b18 mo p N (nI (uN n (mo 0) m)) (nI m) (nI (m + 1)) else Mo_crowded_b18 mo p N (nI M) (nI t) (nI (m + 1)) := by
      show Mo_crowded_b18B mo p (Mo_crowded_b18 mo p N) (nI M) (nI t) (nI m) = _
      unfold Mo_crowded_b18B
      rw [if_neg (show ¬ 1200 ≤ nI m from nI_ge (b := 1200) (by omega) (by omega)), Mo_crowd_in hn hs]
    rw [e]
    by_cases hlt : M < uN n (mo 0) m
    · rw [if_pos (nI_lt hlt (by omega))]
      refine Mo_crowd_l hn hs r N (m + 1) (uN n (mo 0) m) m (by omega) (by omega) (Or.inr ⟨by omega, by omega, rfl, fun m' hm' => ?_, fun m' hm' => ?_⟩)
      · rcases hc with ⟨a1, a2, a3⟩ | ⟨a1, a2, a3, a4, a5⟩
        · by_cases e : m' = m
          · subst e; exact Nat.le_refl _
          · have := a3 m' (by omega); omega
        · by_cases e : m' = m
          · subst e; exact Nat.le_refl _
          · have := a4 m' (by omega); omega
      · rcases hc with ⟨a1, a2, a3⟩ | ⟨a1, a2, a3, a4, a5⟩
        · have := a3 m' hm'; omega
        · have := a4 m' hm'; omega
    · rw [if_neg (nI_nlt (by omega) (by omega))]
      refine Mo_crowd_l hn hs r N (m + 1) M t (by omega) (by omega) ?_
      rcases hc with ⟨a1, a2, a3⟩ | ⟨a1, a2, a3, a4, a5⟩
      · refine Or.inl ⟨a1, a2, fun m' hm' => ?_⟩
        by_cases e : m' = m
        · subst e; omega
        · exact a3 m' (by omega)
      · refine Or.inr ⟨a1, by omega, a3, fun m' hm' => ?_, a5⟩
        by_cases e : m' = m
        · subst e; omega
        · exact a4 m' (by omega)
/-- the class's, among the minutes at which the first k flights go off -/
def crC (n : Nat) (s : Nat → Int32) (k M t : Nat) : Prop := (M = 0 ∧ t = 0 ∧ ∀ f, f < k → f < n → Pd s f → uN n s (stN s f) = 0) ∨ (0 < M ∧ t < 1200 ∧ uN n s t = M ∧ ∀ f, f < k → f < n → Pd s f → uN n s (stN s f) < M ∨ (uN n s (stN s f) = M ∧ t ≤ stN s f))
theorem crC_T {M t : Nat} (j : J n (mo 0)) (h : crC n (mo 0) 20 M t) (hn : n ≤ 20) : crT n (mo 0) 1200 M t := by
  rcases h with ⟨a1, a2, a3⟩ | ⟨a1, a2, a3, a4⟩
  · refine Or.inl ⟨a1, a2, fun m hm => ?_⟩
    by_cases h0 : 0 < uN n (mo 0) m
    · obtain ⟨f, hf, hp, h1, h2⟩ := uN_back j hm h0
      have := a3 f (by omega) hf hp
      omega
    · omega
  · refine Or.inr ⟨a1, a2, a3, fun m hm => ?_, fun m hm => ?_⟩
    · by_cases h0 : 0 < uN n (mo 0) m
      · obtain ⟨f, hf, hp, h1, h2⟩ := uN_back j hm h0
        rcases a4 f (by omega) hf hp with h | h <;> omega
      · omega
    · by_cases h0 : 0 < uN n (mo 0) m
      · obtain ⟨f, hf, hp, h1, h2⟩ := uN_back j (by omega) h0
        rcases a4 f (by omega) hf hp with h | h <;> omega
      · omega
theorem uN_20 (hn : n ≤ 20) (s : Nat → Int32) (m : Nat) : cn (uwB n s (nI m)) 20 = uN n s m := by
  unfold uN
  rw [show 20 = n + (20 - n) by omega]
  exact cn_tail n (20 - n) (fun j h1 _ => decide_eq_false (fun z => by omega))
theorem St_crowd_l {p : Int32} (h : Rf n fo ro (mo 0)) (j : J n (mo 0)) : ∀ (r N k M t : Nat), k + r = 20 → r < N → crC n (mo 0) k M t → ∃ M' t', crC n (mo 0) 20 M' t' ∧ St_crowded_b18 fo ro p N (nI M) (nI t) (nI k) = if p = 0 then some (nI M') else some (nI t')
  | 0, N + 1, k, M, t, hk, _, hc => by
    have e : k = 20 := by omega
    subst e
    exact ⟨M, t, hc, rfl⟩
  | r + 1, N + 1, k, M, t, hk, hN, hc => by
    have hn := h.n20
    have hk20 : k < 20 := by omega
    have hM : M ≤ 20 := by
      rcases hc with ⟨a1, -⟩ | ⟨a1, a2, a3, -⟩
      · omega
      · have := uN_le hn (mo 0) t; omega
    have ht : t < 1200 := by
      rcases hc with ⟨-, a1, -⟩ | ⟨-, a2, -⟩ <;> omega
    by_cases hp : k < n ∧ Pd (mo 0) k
    · obtain ⟨q1, q2, -, -, -⟩ := pdN j hp.1 hp.2
      have hu := uN_le hn (mo 0) (stN (mo 0) k)
      have e : St_crowded_b18 fo ro p (N + 1) (nI M) (nI t) (nI k) = if nI M < nI (uN n (mo 0) (stN (mo 0) k)) then St_crowded_b18 fo ro p N (nI (uN n (mo 0) (stN (mo 0) k))) (nI (stN (mo 0) k)) (nI (k + 1)) else if nI (uN n (mo 0) (stN (mo 0) k)) = nI M then if nI M ≤ 0 then St_crowded_b18 fo ro p N (nI M) (nI t) (nI (k + 1)) else if nI t ≤ nI (stN (mo 0) k) then St_crowded_b18 fo ro p N (nI M) (nI t) (nI (k + 1)) else St_crowded_b18 fo ro p N (nI (uN n (mo 0) (stN (mo 0) k))) (nI (stN (mo 0) k)) (nI (k + 1)) else St_crowded_b18 fo ro p N (nI M) (nI t) (nI (k + 1)) := by
        show St_crowded_b18B fo ro p (St_crowded_b18 fo ro p N) (nI M) (nI t) (nI k) = _
        unfold St_crowded_b18B
        rw [L20, if_neg (nI_ge hk20 (by omega)), Fi_isSeated_s h hk20, bn1_r, bI_z, if_pos hp, Fi_goesOff_s h hp.1 hp.2, bn1_r, stk_r]
        rw [show (if (0 : Int32) < goS (mo 0) k then goS (mo 0) k else 0) = nI (stN (mo 0) k) from q1, Fi_underWay_s h, bn1_r, pop_s, bn1_r, uN_20 hn]
        simp only [stk_r, nI_1]
      rw [e]
      by_cases hlt : M < uN n (mo 0) (stN (mo 0) k)
      · rw [if_pos (nI_lt hlt (by omega))]
        refine St_crowd_l h j r N (k + 1) _ _ (by omega) (by omega) (Or.inr ⟨by omega, q2, rfl, fun f hf hfn hpf => ?_⟩)
        by_cases ef : f = k
        · subst ef; exact Or.inr ⟨rfl, Nat.le_refl _⟩
        · rcases hc with ⟨a1, a2, a3⟩ | ⟨a1, a2, a3, a4⟩
          · have := a3 f (by omega) hfn hpf; omega
          · rcases a4 f (by omega) hfn hpf with h' | h' <;> omega
      · rw [if_neg (nI_nlt (by omega) (by omega))]
        have keep : (uN n (mo 0) (stN (mo 0) k) < M ∨ (uN n (mo 0) (stN (mo 0) k) = M ∧ (M = 0 ∨ t ≤ stN (mo 0) k))) → crC n (mo 0) (k + 1) M t := by
          intro hq
          rcases hc with ⟨a1, a2, a3⟩ | ⟨a1, a2, a3, a4⟩
          · refine Or.inl ⟨a1, a2, fun f hf hfn hpf => ?_⟩
            by_cases ef : f = k
            · subst ef; omega
            · exact a3 f (by omega) hfn hpf
          · refine Or.inr ⟨a1, a2, a3, fun f hf hfn hpf => ?_⟩
            by_cases ef : f = k
            · subst ef; omega
            · exact a4 f (by omega) hfn hpf
        by_cases heq : uN n (mo 0) (stN (mo 0) k) = M
        · rw [if_pos (by rw [heq])]
          by_cases h0 : M = 0
          · rw [if_pos (by rw [h0]; decide)]
            exact St_crowd_l h j r N (k + 1) M t (by omega) (by omega) (keep (Or.inr ⟨heq, Or.inl h0⟩))
          · rw [if_neg (nI_nle (by omega) (by omega))]
            by_cases hle : t ≤ stN (mo 0) k
            · rw [if_pos (nI_le hle (by omega))]
              exact St_crowd_l h j r N (k + 1) M t (by omega) (by omega) (keep (Or.inr ⟨heq, Or.inr hle⟩))
            · rw [if_neg (nI_ge (by omega) (by omega))]
              refine St_crowd_l h j r N (k + 1) _ _ (by omega) (by omega) (Or.inr ⟨by omega, q2, rfl, fun f hf hfn hpf => ?_⟩)
              by_cases ef : f = k
              · subst ef; exact Or.inr ⟨rfl, Nat.le_refl _⟩
              · rcases hc with ⟨a1, a2, a3⟩ | ⟨a1, a2, a3, a4⟩
                · omega
                · rcases a4 f (by omega) hfn hpf with h' | h' <;> omega
        · rw [if_neg (fun z => heq ((nI_eq (by omega) (by omega)).mp z))]
          exact St_crowd_l h j r N (k + 1) M t (by omega) (by omega) (keep (Or.inl (by omega)))
    · have e : St_crowded_b18 fo ro p (N + 1) (nI M) (nI t) (nI k) = St_crowded_b18 fo ro p N (nI M) (nI t) (nI (k + 1)) := by
        show St_crowded_b18B fo ro p (St_crowded_b18 fo ro p N) (nI M) (nI t) (nI k) = _
        unfold St_crowded_b18B
        rw [L20, if_neg (nI_ge hk20 (by omega)), Fi_isSeated_s h hk20, bn1_r, bI_z, if_neg hp, stk_r, nI_1]
      rw [e]
      refine St_crowd_l h j r N (k + 1) M t (by omega) (by omega) ?_
      rcases hc with ⟨a1, a2, a3⟩ | ⟨a1, a2, a3, a4⟩
      · refine Or.inl ⟨a1, a2, fun f hf hfn hpf => ?_⟩
        by_cases ef : f = k
        · subst ef; exact absurd ⟨hfn, hpf⟩ hp
        · exact a3 f (by omega) hfn hpf
      · refine Or.inr ⟨a1, a2, a3, fun f hf hfn hpf => ?_⟩
        by_cases ef : f = k
        · subst ef; exact absurd ⟨hfn, hpf⟩ hp
        · exact a4 f (by omega) hfn hpf
theorem q_crowded (h : RF n v fo ro ra vc os li (mo 0)) : ∃ r, St_crowded fo ro x = some r ∧ Mo_crowded mo x = some r := by
  have hn := h.f.n20
  unfold St_crowded Mo_crowded
  rw [show (1 : Int32) = nI 1 from rfl, Mo_in0 1 (by omega), bn1_r, bI_z]
  obtain ⟨M, t, h1, e1⟩ := Mo_crowd_l (p := x) hn h.f.sn 1200 fl 0 0 0 (by omega) (by rw [fl_v]; omega) (Or.inl ⟨rfl, rfl, fun m hm => by omega⟩)
  obtain ⟨M', t', h2, e2⟩ := St_crowd_l (p := x) h.f h.j 20 fl 0 0 0 (by omega) (by rw [fl_v]; omega) (Or.inl ⟨rfl, rfl, fun m hm => by omega⟩)
  obtain ⟨rfl, rfl⟩ := crT_uniq h1 (crC_T h.j h2 hn)
  by_cases hx : in0 x 2
  · have hx2 : x ≤ nI 1 := by
      obtain ⟨j, hj, rfl⟩ := in0_of hx (by omega)
      exact nI_le (by omega) (by omega)
    rw [if_neg hx.1, if_pos hx2, if_pos hx, show St_crowded_b18 fo ro x fl 0 0 0 = _ from e2, show Mo_crowded_b18 mo x fl 0 0 0 = _ from e1]
    by_cases h0 : x = 0
    · rw [if_pos h0]; exact ⟨_, rfl, rfl⟩
    · rw [if_neg h0]; exact ⟨_, rfl, rfl⟩
  · rw [if_neg hx]
    refine ⟨-1, ?_, rfl⟩
    by_cases h0 : x < 0
    · rw [if_pos h0]; rfl
    · rw [if_neg h0, if_neg (fun z => hx ((in0_le (k := 1) (by omega)).mp ⟨h0, Int32.not_lt.mpr z⟩))]; rfl
end CR
