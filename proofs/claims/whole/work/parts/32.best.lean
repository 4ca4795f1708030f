/-! the earliest slot of a sort: next, who fills -/
section BE
variable {n v : Nat} {fo ro ra vc os li mo : Mem} {x y : Int32}
/-- among the first k flights of the sort C the one with the earliest slot; -1, if there is none -/
def bst (s : Nat → Int32) (C : Nat → Bool) : Nat → Int32
  | 0 => -1
  | k + 1 => if C k then (if bst s C k = -1 then nI k else if s (8 * (bst s C k).toNatClampNeg + 4) ≤ s (8 * k + 4) then bst s C k else nI k) else bst s C k
theorem bst_or (s : Nat → Int32) (C : Nat → Bool) : ∀ k, k ≤ 20 → (bst s C k = -1 ∧ ∀ f, f < k → C f = false) ∨ ∃ g, g < k ∧ bst s C k = nI g ∧ C g = true
  | 0, _ => Or.inl ⟨rfl, fun f hf => by omega⟩
  | k + 1, hk => by
    show (ite _ _ _ = -1 ∧ _) ∨ ∃ g, g < k + 1 ∧ ite _ _ _ = nI g ∧ C g = true
    by_cases hc : C k = true
    · refine Or.inr ?_
      rw [if_pos hc]
      rcases bst_or s C k (by omega) with ⟨e, _⟩ | ⟨g, hg, e, hcg⟩
      · rw [if_pos e]; exact ⟨k, by omega, rfl, hc⟩
      · have hne : ¬ bst s C k = -1 := by rw [e]; exact fun z => by rw [nI_eqm (by omega)] at z; exact z
        rw [if_neg hne]
        split
        · exact ⟨g, by omega, e, hcg⟩
        · exact ⟨k, by omega, rfl, hc⟩
    · rw [if_neg hc]
      rcases bst_or s C k (by omega) with ⟨e, h0⟩ | ⟨g, hg, e, hcg⟩
      · refine Or.inl ⟨e, fun f hf => ?_⟩
        by_cases e2 : f = k
        · subst e2; exact Bool.not_eq_true _ ▸ hc
        · exact h0 f (by omega)
      · exact Or.inr ⟨g, by omega, e, hcg⟩
theorem bst_congr {s : Nat → Int32} {C D : Nat → Bool} : ∀ {k : Nat}, (∀ f, f < k → C f = D f) → bst s C k = bst s D k
  | 0, _ => rfl
  | k + 1, h => by
    show ite _ _ _ = ite _ _ _
    rw [bst_congr (fun f hf => h f (by omega)), h k (by omega)]
theorem bst_no {s : Nat → Int32} {C : Nat → Bool} {k : Nat} (h : C k = false) : bst s C (k + 1) = bst s C k := by
  show ite _ _ _ = _
  rw [h]; rfl
theorem bst_tail {s : Nat → Int32} {C : Nat → Bool} (m : Nat) : ∀ k, (∀ j, m ≤ j → j < m + k → C j = false) → bst s C (m + k) = bst s C m
  | 0, _ => rfl
  | k + 1, h => by
    show bst s C ((m + k) + 1) = bst s C m
    rw [bst_no (h (m + k) (by omega) (by omega))]
    exact bst_tail m k (fun j h1 h2 => h j h1 (by omega))
theorem neg1_in (z : Int32) (h : z = -1) : z < 0 := by rw [h]; decide
theorem Fi_isSeated_m : Fi_isSeated fo (-1) = some 0 := rfl
/-- the class keeps the one that it has where that is earlier, else the new one; slots differ, so it is the same -/
theorem earlier_s {s : Nat → Int32} {C : Nat → Bool} {k : Nat} (h : Rf n fo ro s) (hd : Jd n s) (hk : k < n) (hc : ∀ f, f ≤ k → C f = true → Pd s f) (hck : C k = true) : Fi_earlierSeated fo (bst s C k) (nI k) = some (bst s C (k + 1)) := by
  have hn := h.n20
  have e1 : bst s C (k + 1) = if bst s C k = -1 then nI k else if s (8 * (bst s C k).toNatClampNeg + 4) ≤ s (8 * k + 4) then bst s C k else nI k := by
    show ite _ _ _ = _
    rw [if_pos hck]
  have hpk := hc k (Nat.le_refl k) hck
  rw [e1]
  unfold Fi_earlierSeated
  rcases bst_or s C k (by omega) with ⟨e, _⟩ | ⟨g, hg, e, hcg⟩
  · rw [e, Fi_isSeated_m, bn1_r, if_pos rfl, if_pos rfl]
  · have hpg := hc g (by omega) hcg
    have hne : ¬ bst s C k = -1 := by rw [e]; exact fun z => by rw [nI_eqm (by omega)] at z; exact z
    rw [if_neg hne, e, Fi_isSeated_s h (by omega), Fi_isSeated_s h (by omega)]
    simp only [bn1_r, bI_z]
    rw [if_pos ⟨by omega, hpg⟩, if_pos ⟨hk, hpk⟩, ckI_nI _ (by omega) (by omega), ckI_nI _ (by omega) (by omega), nI_clamp (by omega), nI_clamp (by omega), (h.pd hk hpk).1, (h.pd (by omega) hpg).1]
    by_cases hle : s (8 * k + 4) ≤ s (8 * g + 4)
    · rw [if_pos hle]
      by_cases hge : s (8 * g + 4) ≤ s (8 * k + 4)
      · have := hd g k (by omega) hk hpg hpk (Int32.le_antisymm hge hle)
        omega
      · rw [if_neg hge]
    · rw [if_neg hle, if_pos (Int32.le_of_lt (Int32.not_le.mp hle))]
def nxC (n : Nat) (s : Nat → Int32) (m : Int32) (f : Nat) : Bool := decide (f < n ∧ Pd s f ∧ m ≤ s (8 * f + 4))
theorem Fi_landsNext_s (h : Rf n fo ro (mo 0)) (hd : Jd n (mo 0)) : Fi_landsNext fo x = if bst (mo 0) (nxC n (mo 0) x) n = -1 then some (-2) else some (bst (mo 0) (nxC n (mo 0) x) n) := by
  have hn := h.n20
  unfold Fi_landsNext
  have e := for_up (fun k z a => Fi_landsNext_b4 fo x k a z) 20 (fun i _ => bst (mo 0) (nxC n (mo 0) x) (i + 1)) (fun a => if a = -1 then some (-2) else some a) (fun i a => a = bst (mo 0) (nxC n (mo 0) x) i) (fun k i a hi hv => ?_) (fun i a _ _ => rfl) (fun k a hv => rfl) 20 fl 0 (-1) (by omega) (by rw [fl_v]; omega) rfl
  · rw [show iter (fun i (_ : Int32) => bst (mo 0) (nxC n (mo 0) x) (i + 1)) 0 20 (-1) = bst (mo 0) (nxC n (mo 0) x) 20 from by rw [iter_succ _ 19]] at e
    have e20 : bst (mo 0) (nxC n (mo 0) x) 20 = bst (mo 0) (nxC n (mo 0) x) n := by
      rw [show 20 = n + (20 - n) by omega]
      exact bst_tail n (20 - n) (fun j h1 _ => decide_eq_false (fun z => by omega))
    rw [e20] at e
    exact e
  · show Fi_landsNext_b4B fo x (Fi_landsNext_b4 fo x k) a (nI i) = _
    unfold Fi_landsNext_b4B
    rw [L20, if_neg (nI_ge hi (by omega)), Fi_isSeated_s h hi, hv]
    simp only [bn1_r, stk_r, nI_1, bI_z]
    have hno : ¬ nxC n (mo 0) x i = true → bst (mo 0) (nxC n (mo 0) x) (i + 1) = bst (mo 0) (nxC n (mo 0) x) i := fun hc => by
      show ite _ _ _ = _
      rw [if_neg hc]
    by_cases hp : i < n ∧ Pd (mo 0) i
    · rw [if_pos hp, ckI_nI _ hi (by omega), nI_clamp (by omega), (h.pd hp.1 hp.2).1]
      by_cases hm : x ≤ mo 0 (8 * i + 4)
      · have hc : nxC n (mo 0) x i = true := decide_eq_true ⟨hp.1, hp.2, hm⟩
        rw [if_neg (Int32.not_lt.mpr hm), earlier_s h hd hp.1 (fun f _ hf => (of_decide_eq_true hf).2.1) hc, bn1_r]
      · rw [if_pos (Int32.not_le.mp hm), hno (fun z => hm (of_decide_eq_true z).2.2)]
    · rw [if_neg hp, hno (fun z => hp ⟨(of_decide_eq_true z).1, (of_decide_eq_true z).2.1⟩)]
theorem Mo_next_l (hn : n ≤ 20) (hs : mo 0 173 = nI n) : Mo_next_b13 mo x fl (-1) 0 = if bst (mo 0) (nxC n (mo 0) x) n = -1 then some (-2) else some (bst (mo 0) (nxC n (mo 0) x) n) := by
  have e := for_up (fun k z a => Mo_next_b13 mo x k a z) n (fun i _ => bst (mo 0) (nxC n (mo 0) x) (i + 1)) (fun a => if a = -1 then some (-2) else some a) (fun i a => a = bst (mo 0) (nxC n (mo 0) x) i) (fun k i a hi hv => ?_) (fun i a _ _ => rfl) (fun k a hv => ?_) n fl 0 (-1) (by omega) (by rw [fl_v]; omega) rfl
  · have h1 : iter (fun i (_ : Int32) => bst (mo 0) (nxC n (mo 0) x) (i + 1)) 0 n (-1) = bst (mo 0) (nxC n (mo 0) x) n := by
      cases n with
      | zero => rfl
      | succ m => rw [iter_succ, Nat.zero_add]
    rw [h1] at e
    exact e
  · show Mo_next_b13B mo x (Mo_next_b13 mo x k) a (nI i) = _
    unfold Mo_next_b13B
    rw [n173 (mo := mo), k173, hs, if_neg (nI_ge hi (by omega)), Mo_isPlanned_s (by omega), Mo_of_4 (by omega), hv]
    simp only [bn1_r, stk_r, nI_1, bI_z]
    have hno : ¬ nxC n (mo 0) x i = true → bst (mo 0) (nxC n (mo 0) x) (i + 1) = bst (mo 0) (nxC n (mo 0) x) i := fun hc => by
      show ite _ _ _ = _
      rw [if_neg hc]
    by_cases hp : Pd (mo 0) i
    · rw [if_pos hp]
      by_cases hm : x ≤ mo 0 (8 * i + 4)
      · have hc : nxC n (mo 0) x i = true := decide_eq_true ⟨hi, hp, hm⟩
        have e1 : bst (mo 0) (nxC n (mo 0) x) (i + 1) = if bst (mo 0) (nxC n (mo 0) x) i = -1 then nI i else if mo 0 (8 * (bst (mo 0) (nxC n (mo 0) x) i).toNatClampNeg + 4) ≤ mo 0 (8 * i + 4) then bst (mo 0) (nxC n (mo 0) x) i else nI i := by
          show ite _ _ _ = _
          rw [if_pos hc]
        rw [if_neg (Int32.not_lt.mpr hm), e1]
        rcases bst_or (mo 0) (nxC n (mo 0) x) i (by omega) with ⟨eb, _⟩ | ⟨g, hg, eb, _⟩
        · rw [if_pos eb, if_pos eb]
        · have hne : ¬ bst (mo 0) (nxC n (mo 0) x) i = -1 := by rw [eb]; exact fun z => by rw [nI_eqm (by omega)] at z; exact z
          rw [if_neg hne, if_neg hne, eb, Mo_of_4 (by omega), bn1_r, nI_clamp (by omega)]
          split <;> rfl
      · rw [if_pos (Int32.not_le.mp hm), hno (fun z => hm (of_decide_eq_true z).2.2)]
    · rw [if_neg hp, hno (fun z => hp (of_decide_eq_true z).2.1)]
  · show Mo_next_b13B mo x (Mo_next_b13 mo x k) a (nI n) = _
    unfold Mo_next_b13B
    rw [n173 (mo := mo), k173, hs, if_pos (nI_le (Nat.le_refl n) (by omega))]
theorem q_next (h : RF n v fo ro ra vc os li (mo 0)) : ∃ r, St_next fo x = some r ∧ Mo_next mo x = some r := by
  unfold St_next Mo_next
  rw [St_isMinute_s, Mo_isMinute_s]
  simp only [bn1_r, bI_z]
  rw [Fi_landsNext_s h.f h.j.2.2.2.2.1, Mo_next_l h.f.n20 h.f.sn]
  by_cases hx : in0 x 1200
  · rw [if_pos hx, if_pos hx]
    by_cases hb : bst (mo 0) (nxC n (mo 0) x) n = -1
    · rw [if_pos hb]; exact ⟨_, rfl, rfl⟩
    · rw [if_neg hb]; exact ⟨_, rfl, rfl⟩
  · rw [if_neg hx, if_neg hx]; exact ⟨_, rfl, rfl⟩
/-! who can fill a vacant minute -/
/-- on the ground, with a later slot, in time -/
def fiC (n : Nat) (s : Nat → Int32) (m : Int32) (f : Nat) : Bool := decide (f < n ∧ Gnd s f ∧ m < s (8 * f + 4) ∧ earS s f ≤ m)
def fiO (n : Nat) (s : Nat → Int32) (m l : Int32) (f : Nat) : Bool := fiC n s m f && decide (s (8 * f) = l)
def fiX (n : Nat) (s : Nat → Int32) (m l : Int32) (f : Nat) : Bool := fiC n s m f && !decide (s (8 * f) = l)
/-- the one that fills: of the keeper's line, else of all -/
def fill1 (n : Nat) (s : Nat → Int32) (m l : Int32) : Int32 := if bst s (fiO n s m l) n = -1 then bst s (fiX n s m l) n else bst s (fiO n s m l) n
theorem Fi_fillerOf_s (h : Rf n fo ro (mo 0)) (hd : Jd n (mo 0)) : Fi_fillerOf fo ro x y = some (fill1 n (mo 0) x y) := by
  have hn := h.n20
  unfold Fi_fillerOf
  have e := for_up (fun k z (a : Int32 × Int32) => Fi_fillerOf_b8 fo ro x y k a.1 a.2 z) 20 (fun i _ => (bst (mo 0) (fiO n (mo 0) x y) (i + 1), bst (mo 0) (fiX n (mo 0) x y) (i + 1))) (fun a => if a.1 = -1 then some a.2 else some a.1) (fun i a => a = (bst (mo 0) (fiO n (mo 0) x y) i, bst (mo 0) (fiX n (mo 0) x y) i)) (fun k i a hi hv => ?_) (fun i a _ _ => rfl) (fun k a hv => rfl) 20 fl 0 (-1, -1) (by omega) (by rw [fl_v]; omega) rfl
  · rw [show iter (fun i (_ : Int32 × Int32) => (bst (mo 0) (fiO n (mo 0) x y) (i + 1), bst (mo 0) (fiX n (mo 0) x y) (i + 1))) 0 20 (-1, -1) = (bst (mo 0) (fiO n (mo 0) x y) 20, bst (mo 0) (fiX n (mo 0) x y) 20) from by rw [iter_succ _ 19]] at e
    have t1 : bst (mo 0) (fiO n (mo 0) x y) 20 = bst (mo 0) (fiO n (mo 0) x y) n := by
      rw [show 20 = n + (20 - n) by omega]
      exact bst_tail n (20 - n) (fun j h1 _ => by unfold fiO fiC; rw [decide_eq_false (fun z => by omega)]; rfl)
    have t2 : bst (mo 0) (fiX n (mo 0) x y) 20 = bst (mo 0) (fiX n (mo 0) x y) n := by
      rw [show 20 = n + (20 - n) by omega]
      exact bst_tail n (20 - n) (fun j h1 _ => by unfold fiX fiC; rw [decide_eq_false (fun z => by omega)]; rfl)
    rw [t1, t2] at e
    refine Eq.trans e ?_
    show (if bst (mo 0) (fiO n (mo 0) x y) n = -1 then some (bst (mo 0) (fiX n (mo 0) x y) n) else some (bst (mo 0) (fiO n (mo 0) x y) n)) = some (fill1 n (mo 0) x y)
    unfold fill1
    split <;> rfl
  · subst hv
    show Fi_fillerOf_b8B fo ro x y (Fi_fillerOf_b8 fo ro x y k) (bst (mo 0) (fiO n (mo 0) x y) i) (bst (mo 0) (fiX n (mo 0) x y) i) (nI i) = Fi_fillerOf_b8 fo ro x y k (bst (mo 0) (fiO n (mo 0) x y) (i + 1)) (bst (mo 0) (fiX n (mo 0) x y) (i + 1)) (nI (i + 1))
    unfold Fi_fillerOf_b8B
    rw [L20, if_neg (nI_ge hi (by omega)), Fi_isGrounded_s h hi]
    simp only [bn1_r, stk_r, nI_1, bI_z]
    have hnoO : ¬ fiO n (mo 0) x y i = true → bst (mo 0) (fiO n (mo 0) x y) (i + 1) = bst (mo 0) (fiO n (mo 0) x y) i := fun hc => by
      show ite _ _ _ = _
      rw [if_neg hc]
    have hnoX : ¬ fiX n (mo 0) x y i = true → bst (mo 0) (fiX n (mo 0) x y) (i + 1) = bst (mo 0) (fiX n (mo 0) x y) i := fun hc => by
      show ite _ _ _ = _
      rw [if_neg hc]
    have hall : ¬ fiC n (mo 0) x i = true → bst (mo 0) (fiO n (mo 0) x y) (i + 1) = bst (mo 0) (fiO n (mo 0) x y) i ∧ bst (mo 0) (fiX n (mo 0) x y) (i + 1) = bst (mo 0) (fiX n (mo 0) x y) i := fun hc => by
      have hf : fiC n (mo 0) x i = false := Bool.not_eq_true _ ▸ hc
      exact ⟨hnoO (by unfold fiO; rw [hf]; simp), hnoX (by unfold fiX; rw [hf]; simp)⟩
    by_cases hp : i < n ∧ Gnd (mo 0) i
    · rw [if_pos hp, ckI_nI _ hi (by omega), nI_clamp (by omega), (h.pd hp.1 hp.2.1).1, Fi_earliest_s h hp.1, bn1_r]
      by_cases hm : mo 0 (8 * i + 4) ≤ x
      · obtain ⟨a1, a2⟩ := hall (fun z => absurd hm (Int32.not_le.mpr (of_decide_eq_true z).2.2.1))
        rw [if_pos hm, a1, a2]
      · rw [if_neg hm]
        by_cases he : earS (mo 0) i ≤ x
        · have hc : fiC n (mo 0) x i = true := decide_eq_true ⟨hp.1, hp.2, Int32.not_le.mp hm, he⟩
          rw [if_pos he, h.ln hp.1]
          by_cases hl : mo 0 (8 * i) = y
          · have hO : fiO n (mo 0) x y i = true := by unfold fiO; rw [hc, decide_eq_true hl]; rfl
            rw [if_pos hl, earlier_s h hd hp.1 (fun f _ hf => (of_decide_eq_true (Bool.and_eq_true _ _ ▸ hf : _ ∧ _).1).2.1.1) hO, bn1_r, hnoX (by unfold fiX; rw [decide_eq_true hl]; simp)]
          · have hX : fiX n (mo 0) x y i = true := by unfold fiX; rw [hc, decide_eq_false hl]; rfl
            rw [if_neg hl, earlier_s h hd hp.1 (fun f _ hf => (of_decide_eq_true (Bool.and_eq_true _ _ ▸ hf : _ ∧ _).1).2.1.1) hX, bn1_r, hnoO (by unfold fiO; rw [decide_eq_false hl]; simp)]
        · obtain ⟨a1, a2⟩ := hall (fun z => he (of_decide_eq_true z).2.2.2)
          rw [if_neg he, a1, a2]
    · obtain ⟨a1, a2⟩ := hall (fun z => hp ⟨(of_decide_eq_true z).1, (of_decide_eq_true z).2.1⟩)
      rw [if_neg hp, a1, a2]
/-- the reference's: a sort of line, or all -/
def fiM (n : Nat) (s : Nat → Int32) (m l : Int32) (f : Nat) : Bool := fiC n s m f && (decide (l = -1) || decide (s (8 * f) = l))
theorem Mo_fillerOf_s (hn : n ≤ 20) (hs : mo 0 173 = nI n) : Mo_fillerOf mo x y = some (bst (mo 0) (fiM n (mo 0) x y) n) := by
  unfold Mo_fillerOf
  have e := for_up (fun k z a => Mo_fillerOf_b5 mo x y k a z) n (fun i _ => bst (mo 0) (fiM n (mo 0) x y) (i + 1)) some (fun i a => a = bst (mo 0) (fiM n (mo 0) x y) i) (fun k i a hi hv => ?_) (fun i a _ _ => rfl) (fun k a hv => ?_) n fl 0 (-1) (by omega) (by rw [fl_v]; omega) rfl
  · have h1 : iter (fun i (_ : Int32) => bst (mo 0) (fiM n (mo 0) x y) (i + 1)) 0 n (-1) = bst (mo 0) (fiM n (mo 0) x y) n := by
      cases n with
      | zero => rfl
      | succ m => rw [iter_succ, Nat.zero_add]
    rw [h1] at e
    exact e
  · show Mo_fillerOf_b5B mo x y (Mo_fillerOf_b5 mo x y k) a (nI i) = _
    have hb : Mo_fillerOf_b43 mo x y (Mo_fillerOf_b5 mo x y k) (bst (mo 0) (fiM n (mo 0) x y) i) (nI i) = if mo 0 (8 * i + 4) ≤ x then Mo_fillerOf_b5 mo x y k (bst (mo 0) (fiM n (mo 0) x y) i) (nI (i + 1)) else if earS (mo 0) i ≤ x then Mo_fillerOf_b5 mo x y k (if bst (mo 0) (fiM n (mo 0) x y) i = -1 then nI i else if mo 0 (8 * (bst (mo 0) (fiM n (mo 0) x y) i).toNatClampNeg + 4) ≤ mo 0 (8 * i + 4) then bst (mo 0) (fiM n (mo 0) x y) i else nI i) (nI (i + 1)) else Mo_fillerOf_b5 mo x y k (bst (mo 0) (fiM n (mo 0) x y) i) (nI (i + 1)) := by
      unfold Mo_fillerOf_b43
      rw [Mo_of_4 (by omega), Mo_earliest_s (by omega)]
      simp only [bn1_r, stk_r, nI_1]
      by_cases h1 : mo 0 (8 * i + 4) ≤ x
      · rw [if_pos h1, if_pos h1]
      · rw [if_neg h1, if_neg h1]
        by_cases h2 : earS (mo 0) i ≤ x
        · rw [if_pos h2, if_pos h2]
          rcases bst_or (mo 0) (fiM n (mo 0) x y) i (by omega) with ⟨eb, _⟩ | ⟨g, hg, eb, _⟩
          · rw [if_pos eb, if_pos eb]
          · have hne : ¬ bst (mo 0) (fiM n (mo 0) x y) i = -1 := by rw [eb]; exact fun z => by rw [nI_eqm (by omega)] at z; exact z
            rw [if_neg hne, if_neg hne, eb, Mo_of_4 (by omega), bn1_r, nI_clamp (by omega)]
            split <;> rfl
        · rw [if_neg h2, if_neg h2]
    have hno : ¬ fiM n (mo 0) x y i = true → bst (mo 0) (fiM n (mo 0) x y) (i + 1) = bst (mo 0) (fiM n (mo 0) x y) i := fun hc => by
      show ite _ _ _ = _
      rw [if_neg hc]
    have hyes : fiM n (mo 0) x y i = true → bst (mo 0) (fiM n (mo 0) x y) (i + 1) = if bst (mo 0) (fiM n (mo 0) x y) i = -1 then nI i else if mo 0 (8 * (bst (mo 0) (fiM n (mo 0) x y) i).toNatClampNeg + 4) ≤ mo 0 (8 * i + 4) then bst (mo 0) (fiM n (mo 0) x y) i else nI i := fun hc => by
      show ite _ _ _ = _
      rw [if_pos hc]
    have noC : ¬ fiC n (mo 0) x i = true → ¬ fiM n (mo 0) x y i = true := fun hc z => hc (Bool.and_eq_true _ _ ▸ z : _ ∧ _).1
    unfold Mo_fillerOf_b5B
    rw [n173 (mo := mo), k173, hs, if_neg (nI_ge hi (by omega)), Mo_isGround_s (by omega), Mo_of_0 (by omega), hv]
    simp only [bn1_r, stk_r, nI_1, bI_z]
    rw [hb]
    by_cases hp : Gnd (mo 0) i
    · rw [if_pos hp]
      by_cases hm : mo 0 (8 * i + 4) ≤ x
      · rw [if_pos hm, hno (noC (fun z => absurd hm (Int32.not_le.mpr (of_decide_eq_true z).2.2.1)))]
        split
        · rfl
        · split <;> rfl
      · rw [if_neg hm]
        by_cases he : earS (mo 0) i ≤ x
        · have hc : fiC n (mo 0) x i = true := decide_eq_true ⟨hi, hp, Int32.not_le.mp hm, he⟩
          rw [if_pos he]
          by_cases h1 : y = -1
          · rw [if_pos h1, hyes (by unfold fiM; rw [hc, decide_eq_true h1]; rfl)]
          · rw [if_neg h1]
            by_cases h2 : mo 0 (8 * i) = y
            · rw [if_pos h2, hyes (by unfold fiM; rw [hc, decide_eq_true h2]; simp)]
            · rw [if_neg h2, hno (by unfold fiM; rw [decide_eq_false h1, decide_eq_false h2]; simp)]
        · rw [if_neg he, hno (noC (fun z => he (of_decide_eq_true z).2.2.2))]
          split
          · rfl
          · split <;> rfl
    · rw [if_neg hp, hno (noC (fun z => hp (of_decide_eq_true z).2.1))]
  · show Mo_fillerOf_b5B mo x y (Mo_fillerOf_b5 mo x y k) a (nI n) = _
    unfold Mo_fillerOf_b5B
    rw [n173 (mo := mo), k173, hs, if_pos (nI_le (Nat.le_refl n) (by omega))]
/-- the reference's two questions are the class's one -/
theorem fill1_own (hn : n ≤ 20) (hy : ¬ y = -1) : fill1 n (mo 0) x y = if bst (mo 0) (fiM n (mo 0) x y) n = -1 then bst (mo 0) (fiM n (mo 0) x (-1)) n else bst (mo 0) (fiM n (mo 0) x y) n := by
  have e1 : bst (mo 0) (fiM n (mo 0) x y) n = bst (mo 0) (fiO n (mo 0) x y) n := bst_congr (fun f _ => by unfold fiM fiO; rw [decide_eq_false hy]; rfl)
  unfold fill1
  rw [e1]
  by_cases hb : bst (mo 0) (fiO n (mo 0) x y) n = -1
  · rw [if_pos hb, if_pos hb]
    refine bst_congr (fun f hf => ?_)
    rcases bst_or (mo 0) (fiO n (mo 0) x y) n hn with ⟨_, h0⟩ | ⟨g, hg, e, _⟩
    · have h1 := h0 f hf
      unfold fiO at h1
      unfold fiX fiM
      rw [decide_eq_true (show (-1 : Int32) = -1 from rfl), Bool.true_or, Bool.and_true]
      cases hc : fiC n (mo 0) x f
      · rfl
      · rw [hc, Bool.true_and] at h1
        rw [h1]; rfl
    · rw [e, nI_eqm (by omega)] at hb; exact absurd hb id
  · rw [if_neg hb, if_neg hb]
end BE
