/-! slots by rates; at; slot -/
/-- of an hour with rate r, minute a -/
def slB (r a : Nat) : Bool := decide (0 < r ∧ (a * r + 59) / 60 < r ∧ 60 * ((a * r + 59) / 60) / r = a)
def rN (s : Nat → Int32) (h : Nat) : Nat := (s (160 + h)).toNatClampNeg
def isS (s : Nat → Int32) (m : Nat) : Bool := if m < 720 then slB (rN s (m / 60)) (m % 60) else decide (m % 5 = 0)
theorem slB_ex : ∀ r, r < 13 → ∀ a, a < 60 → (slB r a = true ↔ ∃ i, i < r ∧ 60 * i / r = a) := by
  have h : ∀ r, r < 13 → ∀ a, a < 60 → slB r a = ((List.range r).any fun i => decide (60 * i / r = a)) := by decide +kernel
  intro r hr a ha
  rw [h r hr a ha, List.any_eq_true]
  constructor
  · rintro ⟨i, hi, e⟩
    exact ⟨i, List.mem_range.mp hi, of_decide_eq_true e⟩
  · rintro ⟨i, hi, e⟩
    exact ⟨i, List.mem_range.mpr hi, decide_eq_true e⟩
section SL
variable {n v : Nat} {fo ro ra vc os li mo : Mem} {x y : Int32}
theorem rN_eq {s : Nat → Int32} {h : Nat} (j : Jr s) (hh : h < 12) : s (160 + h) = nI (rN s h) ∧ rN s h < 13 := by
  obtain ⟨r, hr, e⟩ := j h hh
  unfold rN
  rw [e, nI_clamp (by omega)]
  exact ⟨rfl, by omega⟩
theorem nI_0le {a : Nat} (h : a < 2 ^ 31) : (nI a ≤ 0) ↔ a = 0 := by
  rw [show (0 : Int32) = nI 0 from rfl, nI_leI h (by omega)]; omega
theorem Mo_isSlot_s {m : Nat} (j : Jr (mo 0)) (hm : m < 1200) : Mo_isSlot mo (nI m) = some (bI (isS (mo 0) m = true)) := by
  unfold Mo_isSlot isS
  by_cases h7 : m < 720
  · rw [if_pos (show nI m < 720 from nI_lt (b := 720) h7 (by omega)), if_pos h7]
    have hh : m / 60 < 12 := by omega
    obtain ⟨e, hr⟩ := rN_eq j hh
    rw [show (60 : Int32) = nI 60 from rfl, pk_div (by omega) (by omega) (by omega), n160 _ hh, k160 hh, e, stk_r, stk_r]
    rw [show nI m - nI (m / 60) * nI 60 = nI (m % 60) by rw [← pk_div (a := m) (d := 60) (by omega) (by omega) (by omega), pk_rem (by omega) (by omega) (by omega)]]
    generalize rN (mo 0) (m / 60) = r at hr
    have ha : m % 60 < 60 := by omega
    generalize m % 60 = a at ha
    have hb : a * r < 800 := Nat.lt_of_le_of_lt (Nat.mul_le_mul (Nat.le_of_lt_succ (Nat.lt_succ_of_lt ha)) (Nat.le_of_lt_succ hr)) (by decide)
    rw [pk_mul, show (59 : Int32) = nI 59 from rfl, nI_add, pk_div (by omega) (by omega) (by omega), pk_mul]
    by_cases h0 : r = 0
    · rw [if_pos ((nI_0le (by omega)).mpr h0), bI_f (fun z => by have := (of_decide_eq_true z).1; omega)]
    · rw [if_neg (fun z => h0 ((nI_0le (by omega)).mp z))]
      by_cases h1 : (a * r + 59) / 60 < r
      · rw [if_neg (nI_ge h1 (by omega)), ckD_ok _ (nI_ne0 (by omega) (by omega)), pk_div (by omega) (by omega) (by omega)]
        by_cases h2 : 60 * ((a * r + 59) / 60) / r = a
        · rw [if_pos (by rw [h2]), bI_t (show slB r a = true from decide_eq_true ⟨by omega, h1, h2⟩)]
        · have h3 : 60 * ((a * r + 59) / 60) / r ≤ 60 * ((a * r + 59) / 60) := Nat.div_le_self _ _
          rw [if_neg (fun z => h2 ((nI_eq (by omega) (by omega)).mp z)), bI_f (fun z => h2 (of_decide_eq_true z).2.2)]
      · rw [if_pos (nI_le (by omega) (by omega)), bI_f (fun z => h1 (of_decide_eq_true z).2.1)]
  · rw [if_neg (show ¬ nI m < 720 from nI_nlt (b := 720) (by omega) (by omega)), if_neg h7, if_neg (show ¬ 1200 ≤ nI m from nI_ge (b := 1200) hm (by omega))]
    rw [show (5 : Int32) = nI 5 from rfl, pk_rem (by omega) (by omega) (by omega)]
    by_cases h5 : m % 5 = 0
    · rw [if_pos (by rw [h5]; rfl), bI_t (decide_eq_true h5)]
    · rw [if_neg (nI_ne0 (by omega) (by omega)), bI_f (fun z => h5 (of_decide_eq_true z))]
theorem Ra_minuteOf_s {h i r : Nat} (hh : h < 12) (hi : i < r) (hr : r < 13) : Ra_minuteOf (nI h) (nI i) (nI r) = some (nI (60 * h + 60 * i / r)) := by
  unfold Ra_minuteOf
  rw [if_neg (fun z => by have := (nI_0le (by omega)).mp z; omega), ckD_ok _ (nI_ne0 (by omega) (by omega)), show (60 : Int32) = nI 60 from rfl, pk_mul, pk_mul, pk_div (by omega) (by omega) (by omega), nI_add]
theorem Ra_hasSlot_s {m : Nat} (hr : Rr ra (mo 0)) (j : Jr (mo 0)) (hm : m < 1200) : Ra_hasSlot ra (nI m) = some (bI (isS (mo 0) m = true)) := by
  unfold Ra_hasSlot isS
  by_cases h7 : m < 720
  · rw [if_pos (show nI m < 720 from nI_lt (b := 720) h7 (by omega)), if_pos h7]
    have hh : m / 60 < 12 := by omega
    obtain ⟨e, hr13⟩ := rN_eq j hh
    rw [show (60 : Int32) = nI 60 from rfl, pk_div (by omega) (by omega) (by omega), stk_r, Ra_of_s hr hh, e, bn1_r]
    have e2 := for_seek (fun k z => Ra_hasSlot_b40 ra (nI m) k (nI (m / 60)) (nI (rN (mo 0) (m / 60))) z) (rN (mo 0) (m / 60)) (fun i => decide (60 * (m / 60) + 60 * i / rN (mo 0) (m / 60) = m)) (fun _ => some 1) (some 0) (fun k i hi => ?_) (fun k => ?_) (rN (mo 0) (m / 60)) fl 0 (by omega) (by rw [fl_v]; omega)
    · refine Eq.trans e2 ?_
      cases hs : seek (fun i => decide (60 * (m / 60) + 60 * i / rN (mo 0) (m / 60) = m)) 0 (rN (mo 0) (m / 60)) with
      | none =>
        show some (0 : Int32) = _
        rw [bI_f]
        intro z
        obtain ⟨i, hi, e3⟩ := (slB_ex _ hr13 _ (by omega)).mp z
        have h4 := seek_none hs i (Nat.zero_le i) (by omega)
        exact absurd (show 60 * (m / 60) + 60 * i / rN (mo 0) (m / 60) = m by omega) (of_decide_eq_false h4)
      | some i =>
        show some (1 : Int32) = _
        obtain ⟨-, h2, h3, -⟩ := seek_some hs
        have h4 := of_decide_eq_true h3
        rw [bI_t]
        exact (slB_ex _ hr13 _ (by omega)).mpr ⟨i, by omega, by omega⟩
    · show Ra_hasSlot_b40B ra (nI m) (Ra_hasSlot_b40 ra (nI m) k) (nI (m / 60)) (nI (rN (mo 0) (m / 60))) (nI i) = _
      unfold Ra_hasSlot_b40B
      have h60 : 60 * i / rN (mo 0) (m / 60) ≤ 60 * i := Nat.div_le_self _ _
      rw [if_neg (nI_ge hi (by omega)), Ra_minuteOf_s hh hi hr13, bn1_r, stk_r, nI_1]
      by_cases hq : 60 * (m / 60) + 60 * i / rN (mo 0) (m / 60) = m
      · rw [if_pos (by rw [hq]), if_pos (decide_eq_true hq)]
      · rw [if_neg (fun z => hq ((nI_eq (by omega) (by omega)).mp z)), if_neg (fun z => hq (of_decide_eq_true z))]
    · show Ra_hasSlot_b40B ra (nI m) (Ra_hasSlot_b40 ra (nI m) k) (nI (m / 60)) (nI (rN (mo 0) (m / 60))) (nI (rN (mo 0) (m / 60))) = _
      unfold Ra_hasSlot_b40B
      rw [if_pos (nI_le (Nat.le_refl _) (by omega))]
  · rw [if_neg (show ¬ nI m < 720 from nI_nlt (b := 720) (by omega) (by omega)), if_neg h7, if_neg (show ¬ 1200 ≤ nI m from nI_ge (b := 1200) hm (by omega))]
    rw [show (5 : Int32) = nI 5 from rfl, pk_rem (by omega) (by omega) (by omega)]
    by_cases h5 : m % 5 = 0
    · rw [if_pos (by rw [h5]; rfl), bI_t (decide_eq_true h5)]
    · rw [if_neg (nI_ne0 (by omega) (by omega)), bI_f (fun z => h5 (of_decide_eq_true z))]
/-! who is in a minute -/
def inM (n : Nat) (s : Nat → Int32) (m : Int32) (f : Nat) : Bool := decide (f < n ∧ Pd s f ∧ s (8 * f + 4) = m)
def sA (o : Option Nat) : Int32 := match o with
  | some j => nI j
  | none => -1
theorem Fi_flightIn_s (h : Rf n fo ro (mo 0)) : Fi_flightIn fo x = some (sA (seek (inM n (mo 0) x) 0 n)) := by
  have hn := h.n20
  unfold Fi_flightIn
  have e := for_seek (fun k z => Fi_flightIn_b2 fo x k z) 20 (inM n (mo 0) x) (fun i => some (nI i)) (some (-1)) (fun k i hi => ?_) (fun k => rfl) 20 fl 0 (by omega) (by rw [fl_v]; omega)
  · rw [show 20 = n + (20 - n) by omega, seek_add (inM n (mo 0) x) n (20 - n) 0 (fun j h1 _ => decide_eq_false (fun z => by omega))] at e
    refine Eq.trans e ?_
    cases seek (inM n (mo 0) x) 0 n <;> rfl
  · show Fi_flightIn_b2B fo x (Fi_flightIn_b2 fo x k) (nI i) = _
    unfold Fi_flightIn_b2B
    rw [L20, if_neg (nI_ge hi (by omega)), Fi_isSeated_s h hi]
    simp only [bn1_r, stk_r, nI_1, bI_z]
    by_cases hp : i < n ∧ Pd (mo 0) i
    · rw [if_pos hp, ckI_nI _ hi (by omega), nI_clamp (by omega), (h.pd hp.1 hp.2).1]
      by_cases hq : mo 0 (8 * i + 4) = x
      · rw [if_pos hq, if_pos (show inM n (mo 0) x i = true from decide_eq_true ⟨hp.1, hp.2, hq⟩)]
      · rw [if_neg hq, if_neg (show ¬ inM n (mo 0) x i = true from fun z => hq (of_decide_eq_true z).2.2)]
    · rw [if_neg hp, if_neg (show ¬ inM n (mo 0) x i = true from fun z => hp ⟨(of_decide_eq_true z).1, (of_decide_eq_true z).2.1⟩)]
theorem Mo_flightAt_s (hn : n ≤ 20) (hs : mo 0 173 = nI n) : Mo_flightAt mo x = some (sA (seek (inM n (mo 0) x) 0 n)) := by
  unfold Mo_flightAt
  have e := for_seek (fun k z => Mo_flightAt_b2 mo x k z) n (inM n (mo 0) x) (fun i => some (nI i)) (some (-1)) (fun k i hi => ?_) (fun k => ?_) n fl 0 (by omega) (by rw [fl_v]; omega)
  · refine Eq.trans e ?_
    cases seek (inM n (mo 0) x) 0 n <;> rfl
  · show Mo_flightAt_b2B mo x (Mo_flightAt_b2 mo x k) (nI i) = _
    unfold Mo_flightAt_b2B
    rw [n173 (mo := mo), k173, hs, if_neg (nI_ge hi (by omega)), Mo_isPlanned_s (by omega), Mo_of_4 (by omega)]
    simp only [bn1_r, stk_r, nI_1, bI_z]
    by_cases hp : Pd (mo 0) i
    · rw [if_pos hp]
      by_cases hq : mo 0 (8 * i + 4) = x
      · rw [if_pos hq, if_pos (show inM n (mo 0) x i = true from decide_eq_true ⟨hi, hp, hq⟩)]
      · rw [if_neg hq, if_neg (show ¬ inM n (mo 0) x i = true from fun z => hq (of_decide_eq_true z).2.2)]
    · rw [if_neg hp, if_neg (show ¬ inM n (mo 0) x i = true from fun z => hp (of_decide_eq_true z).2.1)]
  · show Mo_flightAt_b2B mo x (Mo_flightAt_b2 mo x k) (nI n) = _
    unfold Mo_flightAt_b2B
    rw [n173 (mo := mo), k173, hs, if_pos (nI_le (Nat.le_refl n) (by omega))]
theorem Va_find_s {mm kk : Nat → Nat} {m : Nat} (h : RvL v vc (mo 0) mm kk) (hv : v ≤ 20) (hm : m < 1200) : Va_find vc (nI m) = some (sA (seek (fun i => decide (mm i = m)) 0 v)) := by
  unfold Va_find
  have e := for_seek (fun k z => Va_find_b2 vc (nI m) k z) v (fun i => decide (mm i = m)) (fun i => some (nI i)) (some (-1)) (fun k i hi => ?_) (fun k => ?_) v fl 0 (by omega) (by rw [fl_v]; omega)
  · refine Eq.trans e ?_
    cases seek (fun i => decide (mm i = m)) 0 v <;> rfl
  · show Va_find_b2B vc (nI m) (Va_find_b2 vc (nI m) k) (nI i) = _
    unfold Va_find_b2B
    have h1 := (h.2.1 i hi).2.2.1
    rw [h.1, L20, if_neg (nI_ge hi (by omega)), if_neg (nI_ge (by omega) (by omega)), ckI_nI _ (by omega) (by omega), nI_clamp (by omega), (h.2.1 i hi).1]
    simp only [stk_r, nI_1]
    by_cases hq : mm i = m
    · rw [if_pos (by rw [hq]), if_pos (decide_eq_true hq)]
    · rw [if_neg (fun z => hq ((nI_eq (by omega) (by omega)).mp z)), if_neg (fun z => hq (of_decide_eq_true z))]
  · show Va_find_b2B vc (nI m) (Va_find_b2 vc (nI m) k) (nI v) = _
    unfold Va_find_b2B
    rw [h.1, if_pos (nI_le (Nat.le_refl v) (by omega))]
/-- a minute's place in the list: there just where the row says a keeper -/
theorem find_iff {mm kk : Nat → Nat} {m : Nat} (h : RvL v vc (mo 0) mm kk) (hm : m < 1200) : (mo 0 (252 + m) = 0 ∧ seek (fun i => decide (mm i = m)) 0 v = none) ∨ ∃ i, i < v ∧ mm i = m ∧ mo 0 (252 + m) = nI (kk i + 1) ∧ seek (fun i => decide (mm i = m)) 0 v = some i := by
  cases hs : seek (fun i => decide (mm i = m)) 0 v with
  | none =>
    refine Or.inl ⟨?_, rfl⟩
    by_cases e : mo 0 (252 + m) = 0
    · exact e
    · obtain ⟨i, hi, e2⟩ := h.2.2.2 m hm e
      exact absurd e2 (of_decide_eq_false (seek_none hs i (Nat.zero_le i) (by omega)))
  | some i =>
    obtain ⟨-, h2, h3, -⟩ := seek_some hs
    have h4 : mm i = m := of_decide_eq_true h3
    have h5 := (h.2.1 i (by omega)).2.2.2.2
    rw [h4] at h5
    exact Or.inr ⟨i, by omega, h4, h5, rfl⟩
theorem q_at (h : RF n v fo ro ra vc os li (mo 0)) : ∃ r, St_at fo ra vc x = some r ∧ Mo_at mo x = some r := by
  have hv20 := h.2.2.2.1.v20 h.f.n20
  obtain ⟨mm, kk, hl⟩ := h.2.2.2.1.l
  have jr : Jr (mo 0) := h.j.2.2.2.2.2.2.1
  unfold St_at Mo_at
  rw [St_isMinute_s, Mo_isMinute_s]
  simp only [bn1_r, bI_z]
  rw [Fi_flightIn_s h.f, Mo_flightAt_s h.f.n20 h.f.sn, bn1_r, bn1_r]
  by_cases hx : in0 x 1200
  · rw [if_pos hx, if_pos hx]
    obtain ⟨m, hm, rfl⟩ := in0_of hx (by omega)
    rw [Va_find_s hl hv20 hm, Ra_hasSlot_s h.2.1 jr hm, Mo_isSlot_s jr hm, n252 _ hm, k252 hm]
    simp only [bn1_r, bI_z]
    by_cases hf : sA (seek (inM n (mo 0) (nI m)) 0 n) = -1
    · rw [if_pos hf, if_pos hf]
      rcases find_iff hl hm with ⟨e1, e2⟩ | ⟨i, hi, -, e1, e2⟩
      · rw [e2, e1, if_pos (show sA none = -1 from rfl), if_pos (show (0 : Int32) ≤ 0 by decide)]
        by_cases hz : isS (mo 0) m = true
        · rw [if_pos hz]; exact ⟨_, rfl, rfl⟩
        · rw [if_neg hz]; exact ⟨_, rfl, rfl⟩
      · have h5 := (hl.2.1 i hi).2.2.2.1
        rw [e2, e1, if_neg (show ¬ sA (some i) = -1 from fun z => by rw [show sA (some i) = nI i from rfl, nI_eqm (by omega)] at z; exact z), if_neg (nI_nle (by omega) (by omega))]
        exact ⟨_, rfl, rfl⟩
    · rw [if_neg hf, if_neg hf]; exact ⟨_, rfl, rfl⟩
  · rw [if_neg hx, if_neg hx]; exact ⟨_, rfl, rfl⟩
end SL
