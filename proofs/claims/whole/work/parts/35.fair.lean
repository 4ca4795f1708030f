/-! unfair, rank -/
section FA
variable {n v : Nat} {fo ro ra vc os li mo : Mem} {x y : Int32}
theorem sm_nI {g : Nat → Int32} {B : Nat} : ∀ {m : Nat}, m * B < 2 ^ 31 → (∀ j, j < m → ∃ w, w ≤ B ∧ g j = nI w) → ∃ w, w ≤ m * B ∧ sm g m = nI w
  | 0, _, _ => ⟨0, by omega, rfl⟩
  | m + 1, hB, h => by
    have h0 : (m + 1) * B = m * B + B := Nat.succ_mul m B
    obtain ⟨w, hw, e⟩ := sm_nI (g := g) (B := B) (m := m) (by omega) (fun j hj => h j (by omega))
    obtain ⟨u, hu, e2⟩ := h m (by omega)
    refine ⟨w + u, by omega, ?_⟩
    show sm g m + g m = _
    rw [e, e2, nI_add]
abbrev WL (n : Nat) (s : Nat → Int32) (l : Int32) : Int32 := sm (fun f => if s (8 * f) = l then waS s f else 0) n
abbrev FL (n : Nat) (s : Nat → Int32) (l : Int32) : Int32 := sm (fun f => if s (8 * f) = l ∧ Pd s f then 1 else 0) n
def wN (n : Nat) (s : Nat → Int32) (l : Int32) : Nat := (WL n s l).toNatClampNeg
def fN (n : Nat) (s : Nat → Int32) (l : Int32) : Nat := (FL n s l).toNatClampNeg
theorem wN_eq (hn : n ≤ 20) (j : J n (mo 0)) (l : Int32) : WL n (mo 0) l = nI (wN n (mo 0) l) ∧ wN n (mo 0) l ≤ 24000 := by
  obtain ⟨w, hw, e⟩ := sm_nI (g := fun f => if mo 0 (8 * f) = l then waS (mo 0) f else 0) (B := 1200) (m := n) (by omega) (fun f hf => by
    by_cases h : mo 0 (8 * f) = l
    · obtain ⟨w, hw, e⟩ := waS_nI j hf
      exact ⟨w, by omega, by rw [← e]; exact if_pos h⟩
    · exact ⟨0, by omega, if_neg h⟩)
  have h1 : n * 1200 ≤ 24000 := by omega
  unfold wN
  rw [show WL n (mo 0) l = nI w from e, nI_clamp (by omega)]
  exact ⟨rfl, by omega⟩
theorem fN_eq (hn : n ≤ 20) (l : Int32) : FL n (mo 0) l = nI (fN n (mo 0) l) ∧ fN n (mo 0) l ≤ 20 := by
  obtain ⟨w, hw, e⟩ := sm_nI (g := fun f => if mo 0 (8 * f) = l ∧ Pd (mo 0) f then 1 else 0) (B := 1) (m := n) (by omega) (fun f hf => by
    by_cases h : mo 0 (8 * f) = l ∧ Pd (mo 0) f
    · exact ⟨1, by omega, if_pos h⟩
    · exact ⟨0, by omega, if_neg h⟩)
  unfold fN
  rw [show FL n (mo 0) l = nI w from e, nI_clamp (by omega)]
  exact ⟨rfl, by omega⟩
/-- one line's share into the greatest and the least -/
def stU (n : Nat) (s : Nat → Int32) (l : Nat) (a : Int32 × Int32) : Int32 × Int32 := if fN n s (nI l) = 0 then a else (mx a.1 (nI (wN n s (nI l) * 100 / fN n s (nI l))), if a.2 = -1 then nI (wN n s (nI l) * 100 / fN n s (nI l)) else if a.2 ≤ nI (wN n s (nI l) * 100 / fN n s (nI l)) then a.2 else nI (wN n s (nI l) * 100 / fN n s (nI l)))
def unf (n : Nat) (s : Nat → Int32) : Option Int32 := if (iter (stU n s) 0 5 (-1, -1)).1 = -1 then some (-2) else some ((iter (stU n s) 0 5 (-1, -1)).1 - (iter (stU n s) 0 5 (-1, -1)).2)
theorem mx_m1 {q : Nat} (h : q < 2 ^ 31) : mx (-1) (nI q) = nI q := if_pos (Int32.lt_of_lt_of_le (by decide) (nI_pos' h))
theorem Fi_unfairness_s (h : Rf n fo ro (mo 0)) (j : J n (mo 0)) : Fi_unfairness fo ro = unf n (mo 0) := by
  unfold Fi_unfairness unf
  refine for_up (fun k z (a : Int32 × Int32) => Fi_unfairness_b6 fo ro k a.1 a.2 z) 5 (stU n (mo 0)) (fun a => if a.1 = -1 then some (-2) else some (a.1 - a.2)) (fun _ _ => True) (fun k i a hi _ => ?_) (fun _ _ _ _ => trivial) (fun k a _ => rfl) 5 fl 0 (-1, -1) (by omega) (by rw [fl_v]; omega) trivial
  show Fi_unfairness_b6B fo ro (Fi_unfairness_b6 fo ro k) a.1 a.2 (nI i) = Fi_unfairness_b6 fo ro k (stU n (mo 0) i a).1 (stU n (mo 0) i a).2 (nI (i + 1))
  unfold Fi_unfairness_b6B Fi_unfairness_b55
  obtain ⟨ew, hw⟩ := wN_eq h.n20 j (nI i)
  obtain ⟨ef, hf⟩ := fN_eq (mo := mo) h.n20 (nI i)
  rw [show (5 : Int32) = nI 5 from rfl, if_neg (nI_ge hi (by omega)), Fi_seatedOf_s h, Fi_waitsOf_s h, bn1_r, bn1_r]
  rw [show sm (fun f => if mo 0 (8 * f) = nI i ∧ Pd (mo 0) f then (1 : Int32) else 0) n = nI (fN n (mo 0) (nI i)) from ef, show sm (fun f => if mo 0 (8 * f) = nI i then waS (mo 0) f else 0) n = nI (wN n (mo 0) (nI i)) from ew]
  unfold stU
  generalize fN n (mo 0) (nI i) = c at hf
  generalize wN n (mo 0) (nI i) = w at hw
  by_cases hc : c = 0
  · subst hc
    rw [if_neg (show ¬ (0 : Int32) < nI 0 by decide), if_pos rfl, stk_r, nI_1]
  · have hq : w * 100 / c ≤ w * 100 := Nat.div_le_self _ _
    rw [if_pos (show (0 : Int32) < nI c from nI_lt (a := 0) (by omega) (by omega)), if_neg hc, ckD_ok _ (nI_ne0 (by omega) (by omega)), show (100 : Int32) = nI 100 from rfl, pk_mul, pk_div (by omega) (by omega) (by omega)]
    simp only [stk_r, nI_1]
    generalize w * 100 / c = q at hq
    have e2 : (if nI q < a.2 then nI q else a.2) = if a.2 ≤ nI q then a.2 else nI q := by
      by_cases hl : nI q < a.2
      · rw [if_pos hl, if_neg (Int32.not_le.mpr hl)]
      · rw [if_neg hl, if_pos (Int32.not_lt.mp hl)]
    by_cases h1 : a.1 = -1
    · rw [if_pos h1, h1, mx_m1 (by omega), e2]
      split <;> rfl
    · rw [if_neg h1, e2, show (if a.1 < nI q then nI q else a.1) = mx a.1 (nI q) from rfl]
      split <;> rfl
theorem Mo_unfairNow_s (hn : n ≤ 20) (hs : mo 0 173 = nI n) (j : J n (mo 0)) : Mo_unfairNow mo = unf n (mo 0) := by
  unfold Mo_unfairNow unf
  refine for_up (fun k z (a : Int32 × Int32) => Mo_unfairNow_b6 mo k a.1 a.2 z) 5 (stU n (mo 0)) (fun a => if a.1 = -1 then some (-2) else some (a.1 - a.2)) (fun _ _ => True) (fun k i a hi _ => ?_) (fun _ _ _ _ => trivial) (fun k a _ => rfl) 5 fl 0 (-1, -1) (by omega) (by rw [fl_v]; omega) trivial
  show Mo_unfairNow_b6B mo (Mo_unfairNow_b6 mo k) a.1 a.2 (nI i) = Mo_unfairNow_b6 mo k (stU n (mo 0) i a).1 (stU n (mo 0) i a).2 (nI (i + 1))
  unfold Mo_unfairNow_b6B
  obtain ⟨ew, hw⟩ := wN_eq hn j (nI i)
  obtain ⟨ef, hf⟩ := fN_eq (mo := mo) hn (nI i)
  rw [show (5 : Int32) = nI 5 from rfl, if_neg (nI_ge hi (by omega)), Mo_lineFlights_s _ hn hs, Mo_lineWaits_s _ hn hs, bn1_r, bn1_r]
  rw [show sm (fun f => if mo 0 (8 * f) = nI i ∧ Pd (mo 0) f then (1 : Int32) else 0) n = nI (fN n (mo 0) (nI i)) from ef, show sm (fun f => if mo 0 (8 * f) = nI i then waS (mo 0) f else 0) n = nI (wN n (mo 0) (nI i)) from ew]
  unfold stU
  generalize fN n (mo 0) (nI i) = c at hf
  generalize wN n (mo 0) (nI i) = w at hw
  by_cases hc : c = 0
  · subst hc
    rw [if_pos (show nI 0 = (0 : Int32) from rfl), if_pos rfl, stk_r, nI_1]
  · have hq : w * 100 / c ≤ w * 100 := Nat.div_le_self _ _
    rw [if_neg (nI_ne0 (by omega) (by omega)), if_neg hc, ckD_ok _ (nI_ne0 (by omega) (by omega)), show (100 : Int32) = nI 100 from rfl, pk_mul, pk_div (by omega) (by omega) (by omega)]
    simp only [stk_r, nI_1, Mo_more_s, bn1_r]
    split
    · rfl
    · split <;> rfl
theorem q_unfair (h : RF n v fo ro ra vc os li (mo 0)) : ∃ r, St_unfair fo ro = some r ∧ Mo_unfair mo = some r := by
  unfold St_unfair Mo_unfair
  rw [Fi_unfairness_s h.f h.j, Mo_unfairNow_s h.f.n20 h.f.sn h.j]
  unfold unf
  split <;> exact ⟨_, rfl, rfl⟩
/-! rank -/
/-- whether line m comes ahead of line l -/
def ahd (n : Nat) (s : Nat → Int32) (l m : Nat) : Bool := decide (m ≠ l ∧ fN n s (nI m) ≠ 0 ∧ (wN n s (nI l) * fN n s (nI m) < wN n s (nI m) * fN n s (nI l) ∨ (wN n s (nI l) * fN n s (nI m) = wN n s (nI m) * fN n s (nI l) ∧ m < l)))
def aCn (n : Nat) (s : Nat → Int32) (l : Nat) : Int32 := sm (fun m => if ahd n s l m then 1 else 0) 5
theorem bnd {a b : Nat} (ha : a ≤ 24000) (hb : b ≤ 20) : a * b ≤ 480000 := Nat.le_trans (Nat.mul_le_mul ha hb) (by decide)
theorem Fi_linesAhead_s {l : Nat} (hl : l < 5) (h : Rf n fo ro (mo 0)) (j : J n (mo 0)) : Fi_linesAhead fo ro (nI l) = some (aCn n (mo 0) l) := by
  obtain ⟨ew, hw⟩ := wN_eq h.n20 j (nI l)
  obtain ⟨ef, hf⟩ := fN_eq (mo := mo) h.n20 (nI l)
  unfold Fi_linesAhead
  rw [Fi_seatedOf_s h, Fi_waitsOf_s h, bn1_r, bn1_r]
  rw [show sm (fun f => if mo 0 (8 * f) = nI l ∧ Pd (mo 0) f then (1 : Int32) else 0) n = nI (fN n (mo 0) (nI l)) from ef, show sm (fun f => if mo 0 (8 * f) = nI l then waS (mo 0) f else 0) n = nI (wN n (mo 0) (nI l)) from ew]
  refine for_sum (fun k a z => Fi_linesAhead_b18 fo ro (nI l) k (nI (wN n (mo 0) (nI l))) (nI (fN n (mo 0) (nI l))) a z) 5 (fun m => if ahd n (mo 0) l m then 1 else 0) some (by omega) (fun k i a hi => ?_) (fun k a => rfl)
  show Fi_linesAhead_b18B fo ro (nI l) (Fi_linesAhead_b18 fo ro (nI l) k) (nI (wN n (mo 0) (nI l))) (nI (fN n (mo 0) (nI l))) a (nI i) = _
  obtain ⟨ew2, hw2⟩ := wN_eq h.n20 j (nI i)
  obtain ⟨ef2, hf2⟩ := fN_eq (mo := mo) h.n20 (nI i)
  unfold Fi_linesAhead_b18B
  rw [show (5 : Int32) = nI 5 from rfl, if_neg (nI_ge hi (by omega)), Fi_seatedOf_s h, Fi_waitsOf_s h, bn1_r, bn1_r]
  rw [show sm (fun f => if mo 0 (8 * f) = nI i ∧ Pd (mo 0) f then (1 : Int32) else 0) n = nI (fN n (mo 0) (nI i)) from ef2, show sm (fun f => if mo 0 (8 * f) = nI i then waS (mo 0) f else 0) n = nI (wN n (mo 0) (nI i)) from ew2]
  have b1 := bnd hw2 hf
  have b2 := bnd hw hf2
  unfold ahd
  simp only [stk_r, nI_1, pk_mul]
  by_cases e1 : i = l
  · rw [if_pos (by rw [e1]), decide_eq_false (fun z => z.1 e1), if_neg (by decide), Int32.add_zero]
  · rw [if_neg (fun z => e1 ((nI_eq (by omega) (by omega)).mp z))]
    by_cases e2 : fN n (mo 0) (nI i) = 0
    · rw [if_pos (by rw [e2]; rfl), decide_eq_false (fun z => z.2.1 e2), if_neg (by decide), Int32.add_zero]
    · rw [if_neg (nI_ne0 (by omega) (by omega))]
      generalize wN n (mo 0) (nI i) * fN n (mo 0) (nI l) = A at b1
      generalize wN n (mo 0) (nI l) * fN n (mo 0) (nI i) = B at b2
      rcases Nat.lt_trichotomy B A with hlt | heq | hgt
      · rw [pk_sub (by omega), if_pos (show (0 : Int32) < nI (A - B) from nI_lt (a := 0) (by omega) (by omega)), decide_eq_true ⟨e1, e2, Or.inl hlt⟩, if_pos rfl]
      · subst heq
        rw [pk_sub (Nat.le_refl _), Nat.sub_self, if_neg (show ¬ (0 : Int32) < nI 0 by decide), if_pos (show nI 0 = (0 : Int32) from rfl)]
        by_cases hil : i < l
        · rw [if_neg (nI_ge hil (by omega)), decide_eq_true ⟨e1, e2, Or.inr ⟨rfl, hil⟩⟩, if_pos rfl]
        · rw [if_pos (nI_le (by omega) (by omega)), decide_eq_false (fun z => by omega), if_neg (by decide), Int32.add_zero]
      · have hneg := pk_sneg (a := A) (b := B) (by omega) hgt
        rw [if_neg (fun z => Int32.lt_irrefl (Int32.lt_trans hneg z)), if_neg (fun z => by rw [z] at hneg; exact Int32.lt_irrefl hneg), decide_eq_false (fun z => by omega), if_neg (by decide), Int32.add_zero]
theorem Mo_waitsMore_s (hn : n ≤ 20) (hs : mo 0 173 = nI n) (j : J n (mo 0)) (l m : Nat) : Mo_waitsMore mo (nI l) (nI m) = some (bI (wN n (mo 0) (nI m) * fN n (mo 0) (nI l) < wN n (mo 0) (nI l) * fN n (mo 0) (nI m))) := by
  obtain ⟨ew, hw⟩ := wN_eq hn j (nI l)
  obtain ⟨ef, hf⟩ := fN_eq (mo := mo) hn (nI l)
  obtain ⟨ew2, hw2⟩ := wN_eq hn j (nI m)
  obtain ⟨ef2, hf2⟩ := fN_eq (mo := mo) hn (nI m)
  unfold Mo_waitsMore
  rw [Mo_lineWaits_s _ hn hs, Mo_lineWaits_s _ hn hs, Mo_lineFlights_s _ hn hs, Mo_lineFlights_s _ hn hs]
  rw [show sm (fun f => if mo 0 (8 * f) = nI l ∧ Pd (mo 0) f then (1 : Int32) else 0) n = nI (fN n (mo 0) (nI l)) from ef, show sm (fun f => if mo 0 (8 * f) = nI l then waS (mo 0) f else 0) n = nI (wN n (mo 0) (nI l)) from ew, show sm (fun f => if mo 0 (8 * f) = nI m ∧ Pd (mo 0) f then (1 : Int32) else 0) n = nI (fN n (mo 0) (nI m)) from ef2, show sm (fun f => if mo 0 (8 * f) = nI m then waS (mo 0) f else 0) n = nI (wN n (mo 0) (nI m)) from ew2]
  simp only [bn1_r, pk_mul]
  have b1 := bnd hw hf2
  have b2 := bnd hw2 hf
  generalize wN n (mo 0) (nI l) * fN n (mo 0) (nI m) = A at b1
  generalize wN n (mo 0) (nI m) * fN n (mo 0) (nI l) = B at b2
  by_cases hc : B < A
  · rw [if_neg (nI_ge hc (by omega)), bI_t hc]
  · rw [if_pos (nI_le (by omega) (by omega)), bI_f hc]
theorem Mo_rank_in {p1 : Int32} {l : Nat} (hl : l < 5) (hn : n ≤ 20) (hs : mo 0 173 = nI n) (j : J n (mo 0)) (k8 : Int32 → Option Int32) : Mo_rank_b29 mo p1 k8 fl (nI l) 0 0 = if aCn n (mo 0) l = p1 then some (nI l) else k8 (nI (l + 1)) := by
  refine for_sum (fun k a z => Mo_rank_b29 mo p1 k8 k (nI l) a z) 5 (fun m => if ahd n (mo 0) l m then 1 else 0) (fun a => if a = p1 then some (nI l) else k8 (nI (l + 1))) (by omega) (fun k i a hi => ?_) (fun k a => ?_)
  · show Mo_rank_b29B mo p1 k8 (Mo_rank_b29 mo p1 k8 k) (nI l) a (nI i) = _
    obtain ⟨ef2, hf2⟩ := fN_eq (mo := mo) hn (nI i)
    unfold Mo_rank_b29B
    rw [show (5 : Int32) = nI 5 from rfl, if_neg (nI_ge hi (by omega)), Mo_lineFlights_s _ hn hs, bn1_r, Mo_waitsMore_s hn hs j, Mo_waitsMore_s hn hs j]
    rw [show sm (fun f => if mo 0 (8 * f) = nI i ∧ Pd (mo 0) f then (1 : Int32) else 0) n = nI (fN n (mo 0) (nI i)) from ef2]
    unfold ahd
    simp only [stk_r, nI_1, bn1_r, bI_z]
    by_cases e1 : i = l
    · rw [if_pos (by rw [e1]), decide_eq_false (fun z => z.1 e1), if_neg (by decide)]
    · rw [if_neg (fun z => e1 ((nI_eq (by omega) (by omega)).mp z))]
      by_cases e2 : fN n (mo 0) (nI i) = 0
      · rw [if_pos (by rw [e2]; decide), decide_eq_false (fun z => z.2.1 e2), if_neg (by decide)]
      · rw [if_neg (nI_nle (by omega) (by omega))]
        generalize wN n (mo 0) (nI i) * fN n (mo 0) (nI l) = A
        generalize wN n (mo 0) (nI l) * fN n (mo 0) (nI i) = B
        rcases Nat.lt_trichotomy B A with hlt | heq | hgt
        · rw [if_pos hlt, decide_eq_true ⟨e1, e2, Or.inl hlt⟩, if_pos rfl]
        · subst heq
          rw [if_neg (Nat.lt_irrefl _)]
          by_cases hil : i < l
          · rw [if_neg (nI_ge hil (by omega)), if_neg (Nat.lt_irrefl _), decide_eq_true ⟨e1, e2, Or.inr ⟨rfl, hil⟩⟩, if_pos rfl]
          · rw [if_pos (nI_le (by omega) (by omega)), decide_eq_false (fun z => by omega), if_neg (by decide)]
        · rw [if_neg (by omega), if_pos hgt, decide_eq_false (fun z => by omega)]
          by_cases hil : nI l ≤ nI i
          · rw [if_pos hil]; rfl
          · rw [if_neg hil]; rfl
  · show Mo_rank_b29B mo p1 k8 (Mo_rank_b29 mo p1 k8 k) (nI l) a (nI 5) = _
    unfold Mo_rank_b29B
    rw [if_pos (show (5 : Int32) ≤ nI 5 by decide), stk_r, nI_1]
def rkB (n : Nat) (s : Nat → Int32) (p : Int32) (l : Nat) : Bool := decide (fN n s (nI l) ≠ 0 ∧ aCn n s l = p)
theorem q_rank (h : RF n v fo ro ra vc os li (mo 0)) : ∃ r, St_rank fo ro x = some r ∧ Mo_rank mo x = some r := by
  have hn := h.f.n20
  have hs := h.f.sn
  unfold St_rank Mo_rank
  by_cases hx : 0 ≤ x
  · rw [if_pos hx, if_pos hx]
    have e1 := for_seek (fun k z => St_rank_b8 fo ro x k z) 5 (rkB n (mo 0) x) (fun i => some (nI i)) (some (-2)) (fun k i hi => ?_) (fun k => rfl) 5 fl 0 (by omega) (by rw [fl_v]; omega)
    · have e2 := for_seek (fun k z => Mo_rank_b8 mo x k z) 5 (rkB n (mo 0) x) (fun i => some (nI i)) (some (-2)) (fun k i hi => ?_) (fun k => rfl) 5 fl 0 (by omega) (by rw [fl_v]; omega)
      · rw [show St_rank_b8 fo ro x fl 0 = _ from e1, show Mo_rank_b8 mo x fl 0 = _ from e2]
        cases seek (rkB n (mo 0) x) 0 5 with
        | none => exact ⟨_, rfl, rfl⟩
        | some i => exact ⟨_, rfl, rfl⟩
      · show Mo_rank_b8B mo x (Mo_rank_b8 mo x k) (nI i) = _
        obtain ⟨ef2, hf2⟩ := fN_eq (mo := mo) hn (nI i)
        unfold Mo_rank_b8B
        rw [show (5 : Int32) = nI 5 from rfl, if_neg (nI_ge hi (by omega)), Mo_lineFlights_s _ hn hs, bn1_r, Mo_rank_in hi hn hs h.j]
        rw [show sm (fun f => if mo 0 (8 * f) = nI i ∧ Pd (mo 0) f then (1 : Int32) else 0) n = nI (fN n (mo 0) (nI i)) from ef2, stk_r, nI_1]
        unfold rkB
        by_cases e0 : fN n (mo 0) (nI i) = 0
        · rw [if_pos (by rw [e0]; rfl), decide_eq_false (fun z => z.1 e0), if_neg (by decide)]
        · rw [if_neg (nI_ne0 (by omega) (by omega))]
          by_cases ea : aCn n (mo 0) i = x
          · rw [if_pos ea, decide_eq_true ⟨e0, ea⟩, if_pos rfl]
          · rw [if_neg ea, decide_eq_false (fun z => ea z.2), if_neg (by decide)]
    · show St_rank_b8B fo ro x (St_rank_b8 fo ro x k) (nI i) = _
      obtain ⟨ef2, hf2⟩ := fN_eq (mo := mo) hn (nI i)
      unfold St_rank_b8B
      rw [show (5 : Int32) = nI 5 from rfl, if_neg (nI_ge hi (by omega)), Fi_seatedOf_s h.f, bn1_r, Fi_linesAhead_s hi h.f h.j, bn1_r]
      rw [show sm (fun f => if mo 0 (8 * f) = nI i ∧ Pd (mo 0) f then (1 : Int32) else 0) n = nI (fN n (mo 0) (nI i)) from ef2, stk_r, nI_1]
      unfold rkB
      by_cases e0 : fN n (mo 0) (nI i) = 0
      · rw [if_pos (by rw [e0]; decide), decide_eq_false (fun z => z.1 e0), if_neg (by decide)]
      · rw [if_neg (nI_nle (by omega) (by omega))]
        by_cases ea : aCn n (mo 0) i = x
        · rw [if_pos ea, decide_eq_true ⟨e0, ea⟩, if_pos rfl]
        · rw [if_neg ea, decide_eq_false (fun z => ea z.2), if_neg (by decide)]
  · rw [if_neg hx, if_neg hx]; exact ⟨_, rfl, rfl⟩
end FA
