/-! the reference's rows, one after the other -/
section RW
variable {K k c m : Nat} {mo : Mem} {x l : Int32} {tr mi er et wt p q : Nat → Nat} {st : ST}
def HS (K : Nat) (p : Nat → Nat) (mo : Mem) : Prop := ∀ i, i < K → mo 18 i = nI (p i)
theorem HS.sw {a b : Nat} (h : HS K p mo) (ha : a < K) (hb : b < K) : HS K (swp p a b) (upm (upm mo 18 a (mo 18 b)) 18 b (mo 18 a)) := fun i hi => by
  rw [upm_0, upm_0]
  unfold swp
  by_cases e : i = b
  · subst e; rw [pk_us, if_pos rfl]; exact h a ha
  · rw [pk_un e, if_neg e]
    by_cases e2 : i = a
    · subst e2; rw [pk_us, if_pos rfl]; exact h b hb
    · rw [pk_un e2, if_neg e2]; exact h i hi
theorem rv_l (hK : K ≤ 6) : ∀ (r lo hi N : Nat) (p : Nat → Nat) (mo : Mem), hi ≤ lo + 2 * r → hi < K → lo ≤ 20 → r < N → HS K p mo → ∃ mo', Mo_goesOn_b109 N mo (nI lo) (nI hi) = some (1, mo') ∧ HS K (rvN r p lo hi) mo' ∧ ∀ j, j ≠ 18 → mo' j = mo j
  | 0, lo, hi, N + 1, p, mo, h1, h2, h3, _, h => by
    refine ⟨mo, ?_, h, fun _ _ => rfl⟩
    show Mo_goesOn_b109B (Mo_goesOn_b109 N) mo (nI lo) (nI hi) = _
    unfold Mo_goesOn_b109B
    rw [if_pos (nI_le (by omega) (by omega))]
  | r + 1, lo, hi, N + 1, p, mo, h1, h2, h3, hN, h => by
    show ∃ mo', Mo_goesOn_b109B (Mo_goesOn_b109 N) mo (nI lo) (nI hi) = _ ∧ _
    unfold Mo_goesOn_b109B rvN
    by_cases z : hi ≤ lo
    · rw [if_pos (nI_le z (by omega)), if_pos z]
      exact ⟨mo, rfl, h, fun _ _ => rfl⟩
    · have sw := h.sw (a := lo) (b := hi) (by omega) h2
      obtain ⟨mo', a1, a2, a3⟩ := rv_l hK r (lo + 1) (hi - 1) N (swp p lo hi) _ (by omega) (by omega) (by omega) (by omega) sw
      rw [if_neg (nI_ge (by omega) (by omega)), if_neg z, ckI_nI _ (by omega) (by omega), nI_clamp (by omega), stk_r, ckI_nI _ (by omega) (by omega), nI_clamp (by omega), stk_r, stk_r, stk_r, stk_r, nI_1, show nI hi - 1 = nI (hi - 1) from pk_sub (a := hi) (b := 1) (by omega)]
      refine ⟨mo', a1, a2, fun j hj => by rw [a3 j hj, upm_n _ _ _ hj, upm_n _ _ _ hj]⟩
theorem fi_l (hK : K ≤ 6) (hk : k + 1 < K) (hp : ∀ i, i < K → p i < 6) (hlt : p k ≤ p (k + 1)) (h : HS K p mo) (hm : mo 20 0 = nI K) : ∀ (r i N : Nat), i = k + 1 + r → i < K → r < N → (k < fiN p (p k) i ∧ fiN p (p k) i ≤ i) ∧ Mo_goesOn_b48 N mo (nI k) (nI i) = Mo_goesOn_b109 fl (upm (upm mo 18 (fiN p (p k) i) (mo 18 k)) 18 k (mo 18 (fiN p (p k) i))) (nI (k + 1)) (nI (K - 1)) := by
  have stop : ∀ i N, i < K → p k ≤ p i → Mo_goesOn_b48 (N + 1) mo (nI k) (nI i) = Mo_goesOn_b109 fl (upm (upm mo 18 i (mo 18 k)) 18 k (mo 18 i)) (nI (k + 1)) (nI (K - 1)) := fun i N hi z => by
    show Mo_goesOn_b48B (Mo_goesOn_b48 N) mo (nI k) (nI i) = _
    unfold Mo_goesOn_b48B
    have z20 : upm (upm mo 18 i (mo 18 k)) 18 k (mo 18 i) 20 0 = nI K := by rw [upm_n _ _ _ (by omega), upm_n _ _ _ (by omega)]; exact hm
    have b1 := hp i hi
    rw [ckI_nI _ (by omega) (by omega), ckI_nI _ (by omega) (by omega), nI_clamp (by omega), nI_clamp (by omega), if_pos (by rw [h k (by omega), h i hi]; exact nI_le z (by omega)), stk_r, stk_r, stk_r, stk_r, z20, stk_r, nI_1, show nI K - 1 = nI (K - 1) from pk_sub (a := K) (b := 1) (by omega)]
  intro r
  induction r with
  | zero =>
    intro i N hi hiK hN
    obtain ⟨N, rfl⟩ : ∃ q, N = q + 1 := ⟨N - 1, by omega⟩
    have e : i = k + 1 := by omega
    subst e
    have fe : fiN p (p k) (k + 1) = k + 1 := by unfold fiN; rw [if_pos hlt]
    rw [fe]
    exact ⟨by omega, stop (k + 1) N hiK hlt⟩
  | succ r ih =>
    intro i N hi hiK hN
    obtain ⟨N, rfl⟩ : ∃ q, N = q + 1 := ⟨N - 1, by omega⟩
    obtain ⟨i, rfl⟩ : ∃ q, i = q + 1 := ⟨i - 1, by omega⟩
    unfold fiN
    by_cases z : p k ≤ p (i + 1)
    · rw [if_pos z]
      exact ⟨by omega, stop (i + 1) N hiK z⟩
    · obtain ⟨a1, a2⟩ := ih i N (by omega) (by omega) (by omega)
      rw [if_neg z]
      refine ⟨by omega, ?_⟩
      rw [← a2]
      have b1 := hp k (by omega)
      show Mo_goesOn_b48B (Mo_goesOn_b48 N) mo (nI k) (nI (i + 1)) = _
      unfold Mo_goesOn_b48B
      rw [ckI_nI _ (by omega) (by omega), ckI_nI _ (by omega) (by omega), nI_clamp (by omega), nI_clamp (by omega), if_neg (by rw [h k (by omega), h (i + 1) hiK]; exact nI_ge (by omega) (by omega)), stk_r, show nI (i + 1) - 1 = nI i from pk_sub (a := i + 1) (b := 1) (by omega)]
theorem go_s (h1 : 1 ≤ K) (hK : K ≤ 6) (hp : ∀ i, i < K → p i < 6) (h : HS K p mo) (hm : mo 20 0 = nI K) : (nxN K p = none ∧ Mo_goesOn mo = some (0, mo)) ∨ ∃ q mo', nxN K p = some q ∧ Mo_goesOn mo = some (1, mo') ∧ HS K q mo' ∧ ∀ j, j ≠ 18 → mo' j = mo j := by
  have l : ∀ (k N : Nat), k < K → k < N → (fkN p k = none ∧ Mo_goesOn_b7 N mo (nI k - 1) = some (0, mo)) ∨ ∃ j, fkN p k = some j ∧ j + 1 < K ∧ p j ≤ p (j + 1) ∧ Mo_goesOn_b7 N mo (nI k - 1) = Mo_goesOn_b48 fl mo (nI j) (nI (K - 1)) := by
    intro k
    induction k with
    | zero =>
      intro N _ hN
      obtain ⟨N, rfl⟩ : ∃ q, N = q + 1 := ⟨N - 1, by omega⟩
      refine Or.inl ⟨rfl, ?_⟩
      show Mo_goesOn_b7B (Mo_goesOn_b7 N) mo (nI 0 - 1) = _
      unfold Mo_goesOn_b7B Mo_goesOn_b35
      rw [if_pos (by decide), if_neg (by decide)]
    | succ k ih =>
      intro N hk hN
      obtain ⟨N, rfl⟩ : ∃ q, N = q + 1 := ⟨N - 1, by omega⟩
      have b1 := hp (k + 1) hk
      have b2 := hp k (by omega)
      have e0 : nI (k + 1) - 1 = nI k := pk_sub (a := k + 1) (b := 1) (by omega)
      rw [e0]
      show (fkN p (k + 1) = none ∧ Mo_goesOn_b7B (Mo_goesOn_b7 N) mo (nI k) = some (0, mo)) ∨ ∃ j, fkN p (k + 1) = some j ∧ j + 1 < K ∧ p j ≤ p (j + 1) ∧ Mo_goesOn_b7B (Mo_goesOn_b7 N) mo (nI k) = Mo_goesOn_b48 fl mo (nI j) (nI (K - 1))
      unfold Mo_goesOn_b7B fkN
      rw [if_neg (nI_pos (by omega)), nI_1, ckI_nI _ (by omega) (by omega), ckI_nI _ (by omega) (by omega), nI_clamp (by omega), nI_clamp (by omega), h k (by omega), h (k + 1) hk]
      by_cases z : p k ≤ p (k + 1)
      · rw [if_pos (nI_le z (by omega)), if_pos z]
        refine Or.inr ⟨k, rfl, hk, z, ?_⟩
        unfold Mo_goesOn_b35
        rw [if_pos (nI_pos' (by omega)), hm, stk_r, show nI K - 1 = nI (K - 1) from pk_sub (a := K) (b := 1) (by omega)]
      · rw [if_neg (nI_ge (by omega) (by omega)), if_neg z, stk_r]
        exact ih N (by omega) (by omega)
  unfold Mo_goesOn nxN
  have e2 : nI K - 2 = nI (K - 1) - 1 := by
    rw [show nI (K - 1) = nI K - 1 from (pk_sub (a := K) (b := 1) (by omega)).symm, sub_sub32]
    rfl
  rw [hm, stk_r, e2]
  rcases l (K - 1) fl (by omega) (by rw [fl_v]; omega) with ⟨a1, a2⟩ | ⟨k, a1, a2, a3, a4⟩
  · left; rw [a1]; exact ⟨rfl, a2⟩
  · right
    rw [a1]
    obtain ⟨⟨b1, b1'⟩, b2⟩ := fi_l hK a2 hp a3 h hm (K - 1 - (k + 1)) (K - 1) fl (by omega) (by omega) (by rw [fl_v]; omega)
    obtain ⟨mo', c1, c2, c3⟩ := rv_l hK 3 (k + 1) (K - 1) fl _ _ (by omega) (by omega) (by omega) (by rw [fl_v]; omega) (h.sw (a := fiN p (p k) (K - 1)) (b := k) (by omega) (by omega))
    refine ⟨_, mo', rfl, ?_, c2, fun j hj => by rw [c3 j hj, upm_n _ _ _ hj, upm_n _ _ _ hj]⟩
    rw [a4, b2]
    exact c1
/-! what a row costs -/
def MDw (K n : Nat) (tr mi er et wt : Nat → Nat) (mo : Mem) : Prop := mo 20 0 = nI K ∧ (∀ i, i < K → mo 16 i = nI (tr i) ∧ tr i < 20 ∧ earS (mo 0) (tr i) = nI (er i) ∧ mo 0 (8 * tr i + 1) = nI (et i) ∧ mo 0 (8 * tr i + 3) = nI (wt i) ∧ et i ≤ er i ∧ er i < 2000) ∧ ∀ i, i < K → mo 17 i = nI (mi i) ∧ mi i < 1200
theorem MDw.cg {n : Nat} {mo' : Mem} (h : MDw K n tr mi er et wt mo) (e : ∀ j, j ≠ 18 → j ≠ 19 → mo' j = mo j) : MDw K n tr mi er et wt mo' := by
  unfold MDw
  rw [e 20 (by omega) (by omega), e 16 (by omega) (by omega), e 17 (by omega) (by omega), e 0 (by omega) (by omega)]
  exact h
def cI : Option Nat → Int32
  | none => -1
  | some c => nI c
theorem rc_l {n : Nat} (hK : K ≤ 6) (hd : MDw K n tr mi er et wt mo) : ∀ (t : List Nat) (i N a : Nat), i + t.length = K → t.length < N → (∀ y, y ∈ t → y < K) → (∀ j, j < t.length → mo 18 (i + j) = nI (tb6 t j)) → Mo_rowCost_b4 mo N (nI a) (nI i) = some (match cst (wq mi er et wt) i t with
    | none => -1
    | some c => nI (a + c))
  | [], i, N + 1, a, hi, _, _, _ => by
    have e : i = K := hi
    subst e
    show Mo_rowCost_b4B mo (Mo_rowCost_b4 mo N) (nI a) (nI i) = _
    unfold Mo_rowCost_b4B
    rw [hd.1, if_pos (nI_le (Nat.le_refl _) (by omega))]
    rfl
  | y :: t, i, N + 1, a, hi, hN, hy, h18 => by
    have hl : (y :: t).length = t.length + 1 := rfl
    have iK : i < K := by omega
    have yK := hy y (by simp)
    obtain ⟨e16, trb, ee, e1, e3, le, eb⟩ := hd.2.1 i iK
    obtain ⟨e17, mb⟩ := hd.2.2 y yK
    have e18 : mo 18 i = nI y := h18 0 (by omega)
    show Mo_rowCost_b4B mo (Mo_rowCost_b4 mo N) (nI a) (nI i) = _
    unfold Mo_rowCost_b4B
    rw [hd.1, if_neg (nI_ge iK (by omega)), ckI_nI (i := i) _ (by omega) (by omega), nI_clamp (by omega), e16, stk_r, e18, ckI_nI _ (by omega) (by omega), nI_clamp (by omega), e17, stk_r, Mo_earliest_s trb, bn1_r, ee]
    show _ = some (match (match wq mi er et wt i y with
      | none => none
      | some a => match cst (wq mi er et wt) (i + 1) t with
        | none => none
        | some b => some (a + b)) with
      | none => -1
      | some c => nI (a + c))
    unfold wq
    by_cases z : er i ≤ mi y
    · rw [if_pos (nI_le z (by omega)), if_pos z, Mo_of_3 trb, bn1_r, Mo_of_1 trb, bn1_r, e1, e3, pk_sub (by omega), pk_mul, nI_add, stk_r, stk_r, nI_1]
      rw [rc_l hK hd t (i + 1) N (a + wt i * (mi y - et i)) (by omega) (by omega) (fun y' h' => hy y' (by simp [h'])) (fun j hj => by
        rw [show i + 1 + j = i + (j + 1) by omega, h18 (j + 1) (by omega)]
        rfl)]
      show some (match cst (wq mi er et wt) (i + 1) t with
        | none => -1
        | some c => nI (a + wt i * (mi y - et i) + c)) = some (match (match cst (wq mi er et wt) (i + 1) t with
          | none => none
          | some b => some (wt i * (mi y - et i) + b)) with
          | none => -1
          | some c => nI (a + c))
      cases cst (wq mi er et wt) (i + 1) t with
      | none => rfl
      | some b =>
        show some (nI (a + wt i * (mi y - et i) + b)) = some (nI (a + (wt i * (mi y - et i) + b)))
        rw [Nat.add_assoc]
    · rw [if_neg (nI_ge (by omega) (by omega)), if_neg z]
theorem cst_b {w : Nat → Nat → Option Nat} (hw : ∀ i x a, i < K → x < K → w i x = some a → a ≤ 10800) : ∀ (t : List Nat) (i c : Nat), i + t.length ≤ K → (∀ y, y ∈ t → y < K) → cst w i t = some c → c ≤ 10800 * t.length
  | [], i, c, _, _, h => by
    have : (0 : Nat) = c := Option.some.inj h
    omega
  | y :: t, i, c, hi, hy, h => by
    have hl : (y :: t).length = t.length + 1 := rfl
    have h : (match w i y with
      | none => none
      | some a => match cst w (i + 1) t with
        | none => none
        | some b => some (a + b)) = some c := h
    cases e1 : w i y with
    | none => rw [e1] at h; exact nomatch h
    | some a =>
      cases e2 : cst w (i + 1) t with
      | none => rw [e1, e2] at h; exact nomatch h
      | some b =>
        rw [e1, e2] at h
        have : a + b = c := Option.some.inj h
        have h1 := hw i y a (by omega) (hy y (by simp)) e1
        have h2 := cst_b hw t (i + 1) b (by omega) (fun y' h' => hy y' (by simp [h'])) e2
        rw [hl]
        omega
/-- the best so far -/
def MBw (K : Nat) (mi : Nat → Nat) (st : ST) (x : Int32) (mo : Mem) : Prop := (st = none ∧ x = -1) ∨ ∃ b q, st = some (b, q) ∧ x = nI b ∧ b < 2 ^ 20 ∧ ∀ i, i < K → mo 19 i = nI (mi (tb6 q i))
theorem MBw.cg {mo' : Mem} (h : MBw K mi st x mo) (e : mo' 19 = mo 19) : MBw K mi st x mo' := by
  unfold MBw
  rw [e]
  exact h
theorem br_l {n : Nat} {k43 : Mem → Int32 → Int32 → Option Mem} (hK : K ≤ 6) : ∀ (r i N : Nat) (mo : Mem), i + r = K → r < N → MDw K n tr mi er et wt mo → HS K p mo → (∀ i, i < K → p i < K) → (∀ j, j < i → mo 19 j = nI (mi (p j))) → ∃ mo', Mo_orders_b76 l k43 N mo x (nI i) = Mo_orders_b110 l k43 mo' x ∧ (∀ j, j < K → mo' 19 j = nI (mi (p j))) ∧ ∀ j, j ≠ 19 → mo' j = mo j
  | 0, i, N + 1, mo, hi, _, hd, hh, hp, h19 => by
    have e : i = K := by omega
    subst e
    refine ⟨mo, ?_, h19, fun _ _ => rfl⟩
    show Mo_orders_b76B l k43 (Mo_orders_b76 l k43 N) mo x (nI i) = _
    unfold Mo_orders_b76B
    rw [hd.1, if_pos (nI_le (Nat.le_refl _) (by omega))]
  | r + 1, i, N + 1, mo, hi, hN, hd, hh, hp, h19 => by
    have pi := hp i (by omega)
    obtain ⟨mo', a1, a2, a3⟩ := br_l hK r (i + 1) N (upm mo 19 i (nI (mi (p i)))) (by omega) (by omega) (hd.cg (fun j _ hj => upm_n _ _ _ hj)) (fun j hj => by rw [upm_n _ _ _ (by omega)]; exact hh j hj) hp (fun j hj => by
      rw [upm_0]
      by_cases e : j = i
      · subst e; rw [pk_us]
      · rw [pk_un e]; exact h19 j (by omega))
    refine ⟨mo', ?_, a2, fun j hj => by rw [a3 j hj, upm_n _ _ _ hj]⟩
    show Mo_orders_b76B l k43 (Mo_orders_b76 l k43 N) mo x (nI i) = _
    unfold Mo_orders_b76B
    rw [hd.1, if_neg (nI_ge (by omega) (by omega)), ckI_nI (i := i) _ (by omega) (by omega), nI_clamp (by omega), hh i (by omega), ckI_nI _ (by omega) (by omega), nI_clamp (by omega), (hd.2.2 (p i) pi).1, stk_r, stk_r, nI_1]
    exact a1
/-- all rows -/
theorem rows_l {n : Nat} (h1 : 1 ≤ K) (hK : K ≤ 6) (hwt : ∀ i, i < K → wt i ≤ 9) : ∀ (ps : List (List Nat)) (N : Nat) (mo : Mem) (x : Int32) (st : ST), chn K ps = true → ps.length < N → (∀ p, p ∈ ps → p.length = K ∧ ∀ y, y ∈ p → y < K) → (∀ p, ps.head? = some p → HS K (tb6 p) mo) → MDw K n tr mi er et wt mo → MBw K mi st x mo → ∃ mo' x', Mo_orders_b43 l N mo x 1 = Mo_orders_b121 l fl mo' x' 0 ∧ MDw K n tr mi er et wt mo' ∧ MBw K mi (ps.foldl (stp (wq mi er et wt)) st) x' mo' ∧ ∀ j, j ≠ 18 → j ≠ 19 → mo' j = mo j
  | [], N, mo, x, st, hc, _, _, _, _, _ => Bool.noConfusion hc
  | a :: r, N + 1, mo, x, st, hc, hN, hps, hh, hd, hb => by
    obtain ⟨al, ay⟩ := hps a (by simp)
    have ha : HS K (tb6 a) mo := hh a rfl
    have hmem : ∀ i, i < K → tb6 a i < K := fun i hi => by
      unfold tb6
      rw [List.getD_eq_getElem?_getD, List.getElem?_eq_getElem (by omega)]
      exact ay _ (List.getElem_mem _)
    have rc : Mo_rowCost mo = some (match cst (wq mi er et wt) 0 a with
        | none => -1
        | some c => nI (0 + c)) := rc_l hK hd a 0 fl 0 (by omega) (by rw [fl_v]; omega) ay (fun j hj => by rw [Nat.zero_add]; exact ha j (by omega))
    have cb : ∀ c, cst (wq mi er et wt) 0 a = some c → c < 2 ^ 20 := fun c hcs => by
      have := cst_b (K := K) (w := wq mi er et wt) (fun i y z hi hy hz => by
        unfold wq at hz
        by_cases q : er i ≤ mi y
        · rw [if_pos q] at hz
          have e : wt i * (mi y - et i) = z := Option.some.inj hz
          have m1 := (hd.2.2 y hy).2
          have := Nat.mul_le_mul (hwt i hi) (show mi y - et i ≤ 1200 by omega)
          omega
        · rw [if_neg q] at hz; exact nomatch hz) a 0 c (by omega) ay hcs
      omega
    -- the row is looked at
    have look : ∃ mo1 x1, Mo_orders_b43 l (N + 1) mo x 1 = Mo_orders_b110 l (Mo_orders_b43 l N) mo1 x1 ∧ MBw K mi (stp (wq mi er et wt) st a) x1 mo1 ∧ ∀ j, j ≠ 19 → mo1 j = mo j := by
      show ∃ mo1 x1, Mo_orders_b43B l (Mo_orders_b43 l N) mo x 1 = _ ∧ _
      unfold Mo_orders_b43B
      rw [if_neg (by decide), rc, bn1_r]
      unfold stp
      cases hcs : cst (wq mi er et wt) 0 a with
      | none =>
        show ∃ mo1 x1, (if (-1 : Int32) = -1 then Mo_orders_b110 l (Mo_orders_b43 l N) mo x else _) = _ ∧ _
        rw [if_pos rfl]
        exact ⟨mo, x, rfl, hb, fun _ _ => rfl⟩
      | some c =>
        have c20 := cb c hcs
        show ∃ mo1 x1, (if nI (0 + c) = -1 then Mo_orders_b110 l (Mo_orders_b43 l N) mo x else if x = -1 then Mo_orders_b76 l (Mo_orders_b43 l N) fl mo (nI (0 + c)) 0 else if x ≤ nI (0 + c) then Mo_orders_b110 l (Mo_orders_b43 l N) mo x else Mo_orders_b76 l (Mo_orders_b43 l N) fl mo (nI (0 + c)) 0) = _ ∧ _
        rw [Nat.zero_add, if_neg (fun z => by rw [nI_eqm (by omega)] at z; exact z)]
        obtain ⟨mo1, a1, a2, a3⟩ := br_l (l := l) (x := nI c) (k43 := Mo_orders_b43 l N) hK K 0 fl mo (by omega) (by rw [fl_v]; omega) hd ha hmem (fun j hj => by omega)
        rcases id hb with ⟨s0, x0⟩ | ⟨b, q, s0, x0, b20, b19⟩
        · rw [if_pos x0, s0]
          exact ⟨mo1, nI c, a1, Or.inr ⟨c, a, rfl, rfl, c20, a2⟩, a3⟩
        · rw [s0, x0, if_neg (fun z => by rw [nI_eqm (by omega)] at z; exact z)]
          show ∃ mo1 x1, _ ∧ MBw K mi (if c < b then some (c, a) else some (b, q)) x1 mo1 ∧ _
          by_cases lt : c < b
          · rw [if_neg (nI_ge lt (by omega)), if_pos lt]
            exact ⟨mo1, nI c, a1, Or.inr ⟨c, a, rfl, rfl, c20, a2⟩, a3⟩
          · rw [if_pos (nI_le (by omega) (by omega)), if_neg lt]
            refine ⟨mo, nI b, rfl, ?_, fun _ _ => rfl⟩
            exact Or.inr ⟨b, q, rfl, rfl, b20, b19⟩
    obtain ⟨mo1, x1, l1, l2, l3⟩ := look
    have hd1 : MDw K n tr mi er et wt mo1 := hd.cg (fun j _ hj => l3 j hj)
    have ha1 : HS K (tb6 a) mo1 := fun i hi => by rw [l3 18 (by omega)]; exact ha i hi
    have gs := go_s h1 hK (fun i hi => by have := hmem i hi; omega) ha1 hd1.1
    show ∃ mo' x', _ ∧ _ ∧ MBw K mi (r.foldl (stp (wq mi er et wt)) (stp (wq mi er et wt) st a)) x' mo' ∧ _
    rw [l1]
    unfold Mo_orders_b110
    cases r with
    | nil =>
      have hc' : (nxL K a).isNone = true := hc
      unfold nxL at hc'
      rcases gs with ⟨g1, g2⟩ | ⟨q, mo', g1, -⟩
      · rw [g2, bn2_r]
        obtain ⟨N, rfl⟩ : ∃ q, N = q + 1 := ⟨N - 1, by have : [a].length = 1 := rfl; omega⟩
        refine ⟨mo1, x1, ?_, hd1, l2, fun j _ hj => l3 j hj⟩
        show Mo_orders_b43B l (Mo_orders_b43 l N) mo1 x1 0 = _
        unfold Mo_orders_b43B
        rw [if_pos rfl]
      · rw [g1] at hc'; exact Bool.noConfusion hc'
    | cons b r =>
      have hc' : (nxL K a == some b) = true ∧ chn K (b :: r) = true := Bool.and_eq_true _ _ ▸ (show ((nxL K a == some b) && chn K (b :: r)) = true from hc)
      have nx : nxL K a = some b := eq_of_beq hc'.1
      unfold nxL at nx
      rcases gs with ⟨g1, g2⟩ | ⟨q, mo2, g1, g2, g3, g4⟩
      · rw [g1] at nx; exact nomatch nx
      · rw [g1] at nx
        have eb : (List.range K).map q = b := Option.some.inj nx
        rw [g2, bn2_r]
        obtain ⟨mo', x', i1, i2, i3, i4⟩ := rows_l h1 hK hwt (b :: r) N mo2 x1 (stp (wq mi er et wt) st a) hc'.2 (by have : (a :: b :: r).length = (b :: r).length + 1 := rfl; omega) (fun p hp => hps p (List.mem_cons_of_mem _ hp)) (fun p hp => by
          have : b = p := Option.some.inj hp
          subst this
          intro i hi
          rw [← eb, tb_map hi]
          exact g3 i hi) (hd1.cg (fun j hj _ => g4 j hj)) (l2.cg (g4 19 (by omega)))
        exact ⟨mo', x', i1, i2, i3, fun j hj hj2 => by rw [i4 j hj hj2, g4 j hj, l3 j hj2]⟩
end RW
