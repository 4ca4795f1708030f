/-! the class's search -/
section LY
variable {K d c m : Nat} {fo ro se : Mem} {x : Int32} {tr mi er et wt : Nat → Nat} {u : Nat → Bool} {st : ST} {pre : List Nat}
def wq (mi er et wt : Nat → Nat) (i x : Nat) : Option Nat := if er i ≤ mi x then some (wt i * (mi x - et i)) else none
def SC (K : Nat) (tr mi : Nat → Nat) (se : Mem) : Prop := se 2 0 = nI K ∧ (∀ i, i < K → se 0 i = nI (tr i)) ∧ ∀ i, i < K → se 3 i = nI (mi i)
def CSt (K : Nat) (mi : Nat → Nat) (st : ST) (se : Mem) : Prop := (st = none ∧ se 7 0 = 2147483647) ∨ ∃ b q, st = some (b, q) ∧ se 7 0 = nI b ∧ b < 2 ^ 20 ∧ ∀ i, i < K → se 1 i = nI (mi (tb6 q i))
theorem SC.cg {se' : Mem} (h : SC K tr mi se) (h0 : se' 0 = se 0) (h2 : se' 2 = se 2) (h3 : se' 3 = se 3) : SC K tr mi se' := ⟨by rw [h2]; exact h.1, fun i hi => by rw [h0]; exact h.2.1 i hi, fun i hi => by rw [h3]; exact h.2.2 i hi⟩
theorem CSt.cg {se' : Mem} (h : CSt K mi st se) (h7 : se' 7 0 = se 7 0) (h1 : se' 1 = se 1) : CSt K mi st se' := by
  rcases h with ⟨a, b⟩ | ⟨b, q, a1, a2, a3, a4⟩
  · exact Or.inl ⟨a, by rw [h7]; exact b⟩
  · exact Or.inr ⟨b, q, a1, by rw [h7]; exact a2, a3, fun i hi => by rw [h1]; exact a4 i hi⟩
theorem tb_lo {l t : List Nat} {i : Nat} (h : i < l.length) : tb6 (l ++ t) i = tb6 l i := by
  unfold tb6
  rw [List.getD_eq_getElem?_getD, List.getD_eq_getElem?_getD, List.getElem?_append_left h]
theorem tb_at {l : List Nat} {y : Nat} : tb6 (l ++ [y]) l.length = y := by
  unfold tb6
  rw [List.getD_eq_getElem?_getD, List.getElem?_append_right (Nat.le_refl _), Nat.sub_self]
  rfl
theorem stp_ge {w : Nat → Nat → Option Nat} {b : Nat} {q t : List Nat} (hp : cst w 0 pre = some c) (hb : b ≤ c) : stp w (some (b, q)) (pre ++ t) = some (b, q) := by
  unfold stp
  rw [cst_app, hp]
  show (match (match cst w (0 + pre.length) t with
    | none => none
    | some b => some (c + b)) with
    | none => some (b, q)
    | some c => if c < b then some (c, pre ++ t) else some (b, q)) = _
  cases cst w (0 + pre.length) t with
  | none => rfl
  | some a =>
    show (if c + a < b then some (c + a, pre ++ t) else some (b, q)) = _
    rw [if_neg (by omega)]
theorem stp_bad {w : Nat → Nat → Option Nat} {y : Nat} {t : List Nat} (hd : pre.length = d) (hw : w d y = none) : stp w st (pre ++ y :: t) = st := by
  unfold stp
  have : cst w 0 (pre ++ y :: t) = none := by
    rw [cst_app, Nat.zero_add, hd]
    show (match cst w 0 pre with
      | none => none
      | some a => match (match w d y with
        | none => none
        | some a => match cst w (d + 1) t with
          | none => none
          | some b => some (a + b)) with
        | none => none
        | some b => some (a + b)) = none
    rw [hw]
    cases cst w 0 pre <;> rfl
  rw [this]
theorem lay_s (hK : K ≤ 6) (hmi : ∀ i, i < K → mi i < 1200) (hwt : ∀ i, i < K → wt i ≤ 9) (hE : ∀ i, i < K → Fi_earliest fo ro (nI (tr i)) = some (nI (er i))) (her : ∀ i, i < K → er i < 2000) (hC : ∀ i y, i < K → er i ≤ y → y < 1200 → Fi_costOnGround ro (nI (tr i)) (nI y) = some (nI (wt i * (y - et i)))) :
    ∀ (m d N : Nat) (pre : List Nat) (u : Nat → Bool) (c : Nat) (se : Mem) (st : ST), d + m = K → m < N → pre.length = d → cst (wq mi er et wt) 0 pre = some c → c ≤ 10800 * d → SC K tr mi se → (∀ i, i < d → se 4 i = nI (mi (tb6 pre i))) → se 5 0 = nI (msk u 6) → CSt K mi st se → ∃ se', Se_layN fo ro N se (nI d) (nI c) = some se' ∧ SC K tr mi se' ∧ (∀ i, i < d → se' 4 i = se 4 i) ∧ se' 5 0 = se 5 0 ∧ se' 6 0 = se 6 0 ∧ CSt K mi (((prm K m u).map (pre ++ ·)).foldl (stp (wq mi er et wt)) st) se' := by
  intro m
  induction m with
  | zero =>
    intro d N pre u c se st hd hN hp hcp hcb hS h4 h5 hst
    obtain ⟨N, rfl⟩ : ∃ q, N = q + 1 := ⟨N - 1, by omega⟩
    have ps : ((prm K 0 u).map (pre ++ ·)).foldl (stp (wq mi er et wt)) st = stp (wq mi er et wt) st pre := by
      show stp (wq mi er et wt) st (pre ++ []) = _
      rw [List.append_nil]
    rw [ps]
    show ∃ se', Se_layB (Se_layN fo ro N) se fo ro (nI d) (nI c) = some se' ∧ _
    unfold Se_layB
    by_cases q : se 7 0 ≤ nI c
    · rw [if_pos q]
      refine ⟨se, rfl, hS, fun _ _ => rfl, rfl, rfl, ?_⟩
      rcases id hst with ⟨a, b⟩ | ⟨b, qq, a1, a2, a3, a4⟩
      · exfalso
        rw [b] at q
        exact absurd q (show ¬ nI 2147483647 ≤ nI c from nI_ge (by omega) (by omega))
      · rw [a2, nI_leI (by omega) (by omega)] at q
        have := stp_ge (t := []) (q := qq) hcp q
        rw [List.append_nil] at this
        rw [a1, this, ← a1]
        exact hst
    · rw [if_neg q, if_pos (nI_pos' (by omega)), hS.1, if_pos (nI_le (by omega) (by omega))]
      unfold Se_lay_b27
      rw [stk_r, stk_r]
      have e : stp (wq mi er et wt) st pre = some (c, pre) := by
        unfold stp
        rw [hcp]
        rcases id hst with ⟨a, b⟩ | ⟨b, qq, a1, a2, a3, a4⟩
        · rw [a]
        · rw [a1]
          rw [a2, nI_leI (by omega) (by omega)] at q
          show (if c < b then some (c, pre) else some (b, qq)) = _
          rw [if_pos (by omega)]
      rw [e]
      refine ⟨_, rfl, hS.cg ?_ ?_ ?_, fun i hi => ?_, ?_, ?_, Or.inr ⟨c, pre, rfl, ?_, by omega, fun i hi => ?_⟩⟩
      · rw [upA_n _ _ (by omega), upm_n _ _ _ (by omega)]
      · rw [upA_n _ _ (by omega), upm_n _ _ _ (by omega)]
      · rw [upA_n _ _ (by omega), upm_n _ _ _ (by omega)]
      · rw [upA_n _ _ (by omega), upm_n _ _ _ (by omega)]
      · rw [upA_n _ _ (by omega), upm_n _ _ _ (by omega)]
      · rw [upA_n _ _ (by omega), upm_n _ _ _ (by omega)]
      · rw [upA_n _ _ (by omega), upm_0, pk_us]
      · rw [upA_0, show va_cpy (upm se 7 0 (nI c) 4) (upm se 7 0 (nI c) 1) (0 : Int32).toNatClampNeg (0 : Int32).toNatClampNeg (6 : Int32).toNatClampNeg i = upm se 7 0 (nI c) 4 i from sb_cpy0 (n := 6) (by omega), upm_n _ _ _ (by omega)]
        exact h4 i (by omega)
  | succ m ih =>
    intro d N pre u c se st hd hN hp hcp hcb hS h4 h5 hst
    obtain ⟨N, rfl⟩ : ∃ q, N = q + 1 := ⟨N - 1, by omega⟩
    show ∃ se', Se_layB (Se_layN fo ro N) se fo ro (nI d) (nI c) = some se' ∧ _
    unfold Se_layB
    by_cases q : se 7 0 ≤ nI c
    · rw [if_pos q]
      refine ⟨se, rfl, hS, fun _ _ => rfl, rfl, rfl, ?_⟩
      rcases id hst with ⟨a, b⟩ | ⟨b, qq, a1, a2, a3, a4⟩
      · exfalso
        rw [b] at q
        exact absurd q (show ¬ nI 2147483647 ≤ nI c from nI_ge (by omega) (by omega))
      · rw [a2, nI_leI (by omega) (by omega)] at q
        rw [a1, fold_same (fun p hp' => ?_), ← a1]
        · exact hst
        · obtain ⟨t, -, rfl⟩ := List.mem_map.mp hp'
          exact stp_ge hcp q
    · rw [if_neg q, if_pos (nI_pos' (by omega)), hS.1, if_neg (nI_ge (by omega) (by omega)), if_pos (show nI d < 6 from nI_lt (b := 6) (by omega) (by omega)), ckI_nI _ (by omega) (by omega), nI_clamp (by omega), stk_r, hS.2.1 d (by omega)]
      have loop : ∀ (r i N1 : Nat) (se : Mem) (st : ST), i + r = K → r < N1 → SC K tr mi se → (∀ j, j < d → se 4 j = nI (mi (tb6 pre j))) → se 5 0 = nI (msk u 6) → CSt K mi st se → ∃ se', Se_lay_b59 (Se_layN fo ro N) fo ro (nI d) (nI c) N1 se (nI (tr d)) (nI i) = some se' ∧ SC K tr mi se' ∧ (∀ j, j < d → se' 4 j = se 4 j) ∧ se' 5 0 = se 5 0 ∧ se' 6 0 = se 6 0 ∧ CSt K mi (((cat (fun x => if u x then [] else (prm K m (orD u x)).map (x :: ·)) i r).map (pre ++ ·)).foldl (stp (wq mi er et wt)) st) se' := by
        intro r
        induction r with
        | zero =>
          intro i N1 se st hi hN1 hS h4 h5 hst
          obtain ⟨N1, rfl⟩ : ∃ q, N1 = q + 1 := ⟨N1 - 1, by omega⟩
          refine ⟨se, ?_, hS, fun _ _ => rfl, rfl, rfl, hst⟩
          show Se_lay_b59B (Se_layN fo ro N) fo ro (nI d) (nI c) (Se_lay_b59 (Se_layN fo ro N) fo ro (nI d) (nI c) N1) se (nI (tr d)) (nI i) = _
          unfold Se_lay_b59B
          rw [hS.1, if_pos (nI_le (by omega) (by omega))]
        | succ r ihr =>
          intro i N1 se st hi hN1 hS h4 h5 hst
          obtain ⟨N1, rfl⟩ : ∃ q, N1 = q + 1 := ⟨N1 - 1, by omega⟩
          have iK : i < K := by omega
          have e1 : ((cat (fun x => if u x then [] else (prm K m (orD u x)).map (x :: ·)) i (r + 1)).map (pre ++ ·)).foldl (stp (wq mi er et wt)) st = ((cat (fun x => if u x then [] else (prm K m (orD u x)).map (x :: ·)) (i + 1) r).map (pre ++ ·)).foldl (stp (wq mi er et wt)) (((if u i then [] else (prm K m (orD u i)).map (i :: ·)).map (pre ++ ·)).foldl (stp (wq mi er et wt)) st) := by
            show (((if u i then [] else (prm K m (orD u i)).map (i :: ·)) ++ cat (fun x => if u x then [] else (prm K m (orD u x)).map (x :: ·)) (i + 1) r).map (pre ++ ·)).foldl _ st = _
            rw [List.map_append, List.foldl_append]
          rw [e1]
          show ∃ se', Se_lay_b59B (Se_layN fo ro N) fo ro (nI d) (nI c) (Se_lay_b59 (Se_layN fo ro N) fo ro (nI d) (nI c) N1) se (nI (tr d)) (nI i) = some se' ∧ _
          unfold Se_lay_b59B
          have bz := bit_ask (P := u) (k := 6) (f := i) (by omega) (by omega)
          rw [hS.1, if_neg (nI_ge iK (by omega)), if_neg (show ¬ 6 ≤ nI i from nI_ge (b := 6) (by omega) (by omega)), stk_r, ckI_nI (i := i) _ (by omega) (by omega), nI_clamp (by omega), stk_r, hS.2.2 i iK, h5]
          by_cases ui : u i = true
          · rw [if_neg (by rw [bz, ui]; exact Bool.noConfusion), stk_r, nI_1, ui, if_pos rfl, ← h5]
            exact ihr (i + 1) N1 se st (by omega) (by omega) hS h4 h5 hst
          · rw [Bool.not_eq_true] at ui
            rw [if_pos (by rw [bz]; exact ui), hE d (by omega), bn1_r, ui, if_neg (show ¬ false = true by decide)]
            have hd1 := her d (by omega)
            have hmi1 := hmi i iK
            by_cases ok : er d ≤ mi i
            · have bs := bit_set (P := u) (Q := orD u i) (k := 6) (f := i) (by omega) (by omega) (fun _ _ => rfl)
              have z5 : upm se 4 d (nI (mi i)) 5 0 = nI (msk u 6) := by rw [upm_n _ _ _ (by omega)]; exact h5
              have wb : wt d * (mi i - et d) ≤ 10800 := by
                have := Nat.mul_le_mul (hwt d (by omega)) (show mi i - et d ≤ 1200 by omega)
                omega
              have cp : cst (wq mi er et wt) 0 (pre ++ [i]) = some (c + wt d * (mi i - et d)) := by
                rw [cst_app, hcp, Nat.zero_add, hp]
                show (match (match wq mi er et wt d i with
                  | none => none
                  | some a => match cst (wq mi er et wt) (d + 1) [] with
                    | none => none
                    | some b => some (a + b)) with
                  | none => none
                  | some b => some (c + b)) = _
                unfold wq
                rw [if_pos ok]
                rfl
              obtain ⟨se1, a1, a2, a3, a4, a5, a6⟩ := ih (d + 1) N (pre ++ [i]) (orD u i) (c + wt d * (mi i - et d)) (upm (upm se 4 d (nI (mi i))) 5 0 (nI (msk (orD u i) 6))) st (by omega) (by omega) (by rw [List.length_append, hp]; rfl) cp (by omega) (hS.cg (by rw [upm_n _ _ _ (by omega), upm_n _ _ _ (by omega)]) (by rw [upm_n _ _ _ (by omega), upm_n _ _ _ (by omega)]) (by rw [upm_n _ _ _ (by omega), upm_n _ _ _ (by omega)])) (fun j hj => by
                rw [upm_n _ _ _ (by omega), upm_0]
                by_cases e : j = d
                · subst e; rw [pk_us, ← hp, tb_at]
                · rw [pk_un e, tb_lo (by omega)]; exact h4 j (by omega)) (by rw [upm_0, pk_us]) (hst.cg (by rw [upm_n _ _ _ (by omega), upm_n _ _ _ (by omega)]) (by rw [upm_n _ _ _ (by omega), upm_n _ _ _ (by omega)]))
              have mm : ((prm K m (orD u i)).map (i :: ·)).map (pre ++ ·) = (prm K m (orD u i)).map ((pre ++ [i]) ++ ·) := by
                rw [List.map_map]
                refine List.map_congr_left (fun t _ => ?_)
                show pre ++ i :: t = pre ++ [i] ++ t
                simp
              rw [mm]
              have bc := bit_clr (P := orD u i) (Q := u) (k := 6) (f := i) (by omega) (by omega) (fun j _ => by
                by_cases e : j = i
                · subst e; rw [ui, decide_eq_true rfl]; exact (Bool.and_false _).symm
                · rw [orD_n e, decide_eq_false e]; exact (Bool.and_true _).symm)
              have a4' : se1 5 0 = nI (msk (orD u i) 6) := by rw [a4, upm_0, pk_us]
              obtain ⟨se2, b1, b2, b3, b4, b5, b6⟩ := ihr (i + 1) N1 (upm se1 5 0 (nI (msk u 6))) _ (by omega) (by omega) (a2.cg (upm_n _ _ _ (by omega)) (upm_n _ _ _ (by omega)) (upm_n _ _ _ (by omega))) (fun j hj => by
                rw [upm_n _ _ _ (by omega), a3 j (by omega), upm_n _ _ _ (by omega), upm_0, pk_un (by omega)]
                exact h4 j hj) (by rw [upm_0, pk_us]) (a6.cg (by rw [upm_n _ _ _ (by omega)]) (upm_n _ _ _ (by omega)))
              refine ⟨se2, ?_, b2, fun j hj => ?_, ?_, ?_, b6⟩
              · rw [if_pos (nI_le ok (by omega)), ckI_nI _ (by omega) (by omega), nI_clamp (by omega), stk_r, z5, bs, stk_r, hC d (mi i) (by omega) ok hmi1, bn1_r, nI_add, nI_1, a1, bn1_r, a4', bc, stk_r, stk_r, nI_1]
                exact b1
              · rw [b3 j hj, upm_n _ _ _ (by omega), a3 j (by omega), upm_n _ _ _ (by omega), upm_0, pk_un (by omega)]
              · rw [b4, upm_0, pk_us]
              · rw [b5, upm_n _ _ _ (by omega), a5, upm_n _ _ _ (by omega), upm_n _ _ _ (by omega)]
            · have same : (((prm K m (orD u i)).map (i :: ·)).map (pre ++ ·)).foldl (stp (wq mi er et wt)) st = st := fold_same (fun p hp' => by
                obtain ⟨t, ht, rfl⟩ := List.mem_map.mp hp'
                obtain ⟨t', -, rfl⟩ := List.mem_map.mp ht
                exact stp_bad hp (by unfold wq; rw [if_neg ok]))
              rw [same, if_neg (nI_ge (by omega) (by omega)), stk_r, nI_1, ← h5]
              exact ihr (i + 1) N1 se st (by omega) (by omega) hS h4 h5 hst
      obtain ⟨se', a1, a2, a3, a4, a5, a6⟩ := loop K 0 fl se st (by omega) (by rw [fl_v]; omega) hS h4 h5 hst
      exact ⟨se', a1, a2, a3, a4, a5, a6⟩
end LY
