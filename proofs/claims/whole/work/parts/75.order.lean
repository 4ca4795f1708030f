/-! a line's best order -/
section OD
variable {n v K k f : Nat} {fo ro ra vc os li mo se : Mem} {x y l : Int32} {s : Nat → Int32} {tr mi er et wt b : Nat → Nat}
/-- given one after the other -/
def gS (s : Nat → Int32) (tr b : Nat → Nat) : Nat → (Nat → Int32)
  | 0 => s
  | k + 1 => gvS (gS s tr b k) (tr k) (nI (b k))
theorem gS_o {i : Nat} : ∀ {k : Nat}, (i % 8 < 4 ∨ i % 8 = 7 ∨ ∀ j, j < k → tr j ≠ i / 8) → gS s tr b k i = s i
  | 0, _ => rfl
  | k + 1, h => by
    show gvS (gS s tr b k) (tr k) (nI (b k)) i = s i
    have : i ≠ 8 * tr k + 4 ∧ i ≠ 8 * tr k + 5 ∧ i ≠ 8 * tr k + 6 := by
      rcases h with h | h | h
      · omega
      · omega
      · have := h k (by omega); omega
    rw [gv_un this]
    refine gS_o ?_
    rcases h with h | h | h
    · exact Or.inl h
    · exact Or.inr (Or.inl h)
    · exact Or.inr (Or.inr (fun j hj => h j (by omega)))
theorem gS_t (inc : ∀ i j, i < j → j < K → tr i < tr j) : ∀ {k j : Nat}, k ≤ K → j < k → gS s tr b k (8 * tr j + 4) = nI (b j) ∧ gS s tr b k (8 * tr j + 5) = nI (b j) - s (8 * tr j + 1) ∧ gS s tr b k (8 * tr j + 6) = 0
  | k + 1, j, hk, hj => by
    show gvS (gS s tr b k) (tr k) (nI (b k)) (8 * tr j + 4) = _ ∧ gvS (gS s tr b k) (tr k) (nI (b k)) (8 * tr j + 5) = _ ∧ gvS (gS s tr b k) (tr k) (nI (b k)) (8 * tr j + 6) = _
    by_cases e : j = k
    · subst e
      rw [gv_4, gv_5, gv_6, gS_o (by omega)]
      exact ⟨rfl, rfl, rfl⟩
    · have := inc j k (by omega) (by omega)
      rw [gv_un (by omega), gv_un (by omega), gv_un (by omega)]
      exact gS_t inc (by omega) (by omega)
/-- a good order -/
def OB (n : Nat) (s : Nat → Int32) (l : Int32) (K : Nat) (tr b : Nat → Nat) : Prop := K ≤ 6 ∧ (∀ i, i < K → tr i < n ∧ s (8 * tr i) = l ∧ Gnd s (tr i)) ∧ (∀ i j, i < j → j < K → tr i < tr j) ∧ (∀ i, i < K → ∃ j, j < K ∧ b i = slN s (tr j)) ∧ (∀ i j, i < K → j < K → b i = b j → i = j) ∧ ∀ i, i < K → etN s (tr i) ≤ b i
theorem RF_ord {fo' : Mem} (h : RF n v fo ro ra vc os li s) (ob : OB n s l K tr b) (r3 : Rf n fo' ro (gS s tr b K)) (e10 : fo' 10 = fo 10) (e8 : fo' 8 = fo 8) : RF n v fo' ro ra vc os li (gS s tr b K) := by
  have hn := h.1.n20
  obtain ⟨hF, hr, hb, hv, ho, hl, jt, jf, jg, jp, jd, jv, jr, jo, jl⟩ := id h
  obtain ⟨o1, o2, o3, o4, o5, o6⟩ := ob
  have j := h.2.2.2.2.2.2
  have lt20 : ∀ i, i < K → tr i < 20 := fun i hi => by have := (o2 i hi).1; omega
  have u : ∀ i, (i % 8 < 4 ∨ i % 8 = 7 ∨ ∀ j, j < K → tr j ≠ i / 8) → gS s tr b K i = s i := fun i hi => gS_o hi
  have hi' : ∀ i, 160 ≤ i → gS s tr b K i = s i := fun i hi => u i (Or.inr (Or.inr (fun jj hj => by have := lt20 jj hj; omega)))
  have t : ∀ jj, jj < K → gS s tr b K (8 * tr jj + 4) = nI (b jj) ∧ gS s tr b K (8 * tr jj + 5) = nI (b jj) - s (8 * tr jj + 1) ∧ gS s tr b K (8 * tr jj + 6) = 0 := fun jj hj => gS_t o3 (Nat.le_refl K) hj
  generalize gS s tr b K = s' at *
  have a2 : ag s s' 160 172 := fun i h1 h2 => hi' i (by omega)
  have a3 : ag s s' 176 216 := fun i h1 h2 => hi' i (by omega)
  have a4 : ag s s' 252 1452 := fun i h1 h2 => hi' i (by omega)
  have a5 : ag s s' 216 252 := fun i h1 h2 => hi' i (by omega)
  have go : ∀ i, gone n s' i = gone n s i := fun i => by
    unfold gone
    rw [u (8 * i + 7) (by omega)]
  have ex : ∀ k, (∃ i, i < K ∧ tr i = k) ∨ ∀ i, i < K → tr i ≠ k := fun k => by
    by_cases q : ∃ i, i < K ∧ tr i = k
    · exact Or.inl q
    · exact Or.inr (fun i hi z => q ⟨i, hi, z⟩)
  have un : ∀ k, (∀ i, i < K → tr i ≠ k) → ∀ w, w < 8 → s' (8 * k + w) = s (8 * k + w) := fun k hk w hw => u _ (Or.inr (Or.inr (fun jj hj => by have := hk jj hj; omega)))
  have bs : ∀ i, i < K → ∃ q, q < K ∧ b i = slN s (tr q) ∧ s (8 * tr q + 4) = nI (b i) ∧ b i < 1200 := fun i hi => by
    obtain ⟨q, q1, q2⟩ := o4 i hi
    obtain ⟨v1, v2⟩ := sl_v j (o2 q q1).1 (o2 q q1).2.2.1
    exact ⟨q, q1, q2, by rw [q2]; exact v1, by omega⟩
  have pd' : ∀ k, k < n → (Pd s' k ↔ Pd s k) := fun k hk => by
    rcases ex k with ⟨i, i1, rfl⟩ | q
    · obtain ⟨_, _, _, _, b2⟩ := bs i i1
      unfold Pd
      rw [u (8 * tr i + 7) (by omega), (t i i1).1]
      exact ⟨fun _ => (o2 i i1).2.2.1, fun z => ⟨nI_pos' (by omega), z.2⟩⟩
    · unfold Pd
      rw [un k q 4 (by omega), un k q 7 (by omega)]
  have sl : ∀ k, k < n → Pd s k → ∃ k', k' < n ∧ Pd s k' ∧ s' (8 * k + 4) = s (8 * k' + 4) ∧ ((∃ i q, i < K ∧ q < K ∧ k = tr i ∧ k' = tr q ∧ b i = slN s (tr q)) ∨ ((∀ i, i < K → tr i ≠ k) ∧ k' = k)) := fun k hk hpk => by
    rcases ex k with ⟨i, i1, rfl⟩ | q
    · obtain ⟨q, q1, q2, q3, q4⟩ := bs i i1
      exact ⟨tr q, (o2 q q1).1, (o2 q q1).2.2.1, by rw [(t i i1).1, q3], Or.inl ⟨i, q, i1, q1, rfl, rfl, q2⟩⟩
    · exact ⟨k, hk, hpk, un k q 4 (by omega), Or.inr ⟨q, rfl⟩⟩
  refine ⟨r3, hr.cg a2, ⟨?_, ?_⟩, ⟨?_, ?_⟩, ho.cg a3, hl.cg (hi' _ (by omega)) a5, jt.cg (hi' _ (by omega)) (hi' _ (by omega)), ?_, ?_, ?_, ?_, ⟨fun m hm => by rw [a4 (252 + m) (by omega) (by omega)]; exact jv.1 m hm, ?_⟩, jr.cg a2, ?_, jl.cg (hi' _ (by omega)) a5⟩
  · rw [e10, hi' _ (by omega)]; exact hb.1
  · rw [e8, msk_congr (fun i _ => go i)]; exact hb.2
  · rw [cn_congr (fun i _ => go i)]; exact hv.1
  · obtain ⟨h2, mm, kk, h3, h4, h5⟩ := hv.2
    refine ⟨h2, mm, kk, fun i hi => ?_, h4, fun m hm hz => ?_⟩
    · obtain ⟨q1, q2, q3, q4, q5⟩ := h3 i hi
      exact ⟨q1, q2, q3, q4, by rw [a4 (252 + mm i) (by omega) (by omega)]; exact q5⟩
    · rw [a4 (252 + m) (by omega) (by omega)] at hz
      exact h5 m hm hz
  · intro k hk
    rw [u (8 * k) (by omega), u (8 * k + 1) (by omega), u (8 * k + 2) (by omega), u (8 * k + 3) (by omega)]
    exact jf k hk
  · intro k hk
    rw [u (8 * k + 7) (by omega)]
    rcases ex k with ⟨i, i1, rfl⟩ | q
    · obtain ⟨_, _, _, _, b2⟩ := bs i i1
      rw [(t i i1).1]
      exact Or.inr ⟨Or.inl (o2 i i1).2.2.1.2, b i, b2, rfl⟩
    · rw [un k q 4 (by omega)]; exact jg k hk
  · intro k hk hpk
    rw [pd' k hk] at hpk
    rw [u (8 * k + 1) (by omega), u (8 * k + 2) (by omega), hi' 172 (by omega)]
    rcases ex k with ⟨i, i1, rfl⟩ | q
    · obtain ⟨_, _, _, _, b2⟩ := bs i i1
      obtain ⟨bf, cf, tt, mf, hhf, kf, f1, f2, f3, f4, f5, f6, f7, f8, f9, f10, f11, f12⟩ := jp (tr i) hk hpk
      have le := o6 i i1
      have eb : etN s (tr i) = bf := by unfold etN; rw [f1, nI_clamp (by omega)]
      rw [(t i i1).1, (t i i1).2.1, (t i i1).2.2]
      exact ⟨bf, cf, tt, b i, b i - bf, 0, f1, f2, f3, rfl, by rw [f1, pk_sub (by omega)], rfl, b2, by omega, Or.inl rfl, f10, f11, f12⟩
    · rw [un k q 4 (by omega), un k q 5 (by omega), un k q 6 (by omega)]
      exact jp k hk hpk
  · intro k1 k2 hk1 hk2 p1 p2 he
    rw [pd' k1 hk1] at p1
    rw [pd' k2 hk2] at p2
    obtain ⟨q1, a1, b1, c1, d1⟩ := sl k1 hk1 p1
    obtain ⟨q2, a2', b2, c2, d2⟩ := sl k2 hk2 p2
    have e := jd q1 q2 a1 a2' b1 b2 (by rw [← c1, ← c2]; exact he)
    rcases d1 with ⟨i1, z1, i1K, z1K, rfl, rfl, bb1⟩ | ⟨n1, rfl⟩
    · rcases d2 with ⟨i2, z2, i2K, z2K, rfl, rfl, bb2⟩ | ⟨n2, rfl⟩
      · have := o5 i1 i2 i1K i2K (by rw [bb1, bb2, e])
        rw [this]
      · exact absurd e (n2 z1 z1K)
    · rcases d2 with ⟨i2, z2, i2K, z2K, rfl, rfl, bb2⟩ | ⟨n2, rfl⟩
      · exact absurd e.symm (n1 z2 z2K)
      · exact e
  · intro k hk hpk m hm hz
    rw [pd' k hk] at hpk
    obtain ⟨q1, a1, b1, c1, d1⟩ := sl k hk hpk
    rw [a4 (252 + m) (by omega) (by omega)]
    exact jv.2 q1 a1 b1 m hm (by rw [← c1]; exact hz)
  · intro i hi
    rcases jo i hi with q | ⟨q, a', b', h1, h2, h3, h4, h5, h6⟩
    · exact Or.inl (by rw [a3 (180 + 5 * i) (by omega) (by omega)]; exact q)
    · refine Or.inr ⟨by rw [a3 (180 + 5 * i) (by omega) (by omega)]; exact q, a', b', h1, h2, h3, ?_, ?_, ?_⟩
      · rw [a3 (176 + 5 * i) (by omega) (by omega)]; exact h4
      · rw [a3 (178 + 5 * i) (by omega) (by omega)]; exact h5
      · rw [u (8 * a') (by omega), u (8 * b') (by omega)]; exact h6
/-! sums -/
theorem sm_front {g : Nat → Int32} : ∀ m, sm g (m + 1) = g 0 + sm (fun i => g (i + 1)) m
  | 0 => by show 0 + g 0 = g 0 + 0; rw [Int32.zero_add, Int32.add_zero]
  | m + 1 => by
    show sm g (m + 1) + g (m + 1) = g 0 + (sm (fun i => g (i + 1)) m + g (m + 1))
    rw [sm_front m, Int32.add_assoc]
theorem cst_sm : ∀ (t : List Nat) (i c : Nat), cst (wq mi er et wt) i t = some c → (∀ j, j < t.length → er (i + j) ≤ mi (tb6 t j)) ∧ nI c = sm (fun j => nI (wt (i + j) * (mi (tb6 t j) - et (i + j)))) t.length
  | [], i, c, h => by
    have : (0 : Nat) = c := Option.some.inj h
    subst this
    exact ⟨fun j hj => absurd hj (by show ¬ j < 0; omega), rfl⟩
  | z :: t, i, c, h => by
    have h : (match wq mi er et wt i z with
      | none => none
      | some a => match cst (wq mi er et wt) (i + 1) t with
        | none => none
        | some b => some (a + b)) = some c := h
    cases e2 : cst (wq mi er et wt) (i + 1) t with
    | none =>
      rw [e2] at h
      cases e1 : wq mi er et wt i z with
      | none => rw [e1] at h; exact nomatch h
      | some a => rw [e1] at h; exact nomatch h
    | some c2 =>
      rw [e2] at h
      obtain ⟨i1, i2⟩ := cst_sm t (i + 1) c2 e2
      unfold wq at h
      by_cases q : er i ≤ mi z
      · rw [if_pos q] at h
        have e : wt i * (mi z - et i) + c2 = c := Option.some.inj h
        refine ⟨fun j hj => ?_, ?_⟩
        · cases j with
          | zero => exact q
          | succ j =>
            have := i1 j (by have : (z :: t).length = t.length + 1 := rfl; omega)
            rw [show i + (j + 1) = i + 1 + j by omega]
            exact this
        · show _ = sm _ (t.length + 1)
          rw [sm_front, ← e, ← nI_add, i2]
          congr 1
          exact sm_congr (fun j _ => by
            show nI (wt (i + 1 + j) * (mi (tb6 t j) - et (i + 1 + j))) = nI (wt (i + (j + 1)) * (mi (tb6 t j) - et (i + (j + 1))))
            rw [show i + (j + 1) = i + 1 + j by omega])
      · rw [if_neg q] at h; exact nomatch h
theorem cst_ne : ∀ (t : List Nat) (i : Nat), (∀ j, j < t.length → er (i + j) ≤ mi (tb6 t j)) → cst (wq mi er et wt) i t ≠ none
  | [], i, _ => fun h => nomatch h
  | z :: t, i, h => by
    have h0 := h 0 (by show 0 < t.length + 1; omega)
    have ih := cst_ne t (i + 1) (fun j hj => by
      have := h (j + 1) (by show j + 1 < t.length + 1; omega)
      rw [show i + (j + 1) = i + 1 + j by omega] at this
      exact this)
    show (match wq mi er et wt i z with
      | none => none
      | some a => match cst (wq mi er et wt) (i + 1) t with
        | none => none
        | some b => some (a + b)) ≠ none
    have hw : wq mi er et wt i z = some (wt i * (mi z - et i)) := if_pos h0
    rw [hw]
    show (match cst (wq mi er et wt) (i + 1) t with
      | none => none
      | some b => some (wt i * (mi z - et i) + b)) ≠ none
    cases e2 : cst (wq mi er et wt) (i + 1) t with
    | none => exact absurd e2 ih
    | some c => exact Option.some_ne_none _
theorem nd_inj : ∀ (l : List Nat), l.Nodup → ∀ i j, i < j → j < l.length → tb6 l i ≠ tb6 l j
  | [], _, i, j, _, hj => absurd hj (by show ¬ j < 0; omega)
  | z :: t, hn, i, j, hij, hj => by
    obtain ⟨n1, n2⟩ := List.nodup_cons.mp hn
    have hj' : j < t.length + 1 := hj
    obtain ⟨j, rfl⟩ : ∃ q, j = q + 1 := ⟨j - 1, by omega⟩
    cases i with
    | zero =>
      intro e
      have e : z = tb6 t j := e
      refine n1 ?_
      rw [e]
      unfold tb6
      rw [List.getD_eq_getElem?_getD, List.getElem?_eq_getElem (by omega)]
      exact List.getElem_mem _
    | succ i => exact nd_inj t n2 i j (by omega) (by omega)
theorem tb_mem {t : List Nat} {i : Nat} (h : i < t.length) : tb6 t i ∈ t := by
  unfold tb6
  rw [List.getD_eq_getElem?_getD, List.getElem?_eq_getElem h]
  exact List.getElem_mem _
/-- a flight on the ground may have its own slot -/
theorem gnd_e (j : J n s) (hf : f < n) (hg : Gnd s f) : ∃ e, earS s f = nI e ∧ e < 2000 ∧ etN s f ≤ e ∧ e ≤ slN s f := by
  obtain ⟨b, c, t, m, hh, k, e1, e2, e3, e4, e5, e6, hm, em, or, hb, hc, ht⟩ := j.2.2.2.1 f hf hg.1
  have eg : goS s f = nI (b + hh) - nI c := by
    show s (8 * f + 1) - s (8 * f + 2) + s (8 * f + 5) = _
    rw [e1, e2, e5, ← nI_add]
    rw [Int32.sub_eq_add_neg, Int32.sub_eq_add_neg, Int32.add_assoc, Int32.add_comm (-nI c), ← Int32.add_assoc]
  have ga := hg.2
  have ti : (nI (b + hh) - nI c).toInt = ((b + hh : Nat) : Int) - (c : Int) := pk_sub_toInt (by omega) (by omega)
  rw [eg, e3, Int32.le_iff_toInt_le, ti, nI_toInt (by omega)] at ga
  refine ⟨max b (t + c), ?_, by omega, ?_, ?_⟩
  · unfold earS
    rw [e1, e2, e3, nI_add, mx_nI (by omega) (by omega)]
  · unfold etN; rw [e1, nI_clamp (by omega)]; omega
  · unfold slN; rw [e4, nI_clamp (by omega)]; omega
end OD
