/-! best order, order -/
section O2
variable {n v K k f : Nat} {fo ro ra vc os li mo se : Mem} {x y l : Int32} {s : Nat → Int32} {tr mi er et wt b : Nat → Nat}
theorem hs_l (hK : K ≤ 6) (h1 : 1 ≤ K) : ∀ (r i N : Nat) (mo : Mem), i + r = K → r < N → mo 20 0 = nI K → (∀ j, j < i → mo 18 j = nI j) → ∃ mo', Mo_orders_b7 l N mo (nI i) = Mo_orders_b43 l fl mo' (-1) 1 ∧ (∀ j, j < K → mo' 18 j = nI j) ∧ ∀ j, j ≠ 18 → mo' j = mo j
  | 0, i, N + 1, mo, hi, _, hm, h => by
    have e : i = K := by omega
    subst e
    refine ⟨mo, ?_, h, fun _ _ => rfl⟩
    show Mo_orders_b7B l (Mo_orders_b7 l N) mo (nI i) = _
    unfold Mo_orders_b7B
    rw [hm, if_pos (nI_le (Nat.le_refl _) (by omega)), if_neg (show ¬ nI i ≤ 0 from nI_ge (a := 0) (by omega) (by omega))]
  | r + 1, i, N + 1, mo, hi, hN, hm, h => by
    obtain ⟨mo', a1, a2, a3⟩ := hs_l hK h1 r (i + 1) N (upm mo 18 i (nI i)) (by omega) (by omega) (by rw [upm_n _ _ _ (by omega)]; exact hm) (fun j hj => by
      rw [upm_0]
      by_cases e : j = i
      · subst e; rw [pk_us]
      · rw [pk_un e]; exact h j (by omega))
    refine ⟨mo', ?_, a2, fun j hj => by rw [a3 j hj, upm_n _ _ _ hj]⟩
    show Mo_orders_b7B l (Mo_orders_b7 l N) mo (nI i) = _
    unfold Mo_orders_b7B
    rw [hm, if_neg (nI_ge (by omega) (by omega)), ckI_nI _ (by omega) (by omega), nI_clamp (by omega), stk_r, stk_r, nI_1]
    exact a1
theorem gv_l (hK : K ≤ 6) (hx : ¬ x = -1) (hm : mo 20 0 = nI K) (h16 : ∀ i, i < K → mo 16 i = nI (tr i) ∧ tr i < 20) (h19 : ∀ i, i < K → mo 19 i = nI (b i)) : ∀ (r k N : Nat), k + r = K → r < N → Mo_orders_b121 l N (upA mo 0 (gS s tr b k)) x (nI k) = some (upA mo 0 (gS s tr b K))
  | 0, k, N + 1, hk, _ => by
    have e : k = K := by omega
    subst e
    show Mo_orders_b121B l (Mo_orders_b121 l N) _ x (nI k) = _
    unfold Mo_orders_b121B
    rw [upA_n _ _ (show (20 : Nat) ≠ 0 by omega), hm, if_pos (nI_le (Nat.le_refl _) (by omega))]
  | r + 1, k, N + 1, hk, hN => by
    obtain ⟨e16, t20⟩ := h16 k (by omega)
    show Mo_orders_b121B l (Mo_orders_b121 l N) _ x (nI k) = _
    unfold Mo_orders_b121B
    rw [upA_n _ _ (show (20 : Nat) ≠ 0 by omega), hm, if_neg (nI_ge (by omega) (by omega)), if_neg hx, ckI_nI _ (by omega) (by omega), nI_clamp (by omega), upA_n _ _ (show (16 : Nat) ≠ 0 by omega), upA_n _ _ (show (19 : Nat) ≠ 0 by omega), e16, h19 k (by omega), Mo_gives_s t20, bn1_r, upA_0, upA_A, stk_r, nI_1]
    exact gv_l hK hx hm h16 h19 r (k + 1) N (by omega) (by omega)
theorem ord_s (h : RF n v fo ro ra vc os li (mo 0)) : ∃ K tr b c mo1 se', Se_solve se fo ro l = some se' ∧ Mo_orders mo l = some (upA mo1 0 (gS (mo 0) tr b K)) ∧ OB n (mo 0) l K tr b ∧ KP mo mo1 ∧ mo1 1 = mo 1 ∧ se' 2 0 = nI K ∧ (∀ i, i < K → se' 0 i = nI (tr i) ∧ se' 1 i = nI (b i)) ∧ se' 6 0 = sm (fun i => coS (mo 0) (tr i)) K ∧ se' 7 0 = nI c ∧ nI c = sm (fun i => mo 0 (8 * tr i + 3) * (nI (b i) - mo 0 (8 * tr i + 1))) K := by
  have hn := h.f.n20
  have j := h.j
  have hR := h.f
  obtain ⟨K, tr, mi, mo1, t1, t2, t3, t4⟩ := trd_l (mo0 := mo) (l := l) hR j n 0 fl 0 (fun _ => 0) (fun _ => 0) (upm mo 20 0 0) (by omega) (by rw [fl_v]; omega) ⟨by omega, fun i hi => by omega, fun i jj _ hj => by omega, fun i jj _ hj => by omega, fun i hi => by omega, fun i hi => by omega⟩ ⟨by rw [upm_0, pk_us]; rfl, fun i hi => by omega, fun i hi => by omega, upm_n _ _ _ (by omega), KP.um (by omega), upm_n _ _ _ (by omega)⟩
  obtain ⟨se1, c1, c2⟩ := t4 fl (upm (upm (upm (upm se 2 0 0) 5 0 0) 6 0 0) 7 0 2147483647) (by rw [fl_v]; omega) ⟨by rw [upm_n _ _ _ (by omega), upm_n _ _ _ (by omega), upm_n _ _ _ (by omega), upm_0, pk_us]; rfl, fun i hi => by omega, fun i hi => by omega, by rw [upm_n _ _ _ (by omega), upm_0, pk_us]; rfl, by rw [upm_n _ _ _ (by omega), upm_n _ _ _ (by omega), upm_0, pk_us], by rw [upm_0, pk_us]⟩
  have k6 := t2.1
  have mb := t2.mb j
  have td : ∀ i, i < K → ∃ e d, tr i < n ∧ Gnd (mo 0) (tr i) ∧ earS (mo 0) (tr i) = nI e ∧ e < 2000 ∧ etN (mo 0) (tr i) ≤ e ∧ e ≤ slN (mo 0) (tr i) ∧ mo 0 (8 * tr i + 3) = nI d ∧ d ≤ 9 ∧ (earS (mo 0) (tr i)).toNatClampNeg = e ∧ (mo 0 (8 * tr i + 3)).toNatClampNeg = d := fun i hi => by
    obtain ⟨-, q2, q3, q4⟩ := t2.2.1 i hi
    obtain ⟨e, e1, e2, e3, e4⟩ := gnd_e j q2 q4
    obtain ⟨-, -, -, d, -, -, -, -, -, -, g1, g2, g3⟩ := j.2.1 (tr i) q2
    exact ⟨e, d, q2, q4, e1, e2, e3, e4, g1, g3, by rw [e1, nI_clamp (by omega)], by rw [g1, nI_clamp (by omega)]⟩
  obtain ⟨er, her⟩ : ∃ er : Nat → Nat, er = fun i => (earS (mo 0) (tr i)).toNatClampNeg := ⟨_, rfl⟩
  obtain ⟨wt, hwt⟩ : ∃ wt : Nat → Nat, wt = fun i => (mo 0 (8 * tr i + 3)).toNatClampNeg := ⟨_, rfl⟩
  obtain ⟨et, het⟩ : ∃ et : Nat → Nat, et = fun i => etN (mo 0) (tr i) := ⟨_, rfl⟩
  have tv : ∀ i, i < K → tr i < n ∧ Gnd (mo 0) (tr i) ∧ earS (mo 0) (tr i) = nI (er i) ∧ er i < 2000 ∧ et i ≤ er i ∧ er i ≤ slN (mo 0) (tr i) ∧ mo 0 (8 * tr i + 3) = nI (wt i) ∧ wt i ≤ 9 ∧ mo 0 (8 * tr i + 1) = nI (et i) ∧ et i < 720 := fun i hi => by
    obtain ⟨e, d, q1, q2, q3, q4, q5, q6, q7, q8, q9, q10⟩ := td i hi
    have ee : er i = e := by rw [her]; exact q9
    have ww : wt i = d := by rw [hwt]; exact q10
    have tt : et i = etN (mo 0) (tr i) := by rw [het]
    obtain ⟨v1, v2⟩ := et_v j.2.1 q1
    rw [ee, ww, tt]
    exact ⟨q1, q2, q3, q4, q5, q6, q7, q8, v1, v2⟩
  obtain ⟨se', l1, l2, -, -, l5, l6⟩ := lay_s (K := K) (fo := fo) (ro := ro) (tr := tr) (mi := mi) (er := er) (et := et) (wt := wt) k6 mb (fun i hi => (tv i hi).2.2.2.2.2.2.2.1) (fun i hi => by rw [Fi_earliest_s hR (tv i hi).1, (tv i hi).2.2.1]) (fun i hi => (tv i hi).2.2.2.1) (fun i z hi hz hz2 => by
      obtain ⟨q1, q2, q3, q4, q5, q6, q7, q8, q9, q10⟩ := tv i hi
      unfold Fi_costOnGround
      rw [ckI_nI _ (by omega) (by omega), nI_clamp (by omega), hR.wt q1, hR.et q1, q7, q9, pk_sub (by omega), pk_mul]) K 0 8 [] (fun _ => false) 0 se1 none (by omega) (by omega) rfl rfl (by omega) ⟨c2.1, c2.2.1, c2.2.2.1⟩ (fun i hi => by omega) (by rw [c2.2.2.2.2.1, msk_0 (fun _ _ => rfl)]; rfl) (Or.inl ⟨rfl, c2.2.2.2.2.2⟩)
  have mid : (prm K K (fun _ => false)).map (([] : List Nat) ++ ·) = pK K := by
    show (prm K K (fun _ => false)).map (fun t => [] ++ t) = _
    simp [pK]
  rw [mid] at l6
  -- there is a row
  have ix : ∀ i, ∃ z, i < K → z < K ∧ mi z = slN (mo 0) (tr i) := fun i => by
    by_cases hi : i < K
    · obtain ⟨z, z1, z2⟩ := t2.2.2.2.2.2 i hi
      exact ⟨z, fun _ => ⟨z1, z2⟩⟩
    · exact ⟨0, fun z => absurd z hi⟩
  obtain ⟨fx, hfx⟩ := Classical.axiomOfChoice ix
  have sj : ∀ i z, i < K → z < K → slN (mo 0) (tr i) = slN (mo 0) (tr z) → i = z := fun i z hi hz e => by
    obtain ⟨a1, a2, -⟩ := tv i hi
    obtain ⟨b1, b2, -⟩ := tv z hz
    have := j.2.2.2.2.1 (tr i) (tr z) a1 b1 a2.1 b2.1 (by rw [(sl_v j a1 a2.1).1, (sl_v j b1 b2.1).1, e])
    by_cases q : i < z
    · have := t2.2.2.1 i z q hz; omega
    · by_cases q2 : z < i
      · have := t2.2.2.1 z i q2 hi; omega
      · omega
  have row : (List.range K).map fx ∈ pK K := by
    refine prm_in (by simp) (fun z hz => ?_) ?_
    · obtain ⟨i, i1, rfl⟩ := List.mem_map.mp hz
      exact ⟨(hfx i (by simpa using i1)).1, rfl⟩
    · refine List.pairwise_map.mpr (List.Pairwise.imp_of_mem (fun {a c} ha hc hac e => hac ?_) List.nodup_range)
      have ha' : a < K := by simpa using ha
      have hc' : c < K := by simpa using hc
      exact sj a c ha' hc' (by rw [← (hfx a ha').2, ← (hfx c hc').2, e])
  have nn := fold_some (w := wq mi er et wt) (ps := pK K) (st := none) (Or.inr ⟨_, row, cst_ne _ 0 (fun i hi => by
    have hi' : i < K := by simpa using hi
    rw [Nat.zero_add, tb_map hi', (hfx i hi').2]
    exact (tv i hi').2.2.2.2.2.1)⟩)
  obtain ⟨⟨c, q⟩, hcq⟩ : ∃ z, (pK K).foldl (stp (wq mi er et wt)) none = some z := by
    cases e : (pK K).foldl (stp (wq mi er et wt)) none with
    | none => exact absurd e nn
    | some z => exact ⟨z, rfl⟩
  obtain ⟨qm, qc⟩ : q ∈ pK K ∧ cst (wq mi er et wt) 0 q = some c := by
    rcases fold_from hcq with e | e
    · exact nomatch e
    · exact e
  obtain ⟨ql, qy, qn⟩ := prm_of (show q ∈ prm K K (fun _ => false) from qm)
  obtain ⟨ok, cs⟩ := cst_sm q 0 c qc
  have qK : ∀ i, i < K → tb6 q i < K := fun i hi => (qy _ (tb_mem (by omega))).1
  have ob : OB n (mo 0) l K tr (fun i => mi (tb6 q i)) := by
    refine ⟨k6, fun i hi => (t2.2.1 i hi).2, t2.2.2.1, fun i hi => t2.2.2.2.2.1 _ (qK i hi), fun i z hi hz e => ?_, fun i hi => ?_⟩
    · have e : mi (tb6 q i) = mi (tb6 q z) := e
      have inj : tb6 q i = tb6 q z := by
        by_cases p1 : tb6 q i < tb6 q z
        · have := t2.2.2.2.1 _ _ p1 (qK z hz); omega
        · by_cases p2 : tb6 q z < tb6 q i
          · have := t2.2.2.2.1 _ _ p2 (qK i hi); omega
          · omega
      by_cases p1 : i < z
      · exact absurd inj (nd_inj q qn i z p1 (by omega))
      · by_cases p2 : z < i
        · exact absurd inj.symm (nd_inj q qn z i p2 (by omega))
        · omega
    · have o := ok i (by omega)
      rw [Nat.zero_add] at o
      have e1 := (tv i hi).2.2.2.2.1
      have : et i = etN (mo 0) (tr i) := by rw [het]
      show etN (mo 0) (tr i) ≤ mi (tb6 q i)
      omega
  have cE : nI c = sm (fun i => mo 0 (8 * tr i + 3) * (nI (mi (tb6 q i)) - mo 0 (8 * tr i + 1))) K := by
    rw [cs, ql]
    refine sm_congr (fun i hi => ?_)
    obtain ⟨q1, q2, q3, q4, q5, q6, q7, q8, q9, q10⟩ := tv i hi
    have o := ok i (by omega)
    rw [Nat.zero_add] at o ⊢
    rw [q7, q9, pk_sub (by omega), pk_mul]
  obtain ⟨m1, m2, m3, m4, m5, m7⟩ := t3
  -- the reference
  have mo2 : ∃ mo2, Mo_orders mo l = some (upA mo2 0 (gS (mo 0) tr (fun i => mi (tb6 q i)) K)) ∧ KP mo mo2 ∧ mo2 1 = mo 1 := by
    unfold Mo_orders Mo_laysTraders
    have t1' : Mo_laysTraders_b7 l fl (upm mo 20 0 0) 0 = some mo1 := t1
    rw [stk_r, t1', bn1_r]
    by_cases K0 : K = 0
    · subst K0
      refine ⟨mo1, ?_, m5, m7⟩
      have e : upA mo1 0 (gS (mo 0) tr (fun i => mi (tb6 q i)) 0) = mo1 := by
        show upA mo1 0 (mo 0) = mo1
        rw [← m4, upA_id]
      rw [e]
      show Mo_orders_b7B l (Mo_orders_b7 l (fl - 1)) mo1 0 = _
      unfold Mo_orders_b7B
      rw [m1, if_pos (show nI 0 ≤ 0 by decide), if_pos (show nI 0 ≤ 0 by decide)]
      show Mo_orders_b43B l (Mo_orders_b43 l (fl - 1)) mo1 (-1) 0 = _
      unfold Mo_orders_b43B
      rw [if_pos rfl]
      show Mo_orders_b121B l (Mo_orders_b121 l (fl - 1)) mo1 (-1) 0 = _
      unfold Mo_orders_b121B
      rw [m1, if_pos (show nI 0 ≤ 0 by decide)]
    · obtain ⟨ch1, ⟨r, ch2⟩, ch3⟩ := chk (K := K) (by omega) k6
      obtain ⟨moh, a1, a2, a3⟩ := hs_l (l := l) k6 (by omega) K 0 fl mo1 (by omega) (by rw [fl_v]; omega) m1 (fun i hi => by omega)
      have a1' : Mo_orders_b7 l fl mo1 0 = _ := a1
      have hd : MDw K n tr mi er et wt moh := by
        refine ⟨by rw [a3 20 (by omega)]; exact m1, fun i hi => ?_, fun i hi => ⟨by rw [a3 17 (by omega)]; exact m3 i hi, mb i hi⟩⟩
        obtain ⟨q1, q2, q3, q4, q5, q6, q7, q8, q9, q10⟩ := tv i hi
        rw [a3 16 (by omega), a3 0 (by omega), m4]
        exact ⟨m2 i hi, by omega, q3, q9, q7, q5, q4⟩
      obtain ⟨mor, x', b1, b2, b3, b4⟩ := rows_l (l := l) (n := n) (tr := tr) (mi := mi) (er := er) (et := et) (wt := wt) (by omega) k6 (fun i hi => (tv i hi).2.2.2.2.2.2.2.1) (pK K) fl moh (-1) none ch1 (by rw [fl_v]; omega) (fun p hp => by
        obtain ⟨z1, z2, -⟩ := prm_of (show p ∈ prm K K (fun _ => false) from hp)
        exact ⟨z1, fun z hz => (z2 z hz).1⟩) (fun p hp => by
        rw [ch2] at hp
        have : List.range K = p := Option.some.inj hp
        subst this
        intro i hi
        have e : tb6 (List.range K) i = i := by
          unfold tb6
          rw [List.getD_eq_getElem?_getD]
          simp [hi]
        rw [e]
        exact a2 i hi) hd (Or.inl ⟨rfl, rfl⟩)
      rw [hcq] at b3
      rcases b3 with ⟨z, -⟩ | ⟨c', q', z1, z2, z3, z4⟩
      · exact nomatch z
      · have e' := Option.some.inj z1
        have e1 : c = c' := congrArg Prod.fst e'
        have e2 : q = q' := congrArg Prod.snd e'
        subst e1; subst e2
        have r0 : mor 0 = mo 0 := by rw [b4 0 (by omega) (by omega), a3 0 (by omega)]; exact m4
        have g := gv_l (l := l) (mo := mor) (s := mo 0) (tr := tr) (b := fun i => mi (tb6 q i)) (x := x') k6 (fun e => by rw [z2, nI_eqm (by omega)] at e; exact e) b2.1 (fun i hi => ⟨(b2.2.1 i hi).1, (b2.2.1 i hi).2.1⟩) z4 K 0 fl (by omega) (by rw [fl_v]; omega)
        have g0 : upA mor 0 (gS (mo 0) tr (fun i => mi (tb6 q i)) 0) = mor := by
          show upA mor 0 (mo 0) = mor
          rw [← r0, upA_id]
        rw [g0] at g
        refine ⟨mor, ?_, ?_, ?_⟩
        · rw [a1', b1]; exact g
        · exact m5.tr ⟨by rw [b4 2 (by omega) (by omega), a3 2 (by omega)], by rw [b4 3 (by omega) (by omega), a3 3 (by omega)], by rw [b4 21 (by omega) (by omega), a3 21 (by omega)], fun i _ => by rw [b4 1 (by omega) (by omega), a3 1 (by omega)]⟩
        · rw [b4 1 (by omega) (by omega), a3 1 (by omega)]; exact m7
  obtain ⟨mo2, w1, w2, w3⟩ := mo2
  rw [hcq] at l6
  rcases l6 with ⟨z, -⟩ | ⟨c', q', z1, z2, z3, z4⟩
  · exact nomatch z
  · have e' := Option.some.inj z1
    have e1 : c = c' := congrArg Prod.fst e'
    have e2 : q = q' := congrArg Prod.snd e'
    subst e1; subst e2
    refine ⟨K, tr, fun i => mi (tb6 q i), c, mo2, se', ?_, w1, ob, w2, w3, l2.1, fun i hi => ⟨l2.2.1 i hi, z4 i hi⟩, by rw [l5]; exact c2.2.2.2.1, z2, cE⟩
    unfold Se_solve
    have c1' : Se_solve_b23 fo ro l fl (upm (upm (upm (upm se 2 0 0) 5 0 0) 6 0 0) 7 0 2147483647) 0 = _ := c1
    have l1' : Se_lay se1 fo ro 0 0 = some se' := l1
    rw [stk_r, stk_r, stk_r, stk_r, c1', l1', bn1_r]
/-! costs -/
theorem sm_sub {g h : Nat → Int32} : ∀ m, sm (fun i => g i - h i) m = sm g m - sm h m
  | 0 => by show (0 : Int32) = 0 - 0; decide
  | m + 1 => by
    show sm (fun i => g i - h i) m + (g m - h m) = sm g m + g m - (sm h m + h m)
    rw [sm_sub m]
    grind
theorem lc_gS (hn : n ≤ 20) (j : J n s) (ob : OB n s l K tr b) : ∀ k, k ≤ K → sm (fun f => if gS s tr b k (8 * f) = l then coS (gS s tr b k) f else 0) n = sm (fun f => if s (8 * f) = l then coS s f else 0) n + sm (fun i => s (8 * tr i + 3) * (nI (b i) - s (8 * tr i + 1)) - coS s (tr i)) k
  | 0, _ => (Int32.add_zero _).symm
  | k + 1, hk => by
    have ih := lc_gS hn j ob k (by omega)
    obtain ⟨o1, o2, o3, o4, o5, o6⟩ := ob
    obtain ⟨tn, tl, tg⟩ := o2 k (by omega)
    have un : ∀ w, w < 8 → gS s tr b k (8 * tr k + w) = s (8 * tr k + w) := fun w hw => gS_o (Or.inr (Or.inr (fun i hi => by have := o3 i k hi (by omega); omega)))
    have st : sm (fun f => if gS s tr b (k + 1) (8 * f) = l then coS (gS s tr b (k + 1)) f else 0) n = sm (fun f => if gS s tr b k (8 * f) = l then coS (gS s tr b k) f else 0) n + ((if gS s tr b (k + 1) (8 * tr k) = l then coS (gS s tr b (k + 1)) (tr k) else 0) - (if gS s tr b k (8 * tr k) = l then coS (gS s tr b k) (tr k) else 0)) := by
      refine sm_one (g := fun f => if gS s tr b (k + 1) (8 * f) = l then coS (gS s tr b (k + 1)) f else 0) (h := fun f => if gS s tr b k (8 * f) = l then coS (gS s tr b k) f else 0) (f := tr k) (fun f hf hfk => ?_) tn
      show (if gvS (gS s tr b k) (tr k) (nI (b k)) (8 * f) = l then coS (gvS (gS s tr b k) (tr k) (nI (b k))) f else 0) = _
      unfold coS Pd
      rw [gv_un (by omega), gv_un (by omega), gv_un (by omega), gv_un (by omega), gv_un (by omega), gv_un (by omega)]
    have bb : b k < 2 ^ 31 ∨ True := Or.inr trivial
    have e1 : gS s tr b (k + 1) (8 * tr k) = l := by rw [gS_o (by omega)]; exact tl
    have e2 : gS s tr b k (8 * tr k) = l := by rw [gS_o (by omega)]; exact tl
    have e3 : coS (gS s tr b k) (tr k) = coS s (tr k) := by
      unfold coS Pd
      rw [un 4 (by omega), un 7 (by omega), un 3 (by omega), un 5 (by omega), un 6 (by omega)]
    have e4 : 0 ≤ nI (b k) → coS (gS s tr b (k + 1)) (tr k) = s (8 * tr k + 3) * (nI (b k) - s (8 * tr k + 1)) := fun h0 => by
      obtain ⟨z1, z2, z3⟩ := gS_t (s := s) (b := b) o3 hk (show k < k + 1 by omega)
      have p : Pd (gS s tr b (k + 1)) (tr k) := ⟨by rw [z1]; exact h0, by rw [gS_o (by omega)]; exact tg.1.2⟩
      unfold coS
      rw [if_pos p, z2, z3, gS_o (by omega), show (3 : Int32) * 0 = 0 from rfl, Int32.add_zero]
    have h0 : 0 ≤ nI (b k) := by
      obtain ⟨jj, j1, j2⟩ := o4 k (by omega)
      rw [j2]
      exact nI_pos' (by have := (sl_v j (o2 jj j1).1 (o2 jj j1).2.2.1).2; omega)
    rw [st, ih, if_pos e1, if_pos e2, e3, e4 h0]
    show _ = _ + (sm (fun i => s (8 * tr i + 3) * (nI (b i) - s (8 * tr i + 1)) - coS s (tr i)) k + (s (8 * tr k + 3) * (nI (b k) - s (8 * tr k + 1)) - coS s (tr k)))
    rw [Int32.add_assoc]
end O2
