/-! bestDeal, round -/
section RD
variable {n v : Nat} {fo ro ra vc os li mo mo0 : Mem} {x y z : Int32} {s s' : Nat → Int32}
def RB (n v : Nat) (fo ro ra vc os li mo0 : Mem) (a : Option Int32) (b : Option (Int32 × Mem)) : Prop := ∃ q mo', a = some q ∧ b = some (q, mo') ∧ RF n v fo ro ra vc os li (mo' 0) ∧ KP mo0 mo'
theorem bestDeal_in {p : Int32} {k22 : Int32 → Int32 → Int32 → Int32 → Option Int32} {k22' : Mem → Int32 → Int32 → Int32 → Int32 → Option (Int32 × Mem)} {i : Nat} (hi : i < 8) (K : ∀ mo' a b c, RF n v fo ro ra vc os li (mo' 0) → KP mo0 mo' → RB n v fo ro ra vc os li mo0 (k22 a b c (nI (i + 1))) (k22' mo' a b c (nI (i + 1)))) : ∀ (r j N N' : Nat) (mo : Mem) (a b c : Int32), j + r = 8 → r < N → r < N' → RF n v fo ro ra vc os li (mo 0) → KP mo0 mo → RB n v fo ro ra vc os li mo0 (St_bestDeal_b35 fo ro os p k22 N a b c (nI i) (nI j)) (Mo_bestDeal_b35 p k22' N' mo a b c (nI i) (nI j))
  | 0, j, N + 1, N' + 1, mo, a, b, c, hj, _, _, h, kp => by
    have e : j = 8 := by omega
    subst e
    show RB n v fo ro ra vc os li mo0 (St_bestDeal_b35B fo ro os p k22 (St_bestDeal_b35 fo ro os p k22 N) a b c (nI i) (nI 8)) (Mo_bestDeal_b35B p k22' (Mo_bestDeal_b35 p k22' N') mo a b c (nI i) (nI 8))
    unfold St_bestDeal_b35B Mo_bestDeal_b35B
    rw [if_pos (by decide), if_pos (by decide), stk_r, stk_r, nI_1]
    exact K mo a b c h kp
  | r + 1, j, N + 1, N' + 1, mo, a, b, c, hj, hN, hN', h, kp => by
    have hn := h.1.n20
    have jo := h.2.2.2.2.2.2.2.2.2.2.2.2.2.1
    have j8 : j < 8 := by omega
    show RB n v fo ro ra vc os li mo0 (St_bestDeal_b35B fo ro os p k22 (St_bestDeal_b35 fo ro os p k22 N) a b c (nI i) (nI j)) (Mo_bestDeal_b35B p k22' (Mo_bestDeal_b35 p k22' N') mo a b c (nI i) (nI j))
    unfold St_bestDeal_b35B Mo_bestDeal_b35B
    rw [if_neg (show ¬ 8 ≤ nI j from nI_ge (b := 8) j8 (by omega)), if_neg (show ¬ 8 ≤ nI j from nI_ge (b := 8) j8 (by omega)), Fi_canDeal_x h, Mo_canDeal_x hn jo, bn1_r, bn1_r, bI_z, bI_z]
    by_cases hd : DCp (mo 0) (nI i) (nI j)
    · rw [if_pos hd, if_pos hd, Mo_lays_8, bn1_r]
      have ei : upA (upA mo 1 (layF (mo 1) (mo 0) 8)) 0 (mo 0) = upA mo 1 (layF (mo 1) (mo 0) 8) := by
        have := upA_id (upA mo 1 (layF (mo 1) (mo 0) 8)) 0
        rw [upA_n _ _ (show (0 : Nat) ≠ 1 by omega)] at this
        exact this
      obtain ⟨fo1, fo2, p1, p2, p3, p4, p5⟩ := deals_s (mo0 := upA mo 1 (layF (mo 1) (mo 0) 8)) h hd hi j8
      rw [ei] at p5
      obtain ⟨m', w1, w2, w3, -⟩ := lay_tak (mo := mo) (s := mo 0) (m := upA (upA mo 1 (layF (mo 1) (mo 0) 8)) 0 (dlS (mo 0) i j)) (by rw [upA_n _ _ (show (1 : Nat) ≠ 0 by omega), upA_0])
      have kp' : KP mo0 m' := kp.tr ((KP.lay.tr (KP.up (by omega))).tr w3)
      rw [p4, bn1_r, p5, bn2_r, w1, bn1_r]
      simp only [stk_r, nI_1]
      have go := fun a' b' c' => bestDeal_in (p := p) hi K r (j + 1) N N' m' a' b' c' (by omega) (by omega) (by omega) (h.cg w2) kp'
      by_cases q1 : a = -1
      · rw [if_pos q1, if_pos q1]; exact go _ _ _
      · rw [if_neg q1, if_neg q1]
        by_cases q2 : tgS (mo 0) i j + tgS (mo 0) j i ≤ c
        · rw [if_pos q2, if_neg (Int32.not_lt.mpr q2)]; exact go _ _ _
        · rw [if_neg q2, if_pos (Int32.not_le.mp q2)]; exact go _ _ _
    · rw [if_neg hd, if_neg hd]
      simp only [stk_r, nI_1]
      exact bestDeal_in hi K r (j + 1) N N' mo a b c (by omega) (by omega) (by omega) h kp
theorem bestDeal_out {p : Nat} (hp : p < 3) : ∀ (r i N N' : Nat) (mo : Mem) (a b c : Int32), i + r = 8 → r < N → r < N' → RF n v fo ro ra vc os li (mo 0) → KP mo0 mo → RB n v fo ro ra vc os li mo0 (St_bestDeal_b22 fo ro os (nI p) N a b c (nI i)) (Mo_bestDeal_b22 (nI p) N' mo a b c (nI i))
  | 0, i, N + 1, N' + 1, mo, a, b, c, hi, _, _, h, kp => by
    have e : i = 8 := by omega
    subst e
    show RB n v fo ro ra vc os li mo0 (St_bestDeal_b22B fo ro os (nI p) (St_bestDeal_b22 fo ro os (nI p) N) a b c (nI 8)) (Mo_bestDeal_b22B (nI p) (Mo_bestDeal_b22 (nI p) N') mo a b c (nI 8))
    unfold St_bestDeal_b22B Mo_bestDeal_b22B
    have e8 : (8 : Int32) ≤ nI 8 := by decide
    rw [if_pos e8, if_pos e8]
    have ex : ∀ q : Int32, RB n v fo ro ra vc os li mo0 (some q) (some (q, mo)) := fun q => ⟨q, mo, rfl, rfl, h, kp⟩
    by_cases q1 : a = -1
    · rw [if_pos q1, if_pos q1]; exact ex _
    · rw [if_neg q1, if_neg q1]
      rcases (show p = 0 ∨ p = 1 ∨ p = 2 by omega) with rfl | rfl | rfl
      · rw [if_neg (show ¬ nI 0 = 2 by decide), if_pos (show nI 0 = 0 from rfl), if_pos (show nI 0 = 0 from rfl)]; exact ex _
      · rw [if_neg (show ¬ nI 1 = 2 by decide), if_neg (show ¬ nI 1 = 0 by decide), if_neg (show ¬ nI 1 = 0 by decide), if_pos (show nI 1 = 1 from rfl)]; exact ex _
      · rw [if_pos (show nI 2 = 2 from rfl), if_neg (show ¬ nI 2 = 0 by decide), if_neg (show ¬ nI 2 = 1 by decide)]; exact ex _
  | r + 1, i, N + 1, N' + 1, mo, a, b, c, hi, hN, hN', h, kp => by
    have i8 : i < 8 := by omega
    show RB n v fo ro ra vc os li mo0 (St_bestDeal_b22B fo ro os (nI p) (St_bestDeal_b22 fo ro os (nI p) N) a b c (nI i)) (Mo_bestDeal_b22B (nI p) (Mo_bestDeal_b22 (nI p) N') mo a b c (nI i))
    unfold St_bestDeal_b22B Mo_bestDeal_b22B
    rw [if_neg (show ¬ 8 ≤ nI i from nI_ge (b := 8) i8 (by omega)), if_neg (show ¬ 8 ≤ nI i from nI_ge (b := 8) i8 (by omega)), stk_r, stk_r, nI_1]
    exact bestDeal_in i8 (fun mo' a' b' c' h' kp' => bestDeal_out hp r (i + 1) N N' mo' a' b' c' (by omega) (by omega) (by omega) h' kp') (7 - i) (i + 1) fl fl mo a b c (by omega) (by rw [fl_v]; omega) (by rw [fl_v]; omega) h kp
theorem q_bestDeal (h : RF n v fo ro ra vc os li (mo 0)) : ∃ r mo', St_bestDeal fo ro os x = some r ∧ Mo_bestDeal mo x = some (r, mo') ∧ RF n v fo ro ra vc os li (mo' 0) ∧ KP mo mo' := by
  unfold St_bestDeal Mo_bestDeal
  rw [show (2 : Int32) = nI 2 from rfl, Mo_in0 2 (by omega), bn1_r, bI_z]
  by_cases hx : in0 x 3
  · have hx' := (in0_le (x := x) (k := 2) (by omega)).mpr hx
    rw [if_pos hx, if_neg hx.1, if_pos (Int32.not_lt.mp hx'.2)]
    obtain ⟨p, hp, rfl⟩ := in0_of hx (by omega)
    exact bestDeal_out hp 8 0 fl fl mo (-1) (-1) 0 (by omega) (by rw [fl_v]; omega) (by rw [fl_v]; omega) h KP.rf
  · rw [if_neg hx]
    refine ⟨-1000000, mo, ?_, rfl, h, KP.rf⟩
    by_cases h1 : x < 0
    · rw [if_pos h1]
    · rw [if_neg h1, if_neg (fun q => hx ((in0_le (k := 2) (by omega)).mp ⟨h1, Int32.not_lt.mpr q⟩))]
/-! round -/
abbrev RCp (s : Nat → Int32) (x y z : Int32) : Prop := ULp s x y ∧ ULp s y z ∧ ULp s x z ∧ CTp s x.toNatClampNeg y.toNatClampNeg ∧ CTp s y.toNatClampNeg z.toNatClampNeg ∧ CTp s z.toNatClampNeg x.toNatClampNeg
theorem RCp_n {i j k : Nat} (hi : i < 8) (hj : j < 8) (hk : k < 8) : RCp s (nI i) (nI j) (nI k) ↔ (ULp s (nI i) (nI j) ∧ ULp s (nI j) (nI k) ∧ ULp s (nI i) (nI k) ∧ CTp s i j ∧ CTp s j k ∧ CTp s k i) := by
  have ci : (nI i).toNatClampNeg = i := nI_clamp (by omega)
  have cj : (nI j).toNatClampNeg = j := nI_clamp (by omega)
  have ck : (nI k).toNatClampNeg = k := nI_clamp (by omega)
  show (ULp s (nI i) (nI j) ∧ ULp s (nI j) (nI k) ∧ ULp s (nI i) (nI k) ∧ CTp s (nI i).toNatClampNeg (nI j).toNatClampNeg ∧ CTp s (nI j).toNatClampNeg (nI k).toNatClampNeg ∧ CTp s (nI k).toNatClampNeg (nI i).toNatClampNeg) ↔ _
  constructor
  · intro z
    have a := z.2.2.2.1
    have b := z.2.2.2.2.1
    have c := z.2.2.2.2.2
    rw [ci] at a c
    rw [cj] at a b
    rw [ck] at b c
    exact ⟨z.1, z.2.1, z.2.2.1, a, b, c⟩
  · intro z
    refine ⟨z.1, z.2.1, z.2.2.1, ?_, ?_, ?_⟩
    · rw [ci, cj]; exact z.2.2.2.1
    · rw [cj, ck]; exact z.2.2.2.2.1
    · rw [ck, ci]; exact z.2.2.2.2.2
theorem ULp_n {i j : Nat} (hi : i < 8) (hj : j < 8) : ULp s (nI i) (nI j) ↔ (made s i = true ∧ made s j = true ∧ ¬ s (8 * dnN s i) = s (8 * dnN s j)) := by
  have ci : (nI i).toNatClampNeg = i := nI_clamp (by omega)
  have cj : (nI j).toNatClampNeg = j := nI_clamp (by omega)
  show ((in0 (nI i) 8 ∧ made s (nI i).toNatClampNeg = true) ∧ (in0 (nI j) 8 ∧ made s (nI j).toNatClampNeg = true) ∧ ¬ s (8 * dnN s (nI i).toNatClampNeg) = s (8 * dnN s (nI j).toNatClampNeg)) ↔ _
  rw [ci, cj]
  exact ⟨fun z => ⟨z.1.2, z.2.1.2, z.2.2⟩, fun z => ⟨⟨in0_nI hi (by omega), z.1⟩, ⟨in0_nI hj (by omega), z.2.1⟩, z.2.2⟩⟩
theorem Fi_canRound_x (h : RF n v fo ro ra vc os li s) : Fi_canRound fo ro os x y z = some (bI (RCp s x y z)) := by
  unfold Fi_canRound
  rw [Fi_haveUnlikeLines_x h, Fi_haveUnlikeLines_x h, Fi_haveUnlikeLines_x h, bn1_r, bI_z]
  by_cases u1 : ULp s x y
  · rw [if_pos u1, bn1_r, bI_z]
    by_cases u2 : ULp s y z
    · rw [if_pos u2, bn1_r, bI_z]
      by_cases u3 : ULp s x z
      · rw [if_pos u3]
        obtain ⟨i, hi, rfl⟩ := in0_of u1.1.1 (by omega)
        obtain ⟨j, hj, rfl⟩ := in0_of u1.2.1.1 (by omega)
        obtain ⟨k, hk, rfl⟩ := in0_of u2.2.1.1 (by omega)
        obtain ⟨mi, mj, -⟩ := (ULp_n hi hj).mp u1
        obtain ⟨-, mk, -⟩ := (ULp_n hj hk).mp u2
        rw [Fi_canTrade_s h hi hj mi mj, Fi_canTrade_s h hj hk mj mk, Fi_canTrade_s h hk hi mk mi, bI_iff (RCp_n hi hj hk)]
        simp only [bn1_r, bI_z]
        by_cases c1 : CTp s i j
        · rw [if_pos c1]
          by_cases c2 : CTp s j k
          · rw [if_pos c2]
            by_cases c3 : CTp s k i
            · rw [if_pos c3, bI_t ⟨u1, u2, u3, c1, c2, c3⟩]
            · rw [if_neg c3, bI_f (fun z => c3 z.2.2.2.2.2)]
          · rw [if_neg c2, bI_f (fun z => c2 z.2.2.2.2.1)]
        · rw [if_neg c1, bI_f (fun z => c1 z.2.2.2.1)]
      · rw [if_neg u3, bI_f (fun z => u3 z.2.2.1)]
    · rw [if_neg u2, bI_f (fun z => u2 z.2.1)]
  · rw [if_neg u1, bI_f (fun z => u1 z.1)]
def rdS (s : Nat → Int32) (i j k : Nat) : Nat → Int32 := swS (swS (swS s (upN s i) (dnN s j)) (upN s j) (dnN s k)) (upN s k) (dnN s i)
theorem SW1.tr {s2 : Nat → Int32} {f g f' g' : Nat} (h : SW1 s s' f g) (h' : SW1 s' s2 f' g') : (∀ k w, k < 20 → k ≠ f → k ≠ g → k ≠ f' → k ≠ g' → w < 8 → s2 (8 * k + w) = s (8 * k + w)) ∧ ∀ i, 160 ≤ i → i < 1452 → s2 i = s i :=
  ⟨fun k w h1 h2 h3 h4 h5 h6 => (h'.1 k w h1 h4 h5 h6).trans (h.1 k w h1 h2 h3 h6), fun i h1 h2 => (h'.2.2 i h1 h2).trans (h.2.2 i h1 h2)⟩
theorem rounds_s {i j k : Nat} (h : RF n v fo ro ra vc os li s) (hi : i < 8) (hj : j < 8) (hk : k < 8) (u1 : ULp s (nI i) (nI j)) (u2 : ULp s (nI j) (nI k)) (u3 : ULp s (nI i) (nI k)) (c1 : CTp s i j) (c2 : CTp s j k) (c3 : CTp s k i) : ∃ fo1 fo2 fo3, Fi_trade fo ro os (nI i) (nI j) = some fo1 ∧ Fi_trade fo1 ro os (nI j) (nI k) = some fo2 ∧ Fi_trade fo2 ro os (nI k) (nI i) = some fo3 ∧ RF n v fo3 ro ra vc os li (rdS s i j k) ∧ sm (coS s) n - sm (coS (rdS s i j k)) n = tgS s i j + tgS s j k + tgS s k i ∧ Mo_swaps (upA mo0 0 s) (nI (upN s i)) (nI (dnN s j)) = some (upA mo0 0 (swS s (upN s i) (dnN s j))) ∧ Mo_swaps (upA mo0 0 (swS s (upN s i) (dnN s j))) (nI (upN s j)) (nI (dnN s k)) = some (upA mo0 0 (swS (swS s (upN s i) (dnN s j)) (upN s j) (dnN s k))) ∧ Mo_swaps (upA mo0 0 (swS (swS s (upN s i) (dnN s j)) (upN s j) (dnN s k))) (nI (upN s k)) (nI (dnN s i)) = some (upA mo0 0 (rdS s i j k)) := by
  have hn := h.1.n20
  have jo := h.2.2.2.2.2.2.2.2.2.2.2.2.2.1
  obtain ⟨mi, mj, l1⟩ := (ULp_n hi hj).mp u1
  obtain ⟨-, mk, l2⟩ := (ULp_n hj hk).mp u2
  obtain ⟨-, -, l3⟩ := (ULp_n hi hk).mp u3
  obtain ⟨i1, i2, i3, i4, i5, i6⟩ := of_v hn jo hi mi
  obtain ⟨j1, j2, j3, j4, j5, j6⟩ := of_v hn jo hj mj
  obtain ⟨k1, k2, k3, k4, k5, k6⟩ := of_v hn jo hk mk
  obtain ⟨n1, n2, n3, n4, n5⟩ := deal_ne hn jo hi hj mi mj l1
  obtain ⟨m1, m2, m3, m4, m5⟩ := deal_ne hn jo hj hk mj mk l2
  obtain ⟨o1, o2, o3, o4, o5⟩ := deal_ne hn jo hi hk mi mk l3
  obtain ⟨fo1, p1, p2, p3⟩ := trade_s h hi hj mi mj c1 n1
  have sw := SW1.of (s := s) (f := upN s i) (g := dnN s j) (by omega) (by omega)
  obtain ⟨q1, q2⟩ := sw.ct hj hk (by omega) (by omega) (fun e => n2 e.symm) (fun e => j3 e.symm) (fun e => o1 e.symm) (fun e => m3 e.symm) c2
  obtain ⟨q3, q4⟩ := sw.ct hk hi (by omega) (by omega) (fun e => o2 e.symm) (fun e => m4 e.symm) n5 n3 c3
  obtain ⟨fo2, r1, r2, r3⟩ := trade_s p2 hj hk (by rw [sw.md hj]; exact mj) (by rw [sw.md hk]; exact mk) q1 (by rw [sw.up hj, sw.dn hk]; exact m1)
  rw [sw.up hj, sw.dn hk] at r2 r3
  rw [q2] at r3
  have sx := SW1.of (s := swS s (upN s i) (dnN s j)) (f := upN s j) (g := dnN s k) (by omega) (by omega)
  obtain ⟨q5, q6⟩ := sx.ct hk hi (by rw [sw.up hk]; omega) (by rw [sw.dn hi]; omega) (by rw [sw.up hk]; exact fun e => m2 e.symm) (by rw [sw.up hk]; exact fun e => k3 e.symm) (by rw [sw.dn hi]; exact n4) (by rw [sw.dn hi]; exact o3) q3
  obtain ⟨fo3, t1, t2, t3⟩ := trade_s r2 hk hi (by rw [sx.md hk, sw.md hk]; exact mk) (by rw [sx.md hi, sw.md hi]; exact mi) q5 (by rw [sx.up hk, sw.up hk, sx.dn hi, sw.dn hi]; exact fun e => o4 e.symm)
  rw [sx.up hk, sw.up hk, sx.dn hi, sw.dn hi] at t2 t3
  rw [q6, q4] at t3
  have sps : ∀ (s : Nat → Int32) (f g : Nat), f < 20 → g < 20 → Mo_swaps (upA mo0 0 s) (nI f) (nI g) = some (upA mo0 0 (swS s f g)) := fun s f g a b => by
    have := Mo_swaps_s (mo := upA mo0 0 s) a b
    rw [upA_0, upA_A] at this
    exact this
  refine ⟨fo1, fo2, fo3, p1, r1, t1, t2, ?_, sps _ _ _ (by omega) (by omega), sps _ _ _ (by omega) (by omega), sps _ _ _ (by omega) (by omega)⟩
  rw [← p3, ← r3, ← t3]
  unfold rdS
  grind
theorem co_hi {g : Nat → Int32} (hn : n ≤ 20) (e : ∀ i, i < 160 → g i = s i) : sm (coS g) n = sm (coS s) n := sm_congr (fun k hk => by
  unfold coS Pd
  rw [e (8 * k + 3) (by omega), e (8 * k + 4) (by omega), e (8 * k + 5) (by omega), e (8 * k + 6) (by omega), e (8 * k + 7) (by omega)])
theorem q_round (h : RF n v fo ro ra vc os li (mo 0)) : ∃ r fo' os' s', St_round fo ro os x y z = some (r, fo', os') ∧ Mo_round mo x y z = some (r, upA mo 0 s') ∧ RF n v fo' ro ra vc os' li s' := by
  have hn := h.f.n20
  have jo := h.2.2.2.2.2.2.2.2.2.2.2.2.2.1
  have no : Mo_round mo x y z = some (-1000000, mo) → ¬ RCp (mo 0) x y z → ∃ r fo' os' s', St_round fo ro os x y z = some (r, fo', os') ∧ Mo_round mo x y z = some (r, upA mo 0 s') ∧ RF n v fo' ro ra vc os' li s' := fun e c => by
    refine ⟨-1000000, fo, os, mo 0, ?_, by rw [upA_id]; exact e, h⟩
    unfold St_round
    rw [Fi_canRound_x h, bn1_r, bI_z, if_neg c]
  by_cases ox : Ofr (mo 0) x
  · by_cases oy : Ofr (mo 0) y
    · by_cases oz : Ofr (mo 0) z
      · obtain ⟨i, hi, rfl⟩ := in0_of ox.1 (by omega)
        obtain ⟨j, hj, rfl⟩ := in0_of oy.1 (by omega)
        obtain ⟨k, hk, rfl⟩ := in0_of oz.1 (by omega)
        have mi := ox.2
        have mj := oy.2
        have mk := oz.2
        rw [nI_clamp (by omega)] at mi mj mk
        have e : Mo_round mo (nI i) (nI j) (nI k) = if mo 0 (8 * dnN (mo 0) i) = mo 0 (8 * dnN (mo 0) j) then some (-1000000, mo) else if mo 0 (8 * dnN (mo 0) j) = mo 0 (8 * dnN (mo 0) k) then some (-1000000, mo) else if mo 0 (8 * dnN (mo 0) i) = mo 0 (8 * dnN (mo 0) k) then some (-1000000, mo) else if Gnd (mo 0) (dnN (mo 0) i) ∧ Gnd (mo 0) (upN (mo 0) i) then (if Gnd (mo 0) (dnN (mo 0) j) ∧ Gnd (mo 0) (upN (mo 0) j) then (if Gnd (mo 0) (dnN (mo 0) k) ∧ Gnd (mo 0) (upN (mo 0) k) then (if CSp (mo 0) i j then (if CSp (mo 0) j k then (if CSp (mo 0) k i then (Mo_round mo (nI i) (nI j) (nI k)) else some (-1000000, mo)) else some (-1000000, mo)) else some (-1000000, mo)) else some (-1000000, mo)) else some (-1000000, mo)) else some (-1000000, mo) := by
          unfold Mo_round
          rw [Mo_isOffer_x, Mo_isOffer_x, Mo_isOffer_x, Mo_lineOf_s hn jo hi mi, Mo_lineOf_s hn jo hj mj, Mo_lineOf_s hn jo hk mk, Mo_stillSo_s hn jo hi mi, Mo_stillSo_s hn jo hj mj, Mo_stillSo_s hn jo hk mk, Mo_canSwap_s hn jo hi hj mi mj, Mo_canSwap_s hn jo hj hk mj mk, Mo_canSwap_s hn jo hk hi mk mi]
          simp only [bn1_r, bI_z]
          rw [if_pos ox, if_pos oy, if_pos oz]
          by_cases l1 : mo 0 (8 * dnN (mo 0) i) = mo 0 (8 * dnN (mo 0) j)
          · rw [if_pos l1, if_pos l1]
          · rw [if_neg l1, if_neg l1]
            by_cases l2 : mo 0 (8 * dnN (mo 0) j) = mo 0 (8 * dnN (mo 0) k)
            · rw [if_pos l2, if_pos l2]
            · rw [if_neg l2, if_neg l2]
              by_cases l3 : mo 0 (8 * dnN (mo 0) i) = mo 0 (8 * dnN (mo 0) k)
              · rw [if_pos l3, if_pos l3]
              · rw [if_neg l3, if_neg l3]
                by_cases g1 : Gnd (mo 0) (dnN (mo 0) i) ∧ Gnd (mo 0) (upN (mo 0) i)
                · rw [if_pos g1, if_pos g1]
                  by_cases g2 : Gnd (mo 0) (dnN (mo 0) j) ∧ Gnd (mo 0) (upN (mo 0) j)
                  · rw [if_pos g2, if_pos g2]
                    by_cases g3 : Gnd (mo 0) (dnN (mo 0) k) ∧ Gnd (mo 0) (upN (mo 0) k)
                    · rw [if_pos g3, if_pos g3]
                      by_cases c1 : CSp (mo 0) i j
                      · rw [if_pos c1, if_pos c1]
                        by_cases c2 : CSp (mo 0) j k
                        · rw [if_pos c2, if_pos c2]
                          by_cases c3 : CSp (mo 0) k i
                          · rw [if_pos c3, if_pos c3]
                          · rw [if_neg c3, if_neg c3]
                        · rw [if_neg c2, if_neg c2]
                      · rw [if_neg c1, if_neg c1]
                    · rw [if_neg g3, if_neg g3]
                  · rw [if_neg g2, if_neg g2]
                · rw [if_neg g1, if_neg g1]
        by_cases rc : RCp (mo 0) (nI i) (nI j) (nI k)
        · obtain ⟨u1, u2, u3, c1, c2, c3⟩ := (RCp_n hi hj hk).mp rc
          obtain ⟨-, -, l1⟩ := (ULp_n hi hj).mp u1
          obtain ⟨-, -, l2⟩ := (ULp_n hj hk).mp u2
          obtain ⟨-, -, l3⟩ := (ULp_n hi hk).mp u3
          obtain ⟨i1, i2, i3, i4, i5, i6⟩ := of_v hn jo hi mi
          obtain ⟨j1, j2, j3, j4, j5, j6⟩ := of_v hn jo hj mj
          obtain ⟨k1, k2, k3, k4, k5, k6⟩ := of_v hn jo hk mk
          obtain ⟨fo1, fo2, fo3, p1, p2, p3, p4, p5, p6, p7, p8⟩ := rounds_s (mo0 := mo) h hi hj hk u1 u2 u3 c1 c2 c3
          rw [upA_id] at p6
          have sw := SW1.of (s := mo 0) (f := upN (mo 0) i) (g := dnN (mo 0) j) (by omega) (by omega)
          have sx := SW1.of (s := swS (mo 0) (upN (mo 0) i) (dnN (mo 0) j)) (f := upN (mo 0) j) (g := dnN (mo 0) k) (by omega) (by omega)
          have sy := SW1.of (s := swS (swS (mo 0) (upN (mo 0) i) (dnN (mo 0) j)) (upN (mo 0) j) (dnN (mo 0) k)) (f := upN (mo 0) k) (g := dnN (mo 0) i) (by omega) (by omega)
          have md : ∀ q, q < 8 → made (rdS (mo 0) i j k) q = made (mo 0) q := fun q hq => by
            unfold rdS
            rw [sy.md hq, sx.md hq, sw.md hq]
          have ji : j ≠ i := fun e => l1 (by rw [e])
          have kj : k ≠ j := fun e => l2 (by rw [e])
          have ki : k ≠ i := fun e => l3 (by rw [e])
          obtain ⟨os1, d1, d2⟩ := RF_drop1 p4 hi (by rw [md i hi]; exact mi)
          obtain ⟨os2, d3, d4⟩ := RF_drop1 d2 hj (by
            have := md j hj
            unfold made at this ⊢
            rw [pk_un (by omega), this]
            exact mj)
          obtain ⟨os3, d5, d6⟩ := RF_drop1 d4 hk (by
            have := md k hk
            unfold made at this ⊢
            rw [pk_un (by omega), pk_un (by omega), this]
            exact mk)
          have gain : sm (fun f => coS (mo 0) f) n - sm (fun f => coS (upd (upd (upd (rdS (mo 0) i j k) (180 + 5 * i) 0) (180 + 5 * j) 0) (180 + 5 * k) 0) f) n = tgS (mo 0) i j + tgS (mo 0) j k + tgS (mo 0) k i := by
            rw [← p5]
            have e1 := co_hi (s := rdS (mo 0) i j k) (g := upd (upd (upd (rdS (mo 0) i j k) (180 + 5 * i) 0) (180 + 5 * j) 0) (180 + 5 * k) 0) hn (fun q hq => by rw [pk_un (by omega), pk_un (by omega), pk_un (by omega)])
            exact congrArg (fun w => sm (coS (mo 0)) n - w) e1
          unfold St_round Mo_round
          rw [Fi_canRound_x h, bn1_r, bI_z, if_pos rc, Fi_tradeGain_s h hi hj mi mj c1, Fi_tradeGain_s h hj hk mj mk c2, Fi_tradeGain_s h hk hi mk mi c3, bn1_r, bn1_r, bn1_r, stk_r, p1, bn1_r, p2, bn1_r, p3, bn1_r, d1, bn1_r, d3, bn1_r, d5, bn1_r]
          rw [Mo_isOffer_x, Mo_isOffer_x, Mo_isOffer_x, Mo_lineOf_s hn jo hi mi, Mo_lineOf_s hn jo hj mj, Mo_lineOf_s hn jo hk mk, Mo_stillSo_s hn jo hi mi, Mo_stillSo_s hn jo hj mj, Mo_stillSo_s hn jo hk mk, Mo_canSwap_s hn jo hi hj mi mj, Mo_canSwap_s hn jo hj hk mj mk, Mo_canSwap_s hn jo hk hi mk mi]
          simp only [bn1_r, bI_z]
          rw [if_pos ox, if_pos oy, if_pos oz, if_neg l1, if_neg l2, if_neg l3, if_pos ⟨c3.2.1, c1.1⟩, if_pos ⟨c1.2.1, c2.1⟩, if_pos ⟨c2.2.1, c3.1⟩, if_pos c1.2.2, if_pos c2.2.2, if_pos c3.2.2, Mo_allCost_s hn h.f.sn, bn1_r, Mo_ask2 hi, Mo_ask0 hj, bn1_r, bn1_r, i5, j4, p6, bn1_r, Mo_ask2 hj, Mo_ask0 hk, bn1_r, bn1_r, upA_0, sw.hi (178 + 5 * j) (by omega) (by omega), sw.hi (176 + 5 * k) (by omega) (by omega), j5, k4, p7, bn1_r, Mo_ask2 hk, Mo_ask0 hi, bn1_r, bn1_r, upA_0, sx.hi (178 + 5 * k) (by omega) (by omega), sx.hi (176 + 5 * i) (by omega) (by omega), sw.hi (178 + 5 * k) (by omega) (by omega), sw.hi (176 + 5 * i) (by omega) (by omega), k5, i4, p8, bn1_r, Mo_drop hi, Mo_drop hj, Mo_drop hk, ckI_nI _ (by omega) (by omega), nI_clamp (by omega), stk_r, ckI_nI _ (by omega) (by omega), nI_clamp (by omega), stk_r, ckI_nI _ (by omega) (by omega), nI_clamp (by omega), stk_r, upm_A, upm_A, upm_A]
          simp only [upA_0, upA_A]
          rw [Mo_allCost_s hn (by rw [upA_0]; exact d6.1.sn), bn1_r, upA_0, gain]
          exact ⟨_, _, _, _, rfl, rfl, d6⟩
        · refine no ?_ rc
          rw [e]
          have rc' := fun z => rc ((RCp_n hi hj hk).mpr z)
          by_cases l1 : mo 0 (8 * dnN (mo 0) i) = mo 0 (8 * dnN (mo 0) j)
          · rw [if_pos l1]
          · rw [if_neg l1]
            by_cases l2 : mo 0 (8 * dnN (mo 0) j) = mo 0 (8 * dnN (mo 0) k)
            · rw [if_pos l2]
            · rw [if_neg l2]
              by_cases l3 : mo 0 (8 * dnN (mo 0) i) = mo 0 (8 * dnN (mo 0) k)
              · rw [if_pos l3]
              · rw [if_neg l3]
                by_cases g1 : Gnd (mo 0) (dnN (mo 0) i) ∧ Gnd (mo 0) (upN (mo 0) i)
                · rw [if_pos g1]
                  by_cases g2 : Gnd (mo 0) (dnN (mo 0) j) ∧ Gnd (mo 0) (upN (mo 0) j)
                  · rw [if_pos g2]
                    by_cases g3 : Gnd (mo 0) (dnN (mo 0) k) ∧ Gnd (mo 0) (upN (mo 0) k)
                    · rw [if_pos g3]
                      by_cases c1 : CSp (mo 0) i j
                      · rw [if_pos c1]
                        by_cases c2 : CSp (mo 0) j k
                        · rw [if_pos c2]
                          by_cases c3 : CSp (mo 0) k i
                          · exact absurd ⟨(ULp_n hi hj).mpr ⟨mi, mj, l1⟩, (ULp_n hj hk).mpr ⟨mj, mk, l2⟩, (ULp_n hi hk).mpr ⟨mi, mk, l3⟩, ⟨g1.2, g2.1, c1⟩, ⟨g2.2, g3.1, c2⟩, ⟨g3.2, g1.1, c3⟩⟩ rc'
                          · rw [if_neg c3]
                        · rw [if_neg c2]
                      · rw [if_neg c1]
                    · rw [if_neg g3]
                  · rw [if_neg g2]
                · rw [if_neg g1]
      · refine no ?_ (fun c => oz c.2.1.2.1)
        unfold Mo_round
        rw [Mo_isOffer_x, Mo_isOffer_x, Mo_isOffer_x, bn1_r, bI_z, if_pos ox, bn1_r, bI_z, if_pos oy, bn1_r, bI_z, if_neg oz]
    · refine no ?_ (fun c => oy c.1.2.1)
      unfold Mo_round
      rw [Mo_isOffer_x, Mo_isOffer_x, bn1_r, bI_z, if_pos ox, bn1_r, bI_z, if_neg oy]
  · refine no ?_ (fun c => ox c.1.1)
    unfold Mo_round
    rw [Mo_isOffer_x, bn1_r, bI_z, if_neg ox]
end RD
