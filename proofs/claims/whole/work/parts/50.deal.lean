/-! deals -/
section DE
variable {n v : Nat} {fo ro ra vc os li mo mo0 : Mem} {x y z : Int32} {s s' : Nat → Int32}
abbrev Ofr (s : Nat → Int32) (x : Int32) : Prop := in0 x 8 ∧ made s x.toNatClampNeg = true
theorem Of_has_x (h : Ros os s) : Of_has os x = some (bI (Ofr s x)) := by
  by_cases hx : in0 x 8
  · obtain ⟨i, hi, rfl⟩ := in0_of hx (by omega)
    rw [Of_has_in (mo := fun _ => s) h hi]
    exact congrArg some (bI_iff ⟨fun q => ⟨hx, by rw [nI_clamp (by omega)]; exact q⟩, fun q => by have := q.2; rw [nI_clamp (by omega)] at this; exact this⟩)
  · rw [Of_has_out hx, bI_f (fun q => hx q.1)]
theorem Mo_isOffer_x : Mo_isOffer mo x = some (bI (Ofr (mo 0) x)) := by
  by_cases hx : in0 x 8
  · obtain ⟨i, hi, rfl⟩ := in0_of hx (by omega)
    rw [Mo_isOffer_in hi]
    exact congrArg some (bI_iff ⟨fun q => ⟨hx, by rw [nI_clamp (by omega)]; exact q⟩, fun q => by have := q.2; rw [nI_clamp (by omega)] at this; exact this⟩)
  · rw [Mo_isOffer_out hx, bI_f (fun q => hx q.1)]
def dnN (s : Nat → Int32) (i : Nat) : Nat := (s (176 + 5 * i)).toNatClampNeg
def upN (s : Nat → Int32) (i : Nat) : Nat := (s (178 + 5 * i)).toNatClampNeg
theorem of_v {i : Nat} (hn : n ≤ 20) (jo : Jo n s) (hi : i < 8) (hm : made s i = true) : dnN s i < n ∧ upN s i < n ∧ dnN s i ≠ upN s i ∧ s (176 + 5 * i) = nI (dnN s i) ∧ s (178 + 5 * i) = nI (upN s i) ∧ s (8 * dnN s i) = s (8 * upN s i) := by
  have hm' : s (180 + 5 * i) = 1 := of_decide_eq_true hm
  rcases jo i hi with q | ⟨q, a, b, h1, h2, h3, h4, h5, h6⟩
  · rw [hm'] at q; exact absurd q (by decide)
  · unfold dnN upN
    rw [h4, h5, nI_clamp (by omega), nI_clamp (by omega)]
    exact ⟨h1, h2, h3, rfl, rfl, h6⟩
abbrev CSp (s : Nat → Int32) (i j : Nat) : Prop := s (8 * dnN s j + 4) < s (8 * upN s i + 4) ∧ ¬ s (179 + 5 * i) < s (8 * dnN s j + 4) ∧ earS s (upN s i) ≤ s (8 * dnN s j + 4) ∧ ¬ s (177 + 5 * j) < s (8 * upN s i + 4) ∧ earS s (dnN s j) ≤ s (8 * upN s i + 4)
abbrev CTp (s : Nat → Int32) (i j : Nat) : Prop := Gnd s (upN s i) ∧ Gnd s (dnN s j) ∧ CSp s i j
theorem Fi_canTrade_s {i j : Nat} (h : RF n v fo ro ra vc os li s) (hi : i < 8) (hj : j < 8) (mi : made s i = true) (mj : made s j = true) : Fi_canTrade fo ro os (nI i) (nI j) = some (bI (CTp s i j)) := by
  have hn := h.1.n20
  have jo := h.2.2.2.2.2.2.2.2.2.2.2.2.2.1
  obtain ⟨i1, i2, i3, i4, i5, i6⟩ := of_v hn jo hi mi
  obtain ⟨j1, j2, j3, j4, j5, j6⟩ := of_v hn jo hj mj
  obtain ⟨o0, o1, o2, o3⟩ := h.2.2.2.2.1.2 i hi (of_decide_eq_true mi)
  obtain ⟨p0, p1, p2, p3⟩ := h.2.2.2.2.1.2 j hj (of_decide_eq_true mj)
  unfold Fi_canTrade
  rw [ckI_nI _ hi (by omega), nI_clamp (by omega), stk_r, ckI_nI _ hj (by omega), nI_clamp (by omega), stk_r, o2, o3, p0, p1, i5, j4, Fi_isGrounded_s h.1 (by omega), Fi_isGrounded_s h.1 (by omega)]
  simp only [bn1_r, bI_z]
  by_cases g1 : Gnd s (upN s i)
  · rw [if_pos ⟨i2, g1⟩]
    by_cases g2 : Gnd s (dnN s j)
    · rw [if_pos ⟨j1, g2⟩, ckI_nI _ (by omega) (by omega), stk_r, ckI_nI _ (by omega) (by omega), stk_r, nI_clamp (by omega), nI_clamp (by omega), (h.1.pd j1 g2.1).1, (h.1.pd i2 g1.1).1, Fi_earliest_s h.1 i2, Fi_earliest_s h.1 j1]
      simp only [bn1_r]
      by_cases c1 : s (8 * dnN s j + 4) < s (8 * upN s i + 4)
      · rw [if_neg (Int32.not_le.mpr c1)]
        by_cases c2 : s (179 + 5 * i) < s (8 * dnN s j + 4)
        · rw [if_pos c2, bI_f (fun z => z.2.2.2.1 c2)]
        · rw [if_neg c2]
          by_cases c3 : earS s (upN s i) ≤ s (8 * dnN s j + 4)
          · rw [if_pos c3]
            by_cases c4 : s (177 + 5 * j) < s (8 * upN s i + 4)
            · rw [if_pos c4, bI_f (fun z => z.2.2.2.2.2.1 c4)]
            · rw [if_neg c4]
              by_cases c5 : earS s (dnN s j) ≤ s (8 * upN s i + 4)
              · rw [if_neg (Int32.not_lt.mpr c5), bI_t ⟨g1, g2, c1, c2, c3, c4, c5⟩]
              · rw [if_pos (Int32.not_le.mp c5), bI_f (fun z => c5 z.2.2.2.2.2.2)]
          · rw [if_neg c3, bI_f (fun z => c3 z.2.2.2.2.1)]
      · rw [if_pos (Int32.not_lt.mp c1), bI_f (fun z => c1 z.2.2.1)]
    · rw [if_neg (fun z => g2 z.2), bI_f (fun z => g2 z.2.1)]
  · rw [if_neg (fun z => g1 z.2), bI_f (fun z => g1 z.1)]
section MD
variable {i j : Nat}
theorem Mo_ask0 (hi : i < 8) : Mo_asked mo (nI i) 0 = some (mo 0 (176 + 5 * i)) := Mo_asked_s (w := 0) hi (by omega)
theorem Mo_ask1 (hi : i < 8) : Mo_asked mo (nI i) 1 = some (mo 0 (177 + 5 * i)) := by
  rw [show 177 + 5 * i = 176 + 5 * i + 1 by omega]; exact Mo_asked_s (w := 1) hi (by omega)
theorem Mo_ask2 (hi : i < 8) : Mo_asked mo (nI i) 2 = some (mo 0 (178 + 5 * i)) := by
  rw [show 178 + 5 * i = 176 + 5 * i + 2 by omega]; exact Mo_asked_s (w := 2) hi (by omega)
theorem Mo_ask3 (hi : i < 8) : Mo_asked mo (nI i) 3 = some (mo 0 (179 + 5 * i)) := by
  rw [show 179 + 5 * i = 176 + 5 * i + 3 by omega]; exact Mo_asked_s (w := 3) hi (by omega)
theorem Mo_stillSo_s (hn : n ≤ 20) (jo : Jo n (mo 0)) (hi : i < 8) (mi : made (mo 0) i = true) : Mo_stillSo mo (nI i) = some (bI (Gnd (mo 0) (dnN (mo 0) i) ∧ Gnd (mo 0) (upN (mo 0) i))) := by
  obtain ⟨i1, i2, i3, i4, i5, i6⟩ := of_v hn jo hi mi
  unfold Mo_stillSo
  rw [Mo_ask0 hi, Mo_ask2 hi, bn1_r, i4, i5, Mo_isGround_s (by omega)]
  simp only [bn1_r, bI_z]
  rw [Mo_isGround_s (by omega)]
  simp only [bn1_r, bI_z]
  by_cases g1 : Gnd (mo 0) (dnN (mo 0) i)
  · rw [if_pos g1]
    by_cases g2 : Gnd (mo 0) (upN (mo 0) i)
    · rw [if_pos g2, bI_t ⟨g1, g2⟩]
    · rw [if_neg g2, bI_f (fun z => g2 z.2)]
  · rw [if_neg g1, bI_f (fun z => g1 z.1)]
theorem Mo_lineOf_s (hn : n ≤ 20) (jo : Jo n (mo 0)) (hi : i < 8) (mi : made (mo 0) i = true) : Mo_lineOf mo (nI i) = some (mo 0 (8 * dnN (mo 0) i)) := by
  obtain ⟨i1, i2, i3, i4, i5, i6⟩ := of_v hn jo hi mi
  unfold Mo_lineOf
  rw [Mo_ask0 hi, bn1_r, i4, Mo_of_0 (by omega), bn1_r]
theorem Mo_canSwap_s (hn : n ≤ 20) (jo : Jo n (mo 0)) (hi : i < 8) (hj : j < 8) (mi : made (mo 0) i = true) (mj : made (mo 0) j = true) : Mo_canSwap mo (nI i) (nI j) = some (bI (CSp (mo 0) i j)) := by
  obtain ⟨i1, i2, i3, i4, i5, i6⟩ := of_v hn jo hi mi
  obtain ⟨j1, j2, j3, j4, j5, j6⟩ := of_v hn jo hj mj
  unfold Mo_canSwap
  rw [Mo_ask2 hi, Mo_ask0 hj, bn1_r, bn1_r, i5, j4, Mo_of_4 (by omega), Mo_of_4 (by omega), bn1_r, bn1_r, Mo_ask3 hi, Mo_ask1 hj, Mo_earliest_s (by omega), Mo_earliest_s (by omega)]
  simp only [bn1_r]
  by_cases c1 : mo 0 (8 * dnN (mo 0) j + 4) < mo 0 (8 * upN (mo 0) i + 4)
  · rw [if_neg (Int32.not_le.mpr c1)]
    by_cases c2 : mo 0 (179 + 5 * i) < mo 0 (8 * dnN (mo 0) j + 4)
    · rw [if_pos c2, bI_f (fun z => z.2.1 c2)]
    · rw [if_neg c2]
      by_cases c3 : earS (mo 0) (upN (mo 0) i) ≤ mo 0 (8 * dnN (mo 0) j + 4)
      · rw [if_neg (Int32.not_lt.mpr c3)]
        by_cases c4 : mo 0 (177 + 5 * j) < mo 0 (8 * upN (mo 0) i + 4)
        · rw [if_pos c4, bI_f (fun z => z.2.2.2.1 c4)]
        · rw [if_neg c4]
          by_cases c5 : earS (mo 0) (dnN (mo 0) j) ≤ mo 0 (8 * upN (mo 0) i + 4)
          · rw [if_neg (Int32.not_lt.mpr c5), bI_t ⟨c1, c2, c3, c4, c5⟩]
          · rw [if_pos (Int32.not_le.mp c5), bI_f (fun z => c5 z.2.2.2.2)]
      · rw [if_pos (Int32.not_le.mp c3), bI_f (fun z => c3 z.2.2.1)]
  · rw [if_pos (Int32.not_lt.mp c1), bI_f (fun z => c1 z.1)]
end MD
/-- offers of unlike lines -/
abbrev ULp (s : Nat → Int32) (x y : Int32) : Prop := Ofr s x ∧ Ofr s y ∧ ¬ s (8 * dnN s x.toNatClampNeg) = s (8 * dnN s y.toNatClampNeg)
theorem Fi_haveUnlikeLines_x (h : RF n v fo ro ra vc os li s) : Fi_haveUnlikeLines ro os x y = some (bI (ULp s x y)) := by
  have hn := h.1.n20
  have jo := h.2.2.2.2.2.2.2.2.2.2.2.2.2.1
  unfold Fi_haveUnlikeLines
  rw [Of_has_x h.2.2.2.2.1, Of_has_x h.2.2.2.2.1]
  simp only [bn1_r, bI_z]
  by_cases hx : Ofr s x
  · by_cases hy : Ofr s y
    · rw [if_pos hx, if_pos hy]
      obtain ⟨i, hi, rfl⟩ := in0_of hx.1 (by omega)
      obtain ⟨j, hj, rfl⟩ := in0_of hy.1 (by omega)
      have mi := hx.2
      have mj := hy.2
      rw [nI_clamp (by omega)] at mi mj
      obtain ⟨i1, i2, i3, i4, i5, i6⟩ := of_v hn jo hi mi
      obtain ⟨j1, j2, j3, j4, j5, j6⟩ := of_v hn jo hj mj
      have ci : (nI i).toNatClampNeg = i := nI_clamp (by omega)
      have cj : (nI j).toNatClampNeg = j := nI_clamp (by omega)
      have R : bI (ULp s (nI i) (nI j)) = bI (¬ s (8 * dnN s i) = s (8 * dnN s j)) := bI_iff ⟨fun z => by have := z.2.2; rw [ci, cj] at this; exact this, fun z => ⟨hx, hy, by rw [ci, cj]; exact z⟩⟩
      rw [R, ckI_nI _ hi (by omega), ckI_nI _ hj (by omega), ci, cj, (h.2.2.2.2.1.2 i hi (of_decide_eq_true mi)).1, (h.2.2.2.2.1.2 j hj (of_decide_eq_true mj)).1, i4, j4, Ro_sameLine_s h.1 (by omega) (by omega), bn1_r, bI_z]
      by_cases hl : s (8 * dnN s i) = s (8 * dnN s j)
      · rw [if_pos ⟨i1, j1, hl⟩, bI_f (fun z => z hl)]
      · rw [if_neg (fun z => hl z.2.2), bI_t hl]
    · rw [if_pos hx, if_neg hy, bI_f (fun z => hy z.2.1)]
  · rw [if_neg hx, bI_f (fun z => hx z.1)]
/-- what an exchange of two on the ground saves -/
theorem sw_gain {f g : Nat} (j : J n s) (hfg : f ≠ g) (hf : f < n) (hg : g < n) (gf : Gnd s f) (gg : Gnd s g) : sm (coS s) n - sm (coS (swS s f g)) n = (s (8 * f + 3) - s (8 * g + 3)) * (s (8 * f + 4) - s (8 * g + 4)) := by
  obtain ⟨e1, e2⟩ := gnd_v j hf gf
  obtain ⟨e3, e4⟩ := gnd_v j hg gg
  have pf : Pd (swS s f g) f := ⟨by rw [sw_f4 hfg]; exact gg.1.1, by rw [sw_un (by omega)]; exact gf.1.2⟩
  have pg : Pd (swS s f g) g := ⟨by rw [sw_g4]; exact gf.1.1, by rw [sw_un (by omega)]; exact gg.1.2⟩
  rw [sw_cost hfg hf hg]
  unfold coS
  rw [if_pos gf.1, if_pos gg.1, if_pos pf, if_pos pg, sw_f5 hfg, sw_f6 hfg, sw_g5, sw_g6, sw_un (by omega), sw_un (by omega), e1, e2, e3, e4]
  grind
def tgS (s : Nat → Int32) (i j : Nat) : Int32 := (s (8 * upN s i + 3) - s (8 * dnN s j + 3)) * (s (8 * upN s i + 4) - s (8 * dnN s j + 4))
theorem Fi_tradeGain_s {i j : Nat} (h : RF n v fo ro ra vc os li s) (hi : i < 8) (hj : j < 8) (mi : made s i = true) (mj : made s j = true) (hc : CTp s i j) : Fi_tradeGain fo ro os (nI i) (nI j) = some (tgS s i j) := by
  have hn := h.1.n20
  have jo := h.2.2.2.2.2.2.2.2.2.2.2.2.2.1
  obtain ⟨i1, i2, i3, i4, i5, i6⟩ := of_v hn jo hi mi
  obtain ⟨j1, j2, j3, j4, j5, j6⟩ := of_v hn jo hj mj
  have oi : Ofr s (nI i) := ⟨in0_nI hi (by omega), by rw [nI_clamp (by omega)]; exact mi⟩
  have oj : Ofr s (nI j) := ⟨in0_nI hj (by omega), by rw [nI_clamp (by omega)]; exact mj⟩
  unfold Fi_tradeGain
  rw [Of_has_x h.2.2.2.2.1, Of_has_x h.2.2.2.2.1]
  simp only [bn1_r, bI_z]
  rw [if_pos oi, if_pos oj, ckI_nI _ hi (by omega), nI_clamp (by omega), stk_r, ckI_nI _ hj (by omega), nI_clamp (by omega), stk_r, (h.2.2.2.2.1.2 i hi (of_decide_eq_true mi)).2.2.1, (h.2.2.2.2.1.2 j hj (of_decide_eq_true mj)).1, i5, j4, Fi_isSeated_s h.1 (by omega), Fi_isSeated_s h.1 (by omega)]
  simp only [bn1_r, bI_z]
  rw [if_pos ⟨i2, hc.1.1⟩, if_pos ⟨j1, hc.2.1.1⟩, ckI_nI _ (by omega) (by omega), ckI_nI _ (by omega) (by omega), nI_clamp (by omega), nI_clamp (by omega), h.1.wt i2, h.1.wt j1, (h.1.pd i2 hc.1.1).1, (h.1.pd j1 hc.2.1.1).1]
  rfl
/-- one exchange of a deal -/
theorem trade_s {i j : Nat} (h : RF n v fo ro ra vc os li s) (hi : i < 8) (hj : j < 8) (mi : made s i = true) (mj : made s j = true) (hc : CTp s i j) (hne : upN s i ≠ dnN s j) : ∃ fo', Fi_trade fo ro os (nI i) (nI j) = some fo' ∧ RF n v fo' ro ra vc os li (swS s (upN s i) (dnN s j)) ∧ sm (coS s) n - sm (coS (swS s (upN s i) (dnN s j))) n = tgS s i j := by
  have hn := h.1.n20
  have jo := h.2.2.2.2.2.2.2.2.2.2.2.2.2.1
  obtain ⟨i1, i2, i3, i4, i5, i6⟩ := of_v hn jo hi mi
  obtain ⟨j1, j2, j3, j4, j5, j6⟩ := of_v hn jo hj mj
  have oi : Ofr s (nI i) := ⟨in0_nI hi (by omega), by rw [nI_clamp (by omega)]; exact mi⟩
  have oj : Ofr s (nI j) := ⟨in0_nI hj (by omega), by rw [nI_clamp (by omega)]; exact mj⟩
  obtain ⟨fo', o1, o2⟩ := RF_swap h hne i2 j1 hc.1.1 hc.2.1.1 hc.2.2.2.2.1 hc.2.2.2.2.2.2
  refine ⟨fo', ?_, o2, sw_gain h.2.2.2.2.2.2 hne i2 j1 hc.1 hc.2.1⟩
  unfold Fi_trade
  rw [Of_has_x h.2.2.2.2.1, Of_has_x h.2.2.2.2.1]
  simp only [bn1_r, bI_z]
  rw [if_pos oi, if_pos oj, ckI_nI _ hi (by omega), nI_clamp (by omega), ckI_nI _ hj (by omega), nI_clamp (by omega), (h.2.2.2.2.1.2 i hi (of_decide_eq_true mi)).2.2.1, (h.2.2.2.2.1.2 j hj (of_decide_eq_true mj)).1, i5, j4, o1, bn1_r]
/-- what another exchange leaves -/
def SW1 (s s' : Nat → Int32) (f g : Nat) : Prop := (∀ k w, k < 20 → k ≠ f → k ≠ g → w < 8 → s' (8 * k + w) = s (8 * k + w)) ∧ (∀ k, k < 20 → s' (8 * k) = s (8 * k)) ∧ ∀ i, 160 ≤ i → i < 1452 → s' i = s i
theorem SW1.fl {f g : Nat} (h : SW1 s s' f g) : ∀ k w, k < 20 → k ≠ f → k ≠ g → w < 8 → s' (8 * k + w) = s (8 * k + w) := h.1
theorem SW1.hi {f g : Nat} (h : SW1 s s' f g) : ∀ i, 160 ≤ i → i < 1452 → s' i = s i := h.2.2
theorem SW1.of {f g : Nat} (hf : f < 20) (hg : g < 20) : SW1 s (swS s f g) f g := ⟨fun k w h1 h2 h3 h4 => sw_un (by omega), fun k hk => sw_un (by omega), fun i h1 h2 => sw_un (by omega)⟩
theorem SW1.dn {f g i : Nat} (h : SW1 s s' f g) (hi : i < 8) : dnN s' i = dnN s i := by unfold dnN; rw [h.hi _ (by omega) (by omega)]
theorem SW1.up {f g i : Nat} (h : SW1 s s' f g) (hi : i < 8) : upN s' i = upN s i := by unfold upN; rw [h.hi _ (by omega) (by omega)]
theorem SW1.md {f g i : Nat} (h : SW1 s s' f g) (hi : i < 8) : made s' i = made s i := by unfold made; rw [h.hi _ (by omega) (by omega)]
theorem SW1.gn {f g k : Nat} (h : SW1 s s' f g) (hk : k < 20) (h1 : k ≠ f) (h2 : k ≠ g) : Gnd s' k ↔ Gnd s k := by
  unfold Gnd Pd goS
  rw [h.fl k 1 hk h1 h2 (by omega), h.fl k 2 hk h1 h2 (by omega), h.fl k 4 hk h1 h2 (by omega), h.fl k 5 hk h1 h2 (by omega), h.fl k 7 hk h1 h2 (by omega), h.hi 172 (by omega) (by omega)]
theorem SW1.ct {f g i j : Nat} (h : SW1 s s' f g) (hi : i < 8) (hj : j < 8) (u20 : upN s i < 20) (d20 : dnN s j < 20) (h1 : upN s i ≠ f) (h2 : upN s i ≠ g) (h3 : dnN s j ≠ f) (h4 : dnN s j ≠ g) (hc : CTp s i j) : CTp s' i j ∧ tgS s' i j = tgS s i j := by
  have e1 := h.fl (upN s i)
  have e2 := h.fl (dnN s j)
  constructor
  · refine ⟨?_, ?_, ?_⟩
    · rw [h.up hi]; exact (h.gn u20 h1 h2).mpr hc.1
    · rw [h.dn hj]; exact (h.gn d20 h3 h4).mpr hc.2.1
    · unfold CSp earS
      rw [h.up hi, h.dn hj, e1 4 u20 h1 h2 (by omega), e2 4 d20 h3 h4 (by omega), e1 1 u20 h1 h2 (by omega), e2 1 d20 h3 h4 (by omega), e1 2 u20 h1 h2 (by omega), e2 2 d20 h3 h4 (by omega), h.hi 172 (by omega) (by omega), h.hi (179 + 5 * i) (by omega) (by omega), h.hi (177 + 5 * j) (by omega) (by omega)]
      exact hc.2.2
  · unfold tgS
    rw [h.up hi, h.dn hj, e1 4 u20 h1 h2 (by omega), e2 4 d20 h3 h4 (by omega), e1 3 u20 h1 h2 (by omega), e2 3 d20 h3 h4 (by omega)]
/-- a deal that can be -/
abbrev DCp (s : Nat → Int32) (x y : Int32) : Prop := ULp s x y ∧ CTp s x.toNatClampNeg y.toNatClampNeg ∧ CTp s y.toNatClampNeg x.toNatClampNeg
theorem DCp_n {i j : Nat} (hi : i < 8) (hj : j < 8) : DCp s (nI i) (nI j) ↔ (ULp s (nI i) (nI j) ∧ CTp s i j ∧ CTp s j i) := by
  have ci : (nI i).toNatClampNeg = i := nI_clamp (by omega)
  have cj : (nI j).toNatClampNeg = j := nI_clamp (by omega)
  show (ULp s (nI i) (nI j) ∧ CTp s (nI i).toNatClampNeg (nI j).toNatClampNeg ∧ CTp s (nI j).toNatClampNeg (nI i).toNatClampNeg) ↔ _
  constructor
  · intro z
    have a := z.2.1
    have b := z.2.2
    rw [ci, cj] at a b
    exact ⟨z.1, a, b⟩
  · intro z
    refine ⟨z.1, ?_, ?_⟩
    · rw [ci, cj]; exact z.2.1
    · rw [ci, cj]; exact z.2.2
theorem Fi_canDeal_x (h : RF n v fo ro ra vc os li s) : Fi_canDeal fo ro os x y = some (bI (DCp s x y)) := by
  unfold Fi_canDeal
  rw [Fi_haveUnlikeLines_x h, bn1_r, bI_z]
  by_cases hu : ULp s x y
  · rw [if_pos hu]
    obtain ⟨i, hi, rfl⟩ := in0_of hu.1.1 (by omega)
    obtain ⟨j, hj, rfl⟩ := in0_of hu.2.1.1 (by omega)
    have mi := hu.1.2
    have mj := hu.2.1.2
    rw [nI_clamp (by omega)] at mi mj
    rw [Fi_canTrade_s h hi hj mi mj, Fi_canTrade_s h hj hi mj mi]
    simp only [bn1_r, bI_z]
    rw [bI_iff (DCp_n hi hj)]
    by_cases c1 : CTp s i j
    · rw [if_pos c1]
      by_cases c2 : CTp s j i
      · rw [if_pos c2, bI_t ⟨hu, c1, c2⟩]
      · rw [if_neg c2, bI_f (fun z => c2 z.2.2)]
    · rw [if_neg c1, bI_f (fun z => c1 z.2.1)]
  · rw [if_neg hu, bI_f (fun z => hu z.1)]
theorem Mo_canDeal_x (hn : n ≤ 20) (jo : Jo n (mo 0)) : Mo_canDeal mo x y = some (bI (DCp (mo 0) x y)) := by
  unfold Mo_canDeal
  rw [Mo_isOffer_x, Mo_isOffer_x, bn1_r, bI_z]
  by_cases hx : Ofr (mo 0) x
  · rw [if_pos hx, bn1_r, bI_z]
    by_cases hy : Ofr (mo 0) y
    · rw [if_pos hy]
      obtain ⟨i, hi, rfl⟩ := in0_of hx.1 (by omega)
      obtain ⟨j, hj, rfl⟩ := in0_of hy.1 (by omega)
      have mi := hx.2
      have mj := hy.2
      rw [nI_clamp (by omega)] at mi mj
      rw [Mo_lineOf_s hn jo hi mi, Mo_lineOf_s hn jo hj mj, Mo_stillSo_s hn jo hi mi, Mo_stillSo_s hn jo hj mj, Mo_canSwap_s hn jo hi hj mi mj, Mo_canSwap_s hn jo hj hi mj mi]
      simp only [bn1_r, bI_z]
      have ci : (nI i).toNatClampNeg = i := nI_clamp (by omega)
      have cj : (nI j).toNatClampNeg = j := nI_clamp (by omega)
      rw [bI_iff (DCp_n hi hj)]
      by_cases hl : mo 0 (8 * dnN (mo 0) i) = mo 0 (8 * dnN (mo 0) j)
      · rw [if_pos hl, bI_f (fun z => z.1.2.2 (by rw [ci, cj]; exact hl))]
      · rw [if_neg hl]
        by_cases s1 : Gnd (mo 0) (dnN (mo 0) i) ∧ Gnd (mo 0) (upN (mo 0) i)
        · rw [if_pos s1]
          by_cases s2 : Gnd (mo 0) (dnN (mo 0) j) ∧ Gnd (mo 0) (upN (mo 0) j)
          · rw [if_pos s2]
            by_cases c1 : CSp (mo 0) i j
            · rw [if_pos c1]
              by_cases c2 : CSp (mo 0) j i
              · rw [if_pos c2, bI_t ⟨⟨hx, hy, by rw [ci, cj]; exact hl⟩, ⟨s1.2, s2.1, c1⟩, ⟨s2.2, s1.1, c2⟩⟩]
              · rw [if_neg c2, bI_f (fun z => c2 z.2.2.2.2)]
            · rw [if_neg c1, bI_f (fun z => c1 z.2.1.2.2)]
          · rw [if_neg s2, bI_f (fun z => s2 ⟨z.2.1.2.1, z.2.2.1⟩)]
        · rw [if_neg s1, bI_f (fun z => s1 ⟨z.2.2.2.1, z.2.1.1⟩)]
    · rw [if_neg hy, bI_f (fun z => hy z.1.2.1)]
  · rw [if_neg hx, bI_f (fun z => hx z.1.1)]
def dlS (s : Nat → Int32) (i j : Nat) : Nat → Int32 := swS (swS s (upN s i) (dnN s j)) (upN s j) (dnN s i)
theorem deal_ne {i j : Nat} (hn : n ≤ 20) (jo : Jo n s) (hi : i < 8) (hj : j < 8) (mi : made s i = true) (mj : made s j = true) (hl : ¬ s (8 * dnN s i) = s (8 * dnN s j)) : upN s i ≠ dnN s j ∧ upN s i ≠ upN s j ∧ dnN s i ≠ dnN s j ∧ dnN s i ≠ upN s j ∧ dnN s i ≠ upN s i := by
  obtain ⟨i1, i2, i3, i4, i5, i6⟩ := of_v hn jo hi mi
  obtain ⟨j1, j2, j3, j4, j5, j6⟩ := of_v hn jo hj mj
  refine ⟨fun e => hl ?_, fun e => hl ?_, fun e => hl ?_, fun e => hl ?_, i3⟩
  · rw [i6, e]
  · rw [i6, e, j6]
  · rw [e]
  · rw [e, j6]
theorem deals_s {i j : Nat} (h : RF n v fo ro ra vc os li s) (hd : DCp s (nI i) (nI j)) (hi : i < 8) (hj : j < 8) : ∃ fo1 fo2, Fi_trade fo ro os (nI i) (nI j) = some fo1 ∧ Fi_trade fo1 ro os (nI j) (nI i) = some fo2 ∧ RF n v fo2 ro ra vc os li (dlS s i j) ∧ Fi_dealGain fo ro os (nI i) (nI j) = some (tgS s i j + tgS s j i) ∧ Mo_deals (upA mo0 0 s) (nI i) (nI j) = some (tgS s i j + tgS s j i, upA mo0 0 (dlS s i j)) := by
  have hn := h.1.n20
  have jo := h.2.2.2.2.2.2.2.2.2.2.2.2.2.1
  have mi := hd.1.1.2
  have mj := hd.1.2.1.2
  have hl := hd.1.2.2
  have c1 := hd.2.1
  have c2 := hd.2.2
  rw [nI_clamp (by omega)] at mi mj
  rw [nI_clamp (show i < 2 ^ 31 by omega), nI_clamp (show j < 2 ^ 31 by omega)] at hl c1 c2
  obtain ⟨i1, i2, i3, i4, i5, i6⟩ := of_v hn jo hi mi
  obtain ⟨j1, j2, j3, j4, j5, j6⟩ := of_v hn jo hj mj
  obtain ⟨n1, n2, n3, n4, n5⟩ := deal_ne hn jo hi hj mi mj hl
  obtain ⟨fo1, p1, p2, p3⟩ := trade_s h hi hj mi mj c1 n1
  have sw := SW1.of (s := s) (f := upN s i) (g := dnN s j) (by omega) (by omega)
  obtain ⟨q1, q2⟩ := sw.ct hj hi (by omega) (by omega) (fun e => n2 e.symm) (fun e => j3 e.symm) n5 n3 c2
  obtain ⟨fo2, r1, r2, r3⟩ := trade_s p2 hj hi (by rw [sw.md hj]; exact mj) (by rw [sw.md hi]; exact mi) q1 (by rw [sw.up hj, sw.dn hi]; exact fun e => n4 e.symm)
  rw [sw.up hj, sw.dn hi] at r2 r3
  rw [q2] at r3
  refine ⟨fo1, fo2, p1, r1, r2, ?_, ?_⟩
  · unfold Fi_dealGain
    rw [Fi_tradeGain_s h hi hj mi mj c1, Fi_tradeGain_s h hj hi mj mi c2, bn1_r, bn1_r]
  · unfold Mo_deals
    rw [Mo_allCost_s hn (by rw [upA_0]; exact h.1.sn), bn1_r, Mo_ask2 hi, Mo_ask0 hj, bn1_r, bn1_r, upA_0, i5, j4, Mo_swaps_s (by omega) (by omega), bn1_r, upA_0, upA_A, Mo_ask2 hj, bn1_r, upA_0, Mo_ask0 hi, bn1_r, upA_0, sw.hi (178 + 5 * j) (by omega) (by omega), sw.hi (176 + 5 * i) (by omega) (by omega), j5, i4, Mo_swaps_s (by omega) (by omega), bn1_r, upA_0, upA_A, Mo_allCost_s (mo := upA mo0 0 _) hn (by rw [upA_0]; exact r2.1.sn), bn1_r, upA_0]
    unfold dlS
    rw [← p3, ← r3]
    have : ∀ a b c : Int32, a - c = a - b + (b - c) := fun a b c => by grind
    rw [this (sm (fun f => coS s f) n) (sm (coS (swS s (upN s i) (dnN s j))) n)]
theorem Of_drop_t {i : Nat} (h : Ros os s) (hi : i < 8) (hm : made s i = true) : Of_drop os (nI i) = some (upm os 4 0 (nI (msk (made (upd s (180 + 5 * i) 0)) 8))) := Of_drop_s (mo := fun _ => s) h hi hm
theorem RF_drop1 {i : Nat} (h : RF n v fo ro ra vc os li s) (hi : i < 8) (hm : made s i = true) : ∃ os', Of_drop os (nI i) = some os' ∧ RF n v fo ro ra vc os' li (upd s (180 + 5 * i) 0) := ⟨_, Of_drop_t h.2.2.2.2.1 hi hm, RF_drop h hi (by rw [upm_0, pk_us]) (fun k hk => upm_n _ _ _ (by omega))⟩
theorem dl_md {i j k : Nat} (hn : n ≤ 20) (jo : Jo n s) (hi : i < 8) (hj : j < 8) (mi : made s i = true) (mj : made s j = true) (hk : k < 8) : made (dlS s i j) k = made s k := by
  obtain ⟨i1, i2, i3, i4, i5, i6⟩ := of_v hn jo hi mi
  obtain ⟨j1, j2, j3, j4, j5, j6⟩ := of_v hn jo hj mj
  unfold dlS made
  rw [sw_un (by omega), sw_un (by omega)]
theorem q_deal (h : RF n v fo ro ra vc os li (mo 0)) : ∃ r fo' os' s', St_deal fo ro os x y = some (r, fo', os') ∧ Mo_deal mo x y = some (r, upA mo 0 s') ∧ RF n v fo' ro ra vc os' li s' := by
  have hn := h.f.n20
  have jo := h.2.2.2.2.2.2.2.2.2.2.2.2.2.1
  unfold St_deal Mo_deal
  rw [Fi_canDeal_x h, Mo_canDeal_x hn jo, bn1_r, bn1_r, bI_z, bI_z]
  by_cases hd : DCp (mo 0) x y
  · rw [if_pos hd, if_pos hd]
    obtain ⟨i, hi, rfl⟩ := in0_of hd.1.1.1 (by omega)
    obtain ⟨j, hj, rfl⟩ := in0_of hd.1.2.1.1 (by omega)
    obtain ⟨fo1, fo2, p1, p2, p3, p4, p5⟩ := deals_s (mo0 := mo) h hd hi hj
    rw [upA_id] at p5
    have mi := hd.1.1.2
    have mj := hd.1.2.1.2
    have hl := hd.1.2.2
    rw [nI_clamp (by omega)] at mi mj
    rw [nI_clamp (show i < 2 ^ 31 by omega), nI_clamp (show j < 2 ^ 31 by omega)] at hl
    have ne : j ≠ i := fun e => hl (by rw [e])
    have md : ∀ k, k < 8 → made (dlS (mo 0) i j) k = made (mo 0) k := fun k hk => dl_md hn jo hi hj mi mj hk
    obtain ⟨os1, d1, d2⟩ := RF_drop1 p3 hi (by rw [md i hi]; exact mi)
    obtain ⟨os2, d3, d4⟩ := RF_drop1 d2 hj (by
      have := md j hj
      unfold made at this ⊢
      rw [pk_un (by omega), this]
      exact mj)
    rw [p4, bn1_r, p1, bn1_r, p2, bn1_r, d1, bn1_r, d3, bn1_r, p5, bn2_r, Mo_drop hi, Mo_drop hj, ckI_nI _ (by omega) (by omega), nI_clamp (by omega), stk_r, ckI_nI _ (by omega) (by omega), nI_clamp (by omega), stk_r, upm_A, upm_A]
    simp only [upA_0, upA_A]
    exact ⟨_, _, _, _, rfl, rfl, d4⟩
  · rw [if_neg hd, if_neg hd]
    exact ⟨_, fo, os, mo 0, rfl, by rw [upA_id], h⟩
end DE
