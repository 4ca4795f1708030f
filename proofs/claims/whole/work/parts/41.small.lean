/-! the reference's row, set; link, withdraw, flight -/
theorem upm_A (M : Mem) (k i : Nat) (w : Int32) : upm M k i w = upA M k (upd (M k) i w) := rfl
theorem upA_0 (M : Mem) (k : Nat) (g : Nat → Int32) : upA M k g k = g := if_pos rfl
theorem upA_n (M : Mem) {k k' : Nat} (g : Nat → Int32) (h : k' ≠ k) : upA M k g k' = M k' := if_neg h
theorem upA_A (M : Mem) (k : Nat) (g g' : Nat → Int32) : upA (upA M k g) k g' = upA M k g' := by
  funext k'
  unfold upA
  split <;> rfl
theorem upA_id (M : Mem) (k : Nat) : upA M k (M k) = M := by
  funext k'
  unfold upA
  split
  · rename_i e; rw [e]
  · rfl
section SM
variable {n v : Nat} {fo ro ra vc os li mo : Mem} {x y z : Int32}
theorem Mo_sets_s {f w : Nat} (h : 8 * f + w < 1452) : Mo_sets mo (nI f) (nI w) x = some (upA mo 0 (upd (mo 0) (8 * f + w) x)) := by
  unfold Mo_sets
  rw [show (8 : Int32) = nI 8 from rfl, pk_mul, nI_add, ckI_nI _ h (by omega), nI_clamp (by omega), stk_r]
  rfl
/-- a slot on the ground -/
def gvS (s : Nat → Int32) (f : Nat) (m : Int32) : Nat → Int32 := upd (upd (upd s (8 * f + 4) m) (8 * f + 5) (m - s (8 * f + 1))) (8 * f + 6) 0
theorem Mo_gives_s {f : Nat} (hf : f < 20) : Mo_gives mo (nI f) x = some (upA mo 0 (gvS (mo 0) f x)) := by
  unfold Mo_gives
  rw [show (4 : Int32) = nI 4 from rfl, show (5 : Int32) = nI 5 from rfl, show (6 : Int32) = nI 6 from rfl, Mo_sets_s (by omega), bn1_r, Mo_of_1 hf, bn1_r, Mo_sets_s (by omega), bn1_r, Mo_sets_s (by omega), bn1_r]
  rw [upA_0, upA_0, upA_A, upA_A, pk_un (by omega)]
  rfl
theorem gv_un {s : Nat → Int32} {f i : Nat} {m : Int32} (h : i ≠ 8 * f + 4 ∧ i ≠ 8 * f + 5 ∧ i ≠ 8 * f + 6) : gvS s f m i = s i := by
  unfold gvS
  rw [pk_un h.2.2, pk_un h.2.1, pk_un h.1]
theorem gv_4 {s : Nat → Int32} {f : Nat} {m : Int32} : gvS s f m (8 * f + 4) = m := by
  unfold gvS
  rw [pk_un (by omega), pk_un (by omega), pk_us]
theorem gv_5 {s : Nat → Int32} {f : Nat} {m : Int32} : gvS s f m (8 * f + 5) = m - s (8 * f + 1) := by
  unfold gvS
  rw [pk_un (by omega), pk_us]
theorem gv_6 {s : Nat → Int32} {f : Nat} {m : Int32} : gvS s f m (8 * f + 6) = 0 := by
  unfold gvS
  rw [pk_us]
/-! link -/
theorem Li_add_s {L : Nat} (hL : L < 12) (l3 : li 3 0 = nI L) : ∃ li', Li_add li x y z = some (nI L, li') ∧ li' 3 0 = nI (L + 1) ∧ li' 0 = upd (li 0) L x ∧ li' 1 = upd (li 1) L y ∧ li' 2 = upd (li 2) L z := by
  refine ⟨upm (upm (upm (upm li 0 L x) 1 L y) 2 L z) 3 0 (nI (L + 1)), ?_, ?_, ?_, ?_, ?_⟩
  · unfold Li_add
    simp (disch := omega) only [l3, L12, nI_lt0, nI_ltP, hL, stk_r, ckI_nI, nI_clamp, upm_n, upm_0, pk_us, nI_1, nI_pred, if_false, if_true, reduceIte]
  · rw [upm_0, pk_us]
  · rw [upm_n _ _ _ (by omega), upm_n _ _ _ (by omega), upm_n _ _ _ (by omega), upm_0]
  · rw [upm_n _ _ _ (by omega), upm_n _ _ _ (by omega), upm_0, upm_n _ _ _ (by omega)]
  · rw [upm_n _ _ _ (by omega), upm_0, upm_n _ _ _ (by omega), upm_n _ _ _ (by omega)]
theorem q_link (h : RF n v fo ro ra vc os li (mo 0)) : ∃ r li' s', St_link ro li x y z = some (r, li') ∧ Mo_link mo x y z = some (r, upA mo 0 s') ∧ RF n v fo ro ra vc os li' s' := by
  have hn := h.f.n20
  obtain ⟨hf, hr, hb, hv, ho, hl, jt, jf, jg, jp, jd, jv, jr, jo, jl⟩ := id h
  obtain ⟨L, hL, eL, hlk⟩ := id jl
  have same : ∀ (w : Int32), ∃ r li' s', some (w, li) = some (r, li') ∧ some (w, mo) = some (r, upA mo 0 s') ∧ RF n v fo ro ra vc os li' s' := fun w => ⟨w, li, mo 0, rfl, by rw [upA_id], h⟩
  unfold St_link Mo_link
  rw [Fi_isFlight_x hn hf.rn, Fi_isFlight_x hn hf.rn, Mo_isFlight_s hn hf.sn, Mo_isFlight_s hn hf.sn, show (300 : Int32) = nI 300 from rfl, Mo_in0 300 (by omega), n175, k175, eL]
  simp only [bn1_r, bI_z]
  by_cases hx : in0 x n
  · rw [if_pos hx, if_pos hx]
    by_cases hy : in0 y n
    · rw [if_pos hy, if_pos hy]
      by_cases hxy : x = y
      · rw [if_pos hxy, if_pos hxy]; exact same _
      · rw [if_neg hxy, if_neg hxy]
        by_cases hz : in0 z 301
        · obtain ⟨f, hfn, rfl⟩ := in0_of hx (by omega)
          obtain ⟨g, hgn, rfl⟩ := in0_of hy (by omega)
          obtain ⟨k, hk, rfl⟩ := in0_of hz (by omega)
          rw [if_pos hz, if_neg (nI_pos (by omega)), if_pos (nI_le (by omega) (by omega))]
          unfold Li_add
          have l3 : li 3 0 = nI L := hl.1.trans eL
          by_cases h12 : L = 12
          · subst h12
            rw [if_pos (show nI 12 = 12 from rfl), l3, if_neg (nI_pos (by omega)), if_neg (show ¬ nI 12 < 12 by decide), bn2_r]
            exact same _
          · have hL12 : L < 12 := by omega
            rw [if_neg (show ¬ nI L = 12 from fun z => h12 ((nI_eq (b := 12) (by omega) (by omega)).mp z)), l3, if_neg (nI_pos (by omega)), if_pos (show nI L < 12 from nI_lt (b := 12) hL12 (by omega))]
            rw [show (216 : Int32) + 3 * nI L = nI (216 + 3 * L) by rw [show (216 : Int32) = nI 216 from rfl, show (3 : Int32) = nI 3 from rfl, pk_mul, nI_add], show (2 : Int32) = nI 2 from rfl]
            have hL12' := hL12
            obtain ⟨li', e0, e3, e00, e1, e2⟩ := Li_add_s (x := nI f) (y := nI g) (z := nI k) hL12 l3
            unfold Li_add at e0
            rw [l3, if_neg (nI_pos (by omega)), if_pos (show nI L < 12 from nI_lt (b := 12) hL12 (by omega))] at e0
            rw [e0]
            simp (disch := omega) only [stk_r, nI_1, nI_add, ckI_nI, nI_clamp, upm_A, upA_0, upA_A, bn2_r, pk_un, eL, nI_pred, pk_us]
            refine ⟨_, _, _, rfl, rfl, ?_⟩
            have u : ∀ i, i < 175 ∨ (175 < i ∧ i < 216 + 3 * L) ∨ 216 + 3 * L + 2 < i → upd (upd (upd (upd (mo 0) (216 + 3 * L) (nI f)) (216 + 3 * L + 1) (nI g)) (216 + 3 * L + 2) (nI k)) 175 (nI (L + 1)) i = mo 0 i := fun i hi => by
              rw [pk_un (by omega), pk_un (by omega), pk_un (by omega), pk_un (by omega)]
            have u0 : upd (upd (upd (upd (mo 0) (216 + 3 * L) (nI f)) (216 + 3 * L + 1) (nI g)) (216 + 3 * L + 2) (nI k)) 175 (nI (L + 1)) (216 + 3 * L) = nI f := by
              rw [pk_un (by omega), pk_un (by omega), pk_un (by omega), pk_us]
            have u1 : upd (upd (upd (upd (mo 0) (216 + 3 * L) (nI f)) (216 + 3 * L + 1) (nI g)) (216 + 3 * L + 2) (nI k)) 175 (nI (L + 1)) (216 + 3 * L + 1) = nI g := by
              rw [pk_un (by omega), pk_un (by omega), pk_us]
            have u2 : upd (upd (upd (upd (mo 0) (216 + 3 * L) (nI f)) (216 + 3 * L + 1) (nI g)) (216 + 3 * L + 2) (nI k)) 175 (nI (L + 1)) (216 + 3 * L + 2) = nI k := by
              rw [pk_un (by omega), pk_us]
            have u5 : upd (upd (upd (upd (mo 0) (216 + 3 * L) (nI f)) (216 + 3 * L + 1) (nI g)) (216 + 3 * L + 2) (nI k)) 175 (nI (L + 1)) 175 = nI (L + 1) := pk_us
            generalize upd (upd (upd (upd (mo 0) (216 + 3 * L) (nI f)) (216 + 3 * L + 1) (nI g)) (216 + 3 * L + 2) (nI k)) 175 (nI (L + 1)) = s' at u u0 u1 u2 u5
            have a1 : ag (mo 0) s' 0 160 := fun i h1 h2 => u i (by omega)
            have a2 : ag (mo 0) s' 160 172 := fun i h1 h2 => u i (by omega)
            have a3 : ag (mo 0) s' 176 216 := fun i h1 h2 => u i (by omega)
            have a4 : ag (mo 0) s' 252 1452 := fun i h1 h2 => u i (by omega)
            refine ⟨hf.cg a1 (u _ (by omega)) (u _ (by omega)), hr.cg a2, hb.cg hn a1 (u _ (by omega)), hv.cg hn a1 a4, ho.cg a3, ⟨e3.trans u5.symm, fun L' i q1 q2 q3 => ?_⟩, jt.cg (u _ (by omega)) (u _ (by omega)), jf.cg hn a1, jg.cg hn a1, jp.cg hn a1 (u _ (by omega)), jd.cg hn a1, jv.cg hn a1 a4, jr.cg a2, jo.cg hn a1 a3, ⟨L + 1, by omega, u5, fun i hi => ?_⟩⟩
            · have eLL : L' = L + 1 := (nI_eq (by omega) (by omega)).mp (q1.symm.trans u5)
              subst eLL
              by_cases ei : i = L
              · subst ei
                rw [e00, e1, e2, pk_us, pk_us, pk_us, u0, u1, u2]; exact ⟨rfl, rfl, rfl⟩
              · rw [e00, e1, e2, pk_un ei, pk_un ei, pk_un ei, u _ (by omega), u _ (by omega), u _ (by omega)]
                exact hl.2 L i eL hL (by omega)
            · by_cases ei : i = L
              · subst ei
                exact ⟨f, g, k, hfn, hgn, by omega, u0, u1, u2⟩
              · rw [u _ (by omega), u _ (by omega), u _ (by omega)]
                exact hlk i (by omega)
        · rw [if_neg hz]
          refine ⟨-1, li, mo 0, ?_, by rw [upA_id], h⟩
          by_cases h0 : z < 0
          · rw [if_pos h0]
          · rw [if_neg h0, if_neg (fun q => hz ((in0_le (k := 300) (by omega)).mp ⟨h0, Int32.not_lt.mpr q⟩))]
    · rw [if_neg hy, if_neg hy]; exact same _
  · rw [if_neg hx, if_neg hx]; exact same _
end SM
