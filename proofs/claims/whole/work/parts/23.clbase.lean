/-! the class's field against the reference's row: flights and plan -/
def Rf (n : Nat) (fo ro : Mem) (s : Nat → Int32) : Prop :=
  n ≤ 20 ∧ ro 4 0 = nI n ∧ s 173 = nI n ∧ fo 9 0 = s 172 ∧
  (∀ f, f < n → s (8 * f) = ro 0 f ∧ s (8 * f + 1) = ro 1 f ∧ s (8 * f + 2) = ro 2 f ∧ s (8 * f + 3) = ro 3 f) ∧
  (∀ f, f < n → (Pd s f ∧ fo 5 f = s (8 * f + 4) ∧ fo 6 f = s (8 * f + 5) ∧ fo 7 f = s (8 * f + 6)) ∨ (¬ Pd s f ∧ fo 5 f = -1 ∧ fo 6 f = 0 ∧ fo 7 f = 0)) ∧
  (∀ f, n ≤ f → f < 20 → fo 5 f = -1 ∧ fo 6 f = 0 ∧ fo 7 f = 0)
theorem neg1_lt : ((-1 : Int32)) < 0 := by decide
section CB
variable {fo ro : Mem} {s : Nat → Int32} {n f : Nat}
theorem Rf.n20 (h : Rf n fo ro s) : n ≤ 20 := h.1
theorem Rf.rn (h : Rf n fo ro s) : ro 4 0 = nI n := h.2.1
theorem Rf.sn (h : Rf n fo ro s) : s 173 = nI n := h.2.2.1
theorem Rf.ck (h : Rf n fo ro s) : fo 9 0 = s 172 := h.2.2.2.1
theorem Rf.ln (h : Rf n fo ro s) (hf : f < n) : ro 0 f = s (8 * f) := (h.2.2.2.2.1 f hf).1.symm
theorem Rf.et (h : Rf n fo ro s) (hf : f < n) : ro 1 f = s (8 * f + 1) := (h.2.2.2.2.1 f hf).2.1.symm
theorem Rf.tm (h : Rf n fo ro s) (hf : f < n) : ro 2 f = s (8 * f + 2) := (h.2.2.2.2.1 f hf).2.2.1.symm
theorem Rf.wt (h : Rf n fo ro s) (hf : f < n) : ro 3 f = s (8 * f + 3) := (h.2.2.2.2.1 f hf).2.2.2.symm
theorem Rf.pd (h : Rf n fo ro s) (hf : f < n) (hp : Pd s f) : fo 5 f = s (8 * f + 4) ∧ fo 6 f = s (8 * f + 5) ∧ fo 7 f = s (8 * f + 6) := by
  rcases h.2.2.2.2.2.1 f hf with z | z
  · exact z.2
  · exact absurd hp z.1
theorem Rf.np (h : Rf n fo ro s) (hf : f < 20) (hp : ¬ (f < n ∧ Pd s f)) : fo 5 f = -1 ∧ fo 6 f = 0 ∧ fo 7 f = 0 := by
  by_cases hn : f < n
  · rcases h.2.2.2.2.2.1 f hn with z | z
    · exact absurd ⟨hn, z.1⟩ hp
    · exact z.2
  · exact h.2.2.2.2.2.2 f (by omega) hf
theorem Fi_isFlight_s (h : Rf n fo ro s) (hf : f < 20) : Fi_isFlight ro (nI f) = some (bI (f < n)) := by
  unfold Fi_isFlight
  rw [h.rn, L20]
  have := h.n20
  simp (disch := omega) only [nI_ltP, nI_leP, nI_eqP, nI_lt0, nI_eqm, nI_add, nI_1, pk_mul, ckI_nI, nI_clamp, stk_r, bn1_r, bn2_r, bn3_r, bn4_r, bn5_r, bn6_r, bI_z, bI_ck, if_false]
  by_cases hn : f < n
  · rw [if_neg (by omega), if_neg (by omega), bI_t hn]
  · rw [if_pos (by omega), bI_f hn]
theorem Fi_isSeated_s (h : Rf n fo ro s) (hf : f < 20) : Fi_isSeated fo (nI f) = some (bI (f < n ∧ Pd s f)) := by
  unfold Fi_isSeated
  rw [L20]
  simp (disch := omega) only [nI_ltP, nI_leP, nI_eqP, nI_lt0, nI_eqm, nI_add, nI_1, pk_mul, ckI_nI, nI_clamp, stk_r, bn1_r, bn2_r, bn3_r, bn4_r, bn5_r, bn6_r, bI_z, bI_ck, if_false]
  rw [if_neg (by omega)]
  by_cases hp : f < n ∧ Pd s f
  · rw [bI_t hp, if_neg (fun e => ?_)]
    rw [(h.pd hp.1 hp.2).1] at e
    exact absurd hp.2.1 (by rw [e]; decide)
  · rw [bI_f hp, if_pos (h.np hf hp).1]
theorem Fi_goesOff_s (h : Rf n fo ro s) (hf : f < n) (hp : Pd s f) : Fi_goesOff fo ro (nI f) = some (goS s f) := by
  have := h.n20
  unfold Fi_goesOff
  rw [ckI_nI _ (by omega) (by omega), nI_clamp (by omega), h.et hf, h.tm hf, (h.pd hf hp).2.1]
theorem Fi_off_s (h : Rf n fo ro s) (hf : f < n) : Fi_off ro (nI f) = some (offS s f) := by
  have := h.n20
  unfold Fi_off
  rw [ckI_nI _ (by omega) (by omega), nI_clamp (by omega), h.et hf, h.tm hf]
theorem Fi_earliest_s (h : Rf n fo ro s) (hf : f < n) : Fi_earliest fo ro (nI f) = some (earS s f) := by
  have := h.n20
  unfold Fi_earliest
  rw [ckI_nI _ (by omega) (by omega), nI_clamp (by omega), h.et hf, h.tm hf, h.ck]
  rfl
theorem Fi_isAloft_s (h : Rf n fo ro s) (hf : f < 20) : Fi_isAloft fo ro (nI f) = some (bI (f < n ∧ Air s f)) := by
  unfold Fi_isAloft
  rw [Fi_isSeated_s h hf]
  simp only [bn1_r, bI_z]
  by_cases hp : f < n ∧ Pd s f
  · rw [if_pos hp, Fi_goesOff_s h hp.1 hp.2, bn1_r, h.ck]
    by_cases hq : goS s f ≤ s 172
    · rw [if_neg (Int32.not_lt.mpr hq), bI_t ⟨hp.1, hp.2, hq⟩]
    · rw [if_pos (Int32.not_le.mp hq), bI_f (fun z => hq z.2.2)]
  · rw [if_neg hp, bI_f (fun z => hp ⟨z.1, z.2.1⟩)]
theorem Fi_isGrounded_s (h : Rf n fo ro s) (hf : f < 20) : Fi_isGrounded fo ro (nI f) = some (bI (f < n ∧ Gnd s f)) := by
  unfold Fi_isGrounded
  rw [Fi_isSeated_s h hf]
  simp only [bn1_r, bI_z]
  by_cases hp : f < n ∧ Pd s f
  · rw [if_pos hp, Fi_goesOff_s h hp.1 hp.2, bn1_r, h.ck]
    by_cases hq : goS s f ≤ s 172
    · rw [if_pos hq, bI_f (fun z => z.2.2 hq)]
    · rw [if_neg hq, bI_t ⟨hp.1, hp.2, hq⟩]
  · rw [if_neg hp, bI_f (fun z => hp ⟨z.1, z.2.1⟩)]
theorem Fi_isOf_s (h : Rf n fo ro s) (hf : f < 20) (l : Int32) : Fi_isOf ro (nI f) l = some (bI (f < n ∧ s (8 * f) = l)) := by
  unfold Fi_isOf
  rw [Fi_isFlight_s h hf]
  simp only [bn1_r, bI_z]
  by_cases hn : f < n
  · rw [if_pos hn, ckI_nI _ (by omega) (by omega), nI_clamp (by omega), h.ln hn]
    by_cases hq : s (8 * f) = l
    · rw [if_pos hq, bI_t ⟨hn, hq⟩]
    · rw [if_neg hq, bI_f (fun z => hq z.2)]
  · rw [if_neg hn, bI_f (fun z => hn z.1)]
theorem Fi_waitOf_s (h : Rf n fo ro s) (hf : f < 20) : Fi_waitOf fo (nI f) = some (if f < n then waS s f else 0) := by
  unfold Fi_waitOf
  rw [ckI_nI _ (by omega) (by omega), nI_clamp (by omega)]
  by_cases hp : f < n ∧ Pd s f
  · rw [if_pos hp.1, (h.pd hp.1 hp.2).2.1, (h.pd hp.1 hp.2).2.2, waS, if_pos hp.2]
  · rw [(h.np hf hp).2.1, (h.np hf hp).2.2, waS]
    by_cases hn : f < n
    · rw [if_pos hn, if_neg (fun z => hp ⟨hn, z⟩)]; rfl
    · rw [if_neg hn]; rfl
theorem Fi_costOf_s (h : Rf n fo ro s) (hf : f < n) : Fi_costOf fo ro (nI f) = some (coS s f) := by
  have := h.n20
  unfold Fi_costOf
  rw [ckI_nI _ (by omega) (by omega), nI_clamp (by omega), h.wt hf]
  by_cases hp : Pd s f
  · rw [(h.pd hf hp).2.1, (h.pd hf hp).2.2, coS, if_pos hp]
  · have h0 := h.np (f := f) (by omega) (fun z => hp z.2)
    rw [h0.2.1, h0.2.2, coS, if_neg hp, show (0 : Int32) + 3 * 0 = 0 by decide, Int32.mul_zero]
theorem Ro_has_s (h : Rf n fo ro s) (hf : f < 20) : Ro_has ro (nI f) = some (bI (f < n)) := Fi_isFlight_s h hf
theorem Ro_sameLine_s {g : Nat} (h : Rf n fo ro s) (hf : f < 20) (hg : g < 20) : Ro_sameLine ro (nI f) (nI g) = some (bI (f < n ∧ g < n ∧ s (8 * f) = s (8 * g))) := by
  unfold Ro_sameLine
  rw [Ro_has_s h hf, Ro_has_s h hg]
  simp only [bn1_r, bI_z]
  by_cases h1 : f < n
  · by_cases h2 : g < n
    · rw [if_pos h1, if_pos h2, ckI_nI _ (by omega) (by omega), ckI_nI _ (by omega) (by omega), nI_clamp (by omega), nI_clamp (by omega), h.ln h1, h.ln h2]
      by_cases hq : s (8 * f) = s (8 * g)
      · rw [if_pos hq, bI_t ⟨h1, h2, hq⟩]
      · rw [if_neg hq, bI_f (fun z => hq z.2.2)]
    · rw [if_pos h1, if_neg h2, bI_f (fun z => h2 z.2.1)]
  · rw [if_neg h1, bI_f (fun z => h1 z.1)]
end CB
