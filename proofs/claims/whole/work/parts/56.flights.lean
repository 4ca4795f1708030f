/-! schedule: flights, all -/
section SF
variable {n v E P Q p k most : Nat} {fo ro ra vc os li mo mo0 bs rd rof : Mem} {x y z w F g : Int32} {s s' t : Nat → Int32}
abbrev P1f (t : Nat → Int32) (E P : Nat) : Nat := sk t E P + 1
abbrev P2f (t : Nat → Int32) (E P : Nat) : Nat := sk t E (P1f t E P) + mN t E (sk t E (P1f t E P))
abbrev P3f (t : Nat → Int32) (E P : Nat) : Nat := sk t E (P2f t E P) + 1
abbrev P4f (t : Nat → Int32) (E P : Nat) : Nat := sk t E (P3f t E P) + mN t E (sk t E (P3f t E P))
abbrev G2f (t : Nat → Int32) (E P : Nat) : Int32 := ng 719 t E (sk t E (P1f t E P))
abbrev G3f (t : Nat → Int32) (E P : Nat) : Int32 := if pkN t E (sk t E (P2f t E P)) = 47 then 0 else fv 1 (sk t E (P2f t E P))
abbrev G4f (t : Nat → Int32) (E P : Nat) : Int32 := ng 300 t E (sk t E (P3f t E P))
def Gf (full : Bool) (t : Nat → Int32) (E P : Nat) (F : Int32) : Int32 := ff (ff (ff (ff (ff F (lg full t E P)) (G2f t E P)) (G3f t E P)) (G4f t E P)) (wg t E (P4f t E P))
theorem pl_b (hT : TB t E bs) (hP : P < 70000) : P1f t E P < 71000 ∧ P2f t E P < 72000 ∧ P3f t E P < 73000 ∧ P4f t E P < 74000 ∧ wp t E (P4f t E P) < 75000 ∧ P1f t E P ≤ max P E + 1 ∧ P2f t E P ≤ max P E + 4 ∧ P3f t E P ≤ max P E + 5 ∧ P4f t E P ≤ max P E + 8 ∧ wp t E (P4f t E P) ≤ max P E + 10 := by
  have h160 := hT.1
  have a1 := sk_le (t := t) (E := E) (P := P)
  have a2 := sk_le (t := t) (E := E) (P := P1f t E P)
  have m2 := (mN_p (t := t) (E := E) (Q := sk t E (P1f t E P))).1
  have a3 := sk_le (t := t) (E := E) (P := P2f t E P)
  have a4 := sk_le (t := t) (E := E) (P := P3f t E P)
  have m4 := (mN_p (t := t) (E := E) (Q := sk t E (P3f t E P))).1
  have a5 := sk_le (t := t) (E := E) (P := P4f t E P)
  have a6 := sk_le (t := t) (E := E) (P := sk t E (P4f t E P) + 1)
  have w5 : wp t E (P4f t E P) ≤ max (sk t E (P4f t E P)) (sk t E (sk t E (P4f t E P) + 1) + 1) := by
    unfold wp
    split <;> omega
  have j1 : P1f t E P = sk t E P + 1 := rfl
  have j2 : P2f t E P = sk t E (P1f t E P) + mN t E (sk t E (P1f t E P)) := rfl
  have j3 : P3f t E P = sk t E (P2f t E P) + 1 := rfl
  have j4 : P4f t E P = sk t E (P3f t E P) + mN t E (sk t E (P3f t E P)) := rfl
  refine ⟨?_, ?_, ?_, ?_, ?_, ?_, ?_, ?_, ?_, ?_⟩ <;> omega
theorem ff_ff (h : ff F g = 0) : F = 0 ∧ g = 0 := by
  unfold ff at h
  by_cases q : F = 0
  · rw [if_pos q] at h; exact ⟨q, h⟩
  · rw [if_neg q] at h; exact absurd h q
theorem Gf_0 {full : Bool} (h : Gf full t E P 0 = 0) : lg full t E P = 0 ∧ G2f t E P = 0 ∧ G3f t E P = 0 ∧ G4f t E P = 0 ∧ wg t E (P4f t E P) = 0 := by
  unfold Gf at h
  obtain ⟨h, e5⟩ := ff_ff h
  obtain ⟨h, e4⟩ := ff_ff h
  obtain ⟨h, e3⟩ := ff_ff h
  obtain ⟨h, e2⟩ := ff_ff h
  rw [ff_z] at h
  exact ⟨h, e2, e3, e4, e5⟩
/-- the class reads a flight -/
theorem cflight {full : Bool} (hT : TB t E bs) (hP : P < 70000) (h : RD rd E P F) (hf : Ro_isFull ro = some (bI (full = true))) : ∃ rd', RD rd' E (wp t E (P4f t E P)) (Gf full t E P F) ∧ Rd_readFlight rd bs ro = if Gf full t E P F = 0 then bn2 (Ro_add ro (pkN t E (sk t E P) - 97) (nI (nvl t E (sk t E (P1f t E P)) (mN t E (sk t E (P1f t E P))))) (nI (nvl t E (sk t E (P3f t E P)) (mN t E (sk t E (P3f t E P))))) (wv t E (P4f t E P))) (fun _ r => some (rd', r)) else some (rd', ro) := by
  obtain ⟨b1, b2, b3, b4, b5, -⟩ := pl_b hT hP
  have s2 := sk_le (t := t) (E := E) (P := P2f t E P)
  have h160 := hT.1
  have j1 : P1f t E P = sk t E P + 1 := rfl
  have j2 : P2f t E P = sk t E (P1f t E P) + mN t E (sk t E (P1f t E P)) := rfl
  have j3 : P3f t E P = sk t E (P2f t E P) + 1 := rfl
  have j4 : P4f t E P = sk t E (P3f t E P) + mN t E (sk t E (P3f t E P)) := rfl
  obtain ⟨r1, o1, o2⟩ := letter_s (full := full) hT (by omega) h
  replace o2 : RD r1 E (P1f t E P) (ff F (lg full t E P)) := o2
  obtain ⟨r2, p1, p2⟩ := num_s (P := P1f t E P) (most := 719) hT (by omega) (by omega) o2
  replace p2 : RD r2 E (P2f t E P) (ff (ff F (lg full t E P)) (G2f t E P)) := p2
  obtain ⟨r3, q1, q2⟩ := skip_s (P := P2f t E P) hT (by omega) p2
  obtain ⟨r4, u1, u2⟩ := expect_s (P := sk t E (P2f t E P)) (x := 47) hT (by omega) q2
  replace u2 : RD r4 E (P3f t E P) (ff (ff (ff F (lg full t E P)) (G2f t E P)) (G3f t E P)) := u2
  obtain ⟨r5, v1, v2⟩ := num_s (P := P3f t E P) (most := 300) hT (by omega) (by omega) u2
  replace v2 : RD r5 E (P4f t E P) (ff (ff (ff (ff F (lg full t E P)) (G2f t E P)) (G3f t E P)) (G4f t E P)) := v2
  obtain ⟨r6, w1, w2⟩ := weight_s (P := P4f t E P) hT (by omega) v2
  refine ⟨r6, w2, ?_⟩
  unfold Rd_readFlight
  rw [hf, bn1_r, o1, bn2_r, show (719 : Int32) = nI 719 from rfl, p1, bn2_r, q1, bn1_r, u1, bn1_r, show (300 : Int32) = nI 300 from rfl, v1, bn2_r, w1, bn2_r, w2.2.2]
  rfl
def MKr (mo mo' : Mem) (k : Nat) : Prop := mo' 0 = mo 0 ∧ mo' 1 = mo 1 ∧ mo' 2 = mo 2 ∧ mo' 3 = mo 3 ∧ mo' 21 = mo 21 ∧ ∀ j, j < 4 * k → mo' 8 j = mo 8 j
theorem MK.r (h : MK mo mo0) : MKr mo mo0 k := ⟨h.1, h.2.1, h.2.2.1, h.2.2.2.1, h.2.2.2.2.2, fun j _ => by rw [h.2.2.2.2.1]⟩
theorem MKr.tr {a b c : Mem} (h : MKr a b k) (h' : MKr b c k) : MKr a c k := ⟨h'.1.trans h.1, h'.2.1.trans h.2.1, h'.2.2.1.trans h.2.2.1, h'.2.2.2.1.trans h.2.2.2.1, h'.2.2.2.2.1.trans h.2.2.2.2.1, fun j hj => (h'.2.2.2.2.2 j hj).trans (h.2.2.2.2.2 j hj)⟩
theorem MKr.um {i : Nat} (h : 4 * k ≤ i) : MKr mo (upm mo 8 i w) k := ⟨upm_n _ _ _ (by omega), upm_n _ _ _ (by omega), upm_n _ _ _ (by omega), upm_n _ _ _ (by omega), upm_n _ _ _ (by omega), fun j hj => by rw [upm_0, pk_un (by omega)]⟩
theorem MD.u8 {i : Nat} (h : MD mo t E P F) : MD (upm mo 8 i w) t E P F := ⟨by rw [upm_n _ _ _ (by omega)]; exact h.1, by rw [upm_n _ _ _ (by omega)]; exact h.2.1, by rw [upm_n _ _ _ (by omega)]; exact h.2.2.1, by rw [upm_n _ _ _ (by omega)]; exact h.2.2.2⟩
/-- the reference reads a flight -/
theorem mflight (hT : TB t E bs) (hP : P < 70000) (hk : k ≤ 20) (h : MD mo t E P 0) : ∃ mo', Mo_readsFlight mo (nI k) = some mo' ∧ MKr mo mo' k ∧ ((¬ Gf (decide (k = 20)) t E P 0 = 0 ∧ ∃ P', MD mo' t E P' (Gf (decide (k = 20)) t E P 0)) ∨ (Gf (decide (k = 20)) t E P 0 = 0 ∧ MD mo' t E (wp t E (P4f t E P)) 0 ∧ mo' 8 (4 * k) = pkN t E (sk t E P) - 97 ∧ mo' 8 (4 * k + 1) = nI (nvl t E (sk t E (P1f t E P)) (mN t E (sk t E (P1f t E P)))) ∧ mo' 8 (4 * k + 2) = nI (nvl t E (sk t E (P3f t E P)) (mN t E (sk t E (P3f t E P)))) ∧ mo' 8 (4 * k + 3) = wv t E (P4f t E P))) := by
  obtain ⟨b1, b2, b3, b4, b5, -⟩ := pl_b hT hP
  have h160 := hT.1
  have c0 := sk_le (t := t) (E := E) (P := P)
  have c1 := sk_le (t := t) (E := E) (P := P1f t E P)
  have c2 := sk_le (t := t) (E := E) (P := P2f t E P)
  have c3 := sk_le (t := t) (E := E) (P := P3f t E P)
  have c4 := sk_le (t := t) (E := E) (P := P4f t E P)
  have c5 := sk_le (t := t) (E := E) (P := sk t E (P4f t E P) + 1)
  obtain ⟨m1, o1, o2, o3⟩ := see_s hT (by omega) h
  have j1 : P1f t E P = sk t E P + 1 := rfl
  have j2 : P2f t E P = sk t E (P1f t E P) + mN t E (sk t E (P1f t E P)) := rfl
  have j3 : P3f t E P = sk t E (P2f t E P) + 1 := rfl
  have j4 : P4f t E P = sk t E (P3f t E P) + mN t E (sk t E (P3f t E P)) := rfl
  have g1 : ∀ {q : Int32}, ¬ q = 0 → lg (decide (k = 20)) t E P = q → Gf (decide (k = 20)) t E P 0 = q := fun {q} hq e => by
    unfold Gf
    rw [e, ff_z, ff_n hq, ff_n hq, ff_n hq, ff_n hq]
  unfold Mo_readsFlight
  rw [o1, bn2_r, Mo_in_s, bn1_r, bI_z, o2.2.1]
  by_cases q1 : ¬ pkN t E (sk t E P) < 97 ∧ ¬ 101 < pkN t E (sk t E P)
  · have nq : ¬ (pkN t E (sk t E P) < 97 ∨ 101 < pkN t E (sk t E P)) := fun z => z.elim q1.1 q1.2
    rw [if_pos q1]
    by_cases q2 : k = 20
    · have lge : lg (decide (k = 20)) t E P = fv 3 (sk t E P) := by
        unfold lg
        rw [if_neg nq, if_pos (decide_eq_true q2)]
      have ne := fv_ne (c := 3) (P := sk t E P) (by omega) (by omega) (by omega)
      obtain ⟨m2, p1, p2, p3⟩ := wrong_s (c := 3) (Q := sk t E P) o2
      rw [if_pos (show nI k = 20 by rw [q2]; rfl), show (3 : Int32) = nI 3 from rfl, p1, bn2_r]
      exact ⟨m2, rfl, (o3.tr p3).r, Or.inl ⟨by rw [g1 ne lge]; exact ne, sk t E P, by rw [g1 ne lge]; exact p2⟩⟩
    · have lge : lg (decide (k = 20)) t E P = 0 := by
        unfold lg
        rw [if_neg nq, if_neg (fun z => q2 (of_decide_eq_true z))]
      have g2 : ∀ {q : Int32}, ¬ q = 0 → G2f t E P = q → Gf (decide (k = 20)) t E P 0 = q := fun {q} hq e => by
        unfold Gf
        rw [lge, ff_z, e, ff_z, ff_n hq, ff_n hq, ff_n hq]
      have i0 : (4 : Int32) * nI k = nI (4 * k) := by rw [show (4 : Int32) = nI 4 from rfl, pk_mul]
      rw [if_neg (show ¬ nI k = 20 from fun z => q2 ((nI_eq (b := 20) (by omega) (by omega)).mp z)), stk_r, i0, ckI_nI _ (by omega) (by omega), nI_clamp (by omega), stk_r, nI_1, show (719 : Int32) = nI 719 from rfl]
      have d1 : MD (upm (upm m1 4 0 (nI (sk t E P + 1))) 8 (4 * k) (pkN t E (sk t E P) - 97)) t E (P1f t E P) 0 := o2.pl.u8
      have e1 : MKr mo (upm (upm m1 4 0 (nI (sk t E P + 1))) 8 (4 * k) (pkN t E (sk t E P) - 97)) k := ((o3.tr (MK.um (by omega))).r).tr (MKr.um (by omega))
      have f1 : upm (upm m1 4 0 (nI (sk t E P + 1))) 8 (4 * k) (pkN t E (sk t E P) - 97) 8 (4 * k) = pkN t E (sk t E P) - 97 := by rw [upm_0, pk_us]
      generalize upm (upm m1 4 0 (nI (sk t E P + 1))) 8 (4 * k) (pkN t E (sk t E P) - 97) = m2 at *
      obtain ⟨m3, p1, p2, p3, p4⟩ := counts_s (P := P1f t E P) (most := 719) hT (by omega) (by omega) d1
      rw [p1, bn2_r]
      by_cases z2 : G2f t E P = 0
      · rw [if_pos z2, if_neg (by decide), nI_1, ckI_nI _ (by omega) (by omega), nI_clamp (by omega), stk_r, p3 z2]
        have g3 : ∀ {q : Int32}, ¬ q = 0 → G3f t E P = q → Gf (decide (k = 20)) t E P 0 = q := fun {q} hq e => by
          unfold Gf
          rw [lge, ff_z, z2, ff_z, e, ff_z, ff_n hq, ff_n hq]
        have d2 : MD (upm m3 8 (4 * k + 1) (nI (nvl t E (sk t E (P1f t E P)) (mN t E (sk t E (P1f t E P)))))) t E (P2f t E P) 0 := by
          have := p2.u8 (i := 4 * k + 1) (w := nI (nvl t E (sk t E (P1f t E P)) (mN t E (sk t E (P1f t E P)))))
          rw [show ng 719 t E (sk t E (P1f t E P)) = 0 from z2] at this
          exact this
        have e2 : MKr mo (upm m3 8 (4 * k + 1) (nI (nvl t E (sk t E (P1f t E P)) (mN t E (sk t E (P1f t E P)))))) k := (e1.tr p4.r).tr (MKr.um (by omega))
        have f2 : upm m3 8 (4 * k + 1) (nI (nvl t E (sk t E (P1f t E P)) (mN t E (sk t E (P1f t E P))))) 8 (4 * k) = pkN t E (sk t E P) - 97 ∧ upm m3 8 (4 * k + 1) (nI (nvl t E (sk t E (P1f t E P)) (mN t E (sk t E (P1f t E P))))) 8 (4 * k + 1) = nI (nvl t E (sk t E (P1f t E P)) (mN t E (sk t E (P1f t E P)))) := by
          rw [upm_0, pk_us, pk_un (by omega), p4.2.2.2.2.1]
          exact ⟨f1, rfl⟩
        generalize upm m3 8 (4 * k + 1) (nI (nvl t E (sk t E (P1f t E P)) (mN t E (sk t E (P1f t E P))))) = m4 at *
        rcases passes_s (P := P2f t E P) (x := 47) hT (by omega) d2 with ⟨z3, m5, u1, u2, u3⟩ | ⟨z3, m5, u1, u2, u3⟩
        · have z3' : G3f t E P = 0 := if_pos z3
          have g4 : ∀ {q : Int32}, ¬ q = 0 → G4f t E P = q → Gf (decide (k = 20)) t E P 0 = q := fun {q} hq e => by
            unfold Gf
            rw [lge, ff_z, z2, ff_z, z3', ff_z, e, ff_z, ff_n hq]
          rw [u1, bn2_r, if_neg (by decide), show (300 : Int32) = nI 300 from rfl]
          replace u2 : MD m5 t E (P3f t E P) 0 := u2
          obtain ⟨m6, v1, v2, v3, v4⟩ := counts_s (P := P3f t E P) (most := 300) hT (by omega) (by omega) u2
          rw [v1, bn2_r]
          by_cases z4 : G4f t E P = 0
          · have g5 : Gf (decide (k = 20)) t E P 0 = wg t E (P4f t E P) := by
              unfold Gf
              rw [lge, ff_z, z2, ff_z, z3', ff_z, z4, ff_z, ff_z]
            rw [if_pos z4, if_neg (by decide), show (2 : Int32) = nI 2 from rfl, show (3 : Int32) = nI 3 from rfl, nI_add, nI_add, ckI_nI _ (by omega) (by omega), nI_clamp (by omega), stk_r, ckI_nI _ (by omega) (by omega), nI_clamp (by omega), stk_r, v3 z4]
            have d3 : MD (upm (upm m6 8 (4 * k + 2) (nI (nvl t E (sk t E (P3f t E P)) (mN t E (sk t E (P3f t E P)))))) 8 (4 * k + 3) 1) t E (P4f t E P) 0 := by
              have := (v2.u8 (i := 4 * k + 2) (w := nI (nvl t E (sk t E (P3f t E P)) (mN t E (sk t E (P3f t E P)))))).u8 (i := 4 * k + 3) (w := 1)
              rw [show ng 300 t E (sk t E (P3f t E P)) = 0 from z4] at this
              exact this
            have e3 : MKr mo (upm (upm m6 8 (4 * k + 2) (nI (nvl t E (sk t E (P3f t E P)) (mN t E (sk t E (P3f t E P)))))) 8 (4 * k + 3) 1) k := (((e2.tr u3.r).tr v4.r).tr (MKr.um (by omega))).tr (MKr.um (by omega))
            have f3 : ∀ i, i < 3 → upm (upm m6 8 (4 * k + 2) (nI (nvl t E (sk t E (P3f t E P)) (mN t E (sk t E (P3f t E P)))))) 8 (4 * k + 3) 1 8 (4 * k + i) = if i = 2 then nI (nvl t E (sk t E (P3f t E P)) (mN t E (sk t E (P3f t E P)))) else m4 8 (4 * k + i) := fun i hi => by
              rw [upm_0, upm_0, pk_un (by omega)]
              by_cases e : i = 2
              · subst e; rw [pk_us, if_pos rfl]
              · rw [pk_un (by omega), if_neg e, v4.2.2.2.2.1, u3.2.2.2.2.1]
            have f33 : upm (upm m6 8 (4 * k + 2) (nI (nvl t E (sk t E (P3f t E P)) (mN t E (sk t E (P3f t E P)))))) 8 (4 * k + 3) 1 8 (4 * k + 3) = 1 := by rw [upm_0, pk_us]
            generalize upm (upm m6 8 (4 * k + 2) (nI (nvl t E (sk t E (P3f t E P)) (mN t E (sk t E (P3f t E P)))))) 8 (4 * k + 3) 1 = m7 at *
            have f30 := f3 0 (by omega)
            have f31 := f3 1 (by omega)
            have f32 := f3 2 (by omega)
            rw [if_neg (by omega)] at f30 f31
            rw [if_pos rfl] at f32
            rw [Nat.add_zero, f2.1] at f30
            rw [f2.2] at f31
            obtain ⟨m8, w1, w2, w3⟩ := see_s (P := P4f t E P) hT (by omega) d3
            rw [w1, bn2_r]
            by_cases z5 : pkN t E (sk t E (P4f t E P)) = 42
            · rw [if_pos z5, stk_r, w2.2.1, nI_1]
              obtain ⟨m9, y1, y2, y3, y4, y5⟩ := one_s (P := sk t E (P4f t E P) + 1) hT (by omega) (w2.pl (Q := sk t E (P4f t E P) + 1))
              have e9 : MKr mo m9 k := ((e3.tr w3.r).tr (MK.um (by omega)).r).tr y2.r
              have v8 : ∀ i, m9 8 i = m7 8 i := fun i => by rw [y2.2.2.2.2.1, upm_n _ _ _ (by omega), w3.2.2.2.2.1]
              have wg1 : wg t E (P4f t E P) = if dg (pkN t E (sk t E (sk t E (P4f t E P) + 1))) then (if pkN t E (sk t E (sk t E (P4f t E P) + 1)) = 48 then fv 2 (sk t E (sk t E (P4f t E P) + 1)) else 0) else fv 1 (sk t E (sk t E (P4f t E P) + 1)) := if_pos z5
              have wv1 : wv t E (P4f t E P) = pkN t E (sk t E (sk t E (P4f t E P) + 1)) - 48 := if_pos z5
              have wp1 : wp t E (P4f t E P) = sk t E (sk t E (P4f t E P) + 1) + 1 := if_pos z5
              rw [y1, bn2_r]
              by_cases dd : dg (pkN t E (sk t E (sk t E (P4f t E P) + 1)))
              · by_cases d48 : pkN t E (sk t E (sk t E (P4f t E P) + 1)) = 48
                · have nn : ¬ (dg (pkN t E (sk t E (sk t E (P4f t E P) + 1))) ∧ ¬ pkN t E (sk t E (sk t E (P4f t E P) + 1)) = 48) := fun z => z.2 d48
                  have ne := fv_ne (c := 2) (P := sk t E (sk t E (P4f t E P) + 1)) (by omega) (by omega) (by omega)
                  rw [if_neg nn, if_pos rfl]
                  rw [if_pos dd, if_pos d48] at wg1
                  exact ⟨m9, rfl, e9, Or.inl ⟨by rw [g5, wg1]; exact ne, _, by rw [g5, wg1]; exact y4 dd d48⟩⟩
                · have yy : dg (pkN t E (sk t E (sk t E (P4f t E P) + 1))) ∧ ¬ pkN t E (sk t E (sk t E (P4f t E P) + 1)) = 48 := ⟨dd, d48⟩
                  rw [if_pos yy, if_neg (by decide), stk_r, (y3 yy).2]
                  rw [if_pos dd, if_neg d48] at wg1
                  refine ⟨_, rfl, e9.tr (MKr.um (by omega)), Or.inr ⟨by rw [g5, wg1], by rw [wp1]; exact (y3 yy).1.u8, ?_, ?_, ?_, ?_⟩⟩
                  · rw [upm_0, pk_un (by omega), v8]; exact f30
                  · rw [upm_0, pk_un (by omega), v8]; exact f31
                  · rw [upm_0, pk_un (by omega), v8]; exact f32
                  · rw [upm_0, pk_us, wv1]
              · have nn : ¬ (dg (pkN t E (sk t E (sk t E (P4f t E P) + 1))) ∧ ¬ pkN t E (sk t E (sk t E (P4f t E P) + 1)) = 48) := fun z => dd z.1
                have ne := fv_ne (c := 1) (P := sk t E (sk t E (P4f t E P) + 1)) (by omega) (by omega) (by omega)
                rw [if_neg nn, if_pos rfl]
                rw [if_neg dd] at wg1
                exact ⟨m9, rfl, e9, Or.inl ⟨by rw [g5, wg1]; exact ne, _, by rw [g5, wg1]; exact y5 dd⟩⟩
            · rw [if_neg z5]
              have wg1 : wg t E (P4f t E P) = 0 := if_neg z5
              have wv1 : wv t E (P4f t E P) = 1 := if_neg z5
              have wp1 : wp t E (P4f t E P) = sk t E (P4f t E P) := if_neg z5
              have v8 : ∀ i, m8 8 i = m7 8 i := fun i => by rw [w3.2.2.2.2.1]
              exact ⟨m8, rfl, e3.tr w3.r, Or.inr ⟨by rw [g5, wg1], by rw [wp1]; exact w2, by rw [v8]; exact f30, by rw [v8]; exact f31, by rw [v8]; exact f32, by rw [v8, wv1]; exact f33⟩⟩
          · rw [if_neg z4, if_pos rfl]
            exact ⟨m6, rfl, (e2.tr u3.r).tr v4.r, Or.inl ⟨by rw [g4 z4 rfl]; exact z4, _, by rw [g4 z4 rfl]; exact v2⟩⟩
        · have z3' : G3f t E P = fv 1 (sk t E (P2f t E P)) := if_neg z3
          have ne := fv_ne (c := 1) (P := sk t E (P2f t E P)) (by omega) (by omega) (by omega)
          rw [u1, bn2_r, if_pos rfl]
          exact ⟨m5, rfl, e2.tr u3.r, Or.inl ⟨by rw [g3 ne z3']; exact ne, _, by rw [g3 ne z3']; exact u2⟩⟩
      · rw [if_neg z2, if_pos rfl]
        exact ⟨m3, rfl, e1.tr p4.r, Or.inl ⟨by rw [g2 z2 rfl]; exact z2, _, by rw [g2 z2 rfl]; exact p2⟩⟩
  · have nq : pkN t E (sk t E P) < 97 ∨ 101 < pkN t E (sk t E P) := by
      by_cases a : pkN t E (sk t E P) < 97
      · exact Or.inl a
      · by_cases b : 101 < pkN t E (sk t E P)
        · exact Or.inr b
        · exact absurd ⟨a, b⟩ q1
    have lge : lg (decide (k = 20)) t E P = fv 1 (sk t E P) := if_pos nq
    have ne := fv_ne (c := 1) (P := sk t E P) (by omega) (by omega) (by omega)
    obtain ⟨m2, p1, p2, p3⟩ := wrong_s (c := 1) (Q := sk t E P) o2
    rw [if_neg q1, show (1 : Int32) = nI 1 from rfl, p1, bn2_r]
    exact ⟨m2, rfl, (o3.tr p3).r, Or.inl ⟨by rw [g1 ne lge]; exact ne, sk t E P, by rw [g1 ne lge]; exact p2⟩⟩
/-- what a flight without a fault says -/
theorem fl_v1 {full : Bool} (hT : TB t E bs) (hP : P < 70000) (h : Gf full t E P 0 = 0) : ∃ a d, a < 5 ∧ nvl t E (sk t E (P1f t E P)) (mN t E (sk t E (P1f t E P))) < 720 ∧ nvl t E (sk t E (P3f t E P)) (mN t E (sk t E (P3f t E P))) ≤ 300 ∧ 1 ≤ d ∧ d ≤ 9 ∧ pkN t E (sk t E P) - 97 = nI a ∧ wv t E (P4f t E P) = nI d ∧ full = false := by
  obtain ⟨e1, e2, e3, e4, e5⟩ := Gf_0 h
  obtain ⟨b1, b2, b3, b4, b5, -⟩ := pl_b hT hP
  have h160 := hT.1
  have c0 := sk_le (t := t) (E := E) (P := P)
  have c1 := sk_le (t := t) (E := E) (P := P1f t E P)
  have c3 := sk_le (t := t) (E := E) (P := P3f t E P)
  have c4 := sk_le (t := t) (E := E) (P := P4f t E P)
  have c5 := sk_le (t := t) (E := E) (P := sk t E (P4f t E P) + 1)
  have j1 : P1f t E P = sk t E P + 1 := rfl
  have j2 : P2f t E P = sk t E (P1f t E P) + mN t E (sk t E (P1f t E P)) := rfl
  have j3 : P3f t E P = sk t E (P2f t E P) + 1 := rfl
  have j4 : P4f t E P = sk t E (P3f t E P) + mN t E (sk t E (P3f t E P)) := rfl
  have num : ∀ (most Q : Nat), Q < 90000 → ng most t E Q = 0 → nvl t E Q (mN t E Q) ≤ most := fun most Q hQ e => by
    have mp := (mN_p (t := t) (E := E) (Q := Q)).1
    unfold ng at e
    by_cases q1 : mN t E Q = 0 ∨ dg (pkN t E (Q + mN t E Q))
    · rw [if_pos q1] at e; exact absurd e (fv_ne (by omega) (by omega) (by omega))
    · rw [if_neg q1] at e
      by_cases q2 : most < nvl t E Q (mN t E Q)
      · rw [if_pos q2] at e; exact absurd e (fv_ne (by omega) (by omega) (by omega))
      · omega
  have n2 := num 719 _ (by omega) e2
  have n4 := num 300 _ (by omega) e4
  have let1 : ∃ a, a < 5 ∧ pkN t E (sk t E P) - 97 = nI a ∧ full = false := by
    unfold lg at e1
    by_cases q1 : pkN t E (sk t E P) < 97 ∨ 101 < pkN t E (sk t E P)
    · rw [if_pos q1] at e1; exact absurd e1 (fv_ne (by omega) (by omega) (by omega))
    · rw [if_neg q1] at e1
      have qf : full = false := by
        cases full with
        | false => rfl
        | true => rw [if_pos rfl] at e1; exact absurd e1 (fv_ne (by omega) (by omega) (by omega))
      have hE : sk t E P < E := Classical.byContradiction (fun q => q1 (Or.inl (by rw [pk_m q]; decide)))
      obtain ⟨j, hj, ej⟩ := (pk_bl hT hE).2.2.2
      rw [ej] at q1 ⊢
      have j1 : ¬ j < 97 := fun z => q1 (Or.inl (nI_lt (b := 97) z (by omega)))
      have j2 : ¬ 101 < j := fun z => q1 (Or.inr (nI_lt (a := 101) z (by omega)))
      exact ⟨j - 97, by omega, by rw [show (97 : Int32) = nI 97 from rfl, pk_sub (by omega)], qf⟩
  have we : ∃ d, 1 ≤ d ∧ d ≤ 9 ∧ wv t E (P4f t E P) = nI d := by
    unfold wg at e5
    unfold wv
    by_cases q1 : pkN t E (sk t E (P4f t E P)) = 42
    · rw [if_pos q1] at e5 ⊢
      by_cases q2 : dg (pkN t E (sk t E (sk t E (P4f t E P) + 1)))
      · rw [if_pos q2] at e5
        by_cases q3 : pkN t E (sk t E (sk t E (P4f t E P) + 1)) = 48
        · rw [if_pos q3] at e5; exact absurd e5 (fv_ne (by omega) (by omega) (by omega))
        · obtain ⟨c, k1, k2, -, k3⟩ := dg_c hT q2
          rw [k3] at q3 ⊢
          have : c ≠ 48 := fun z => q3 (by rw [z]; rfl)
          exact ⟨c - 48, by omega, by omega, by rw [show (48 : Int32) = nI 48 from rfl, pk_sub k1]⟩
      · rw [if_neg q2] at e5; exact absurd e5 (fv_ne (by omega) (by omega) (by omega))
    · rw [if_neg q1]; exact ⟨1, by omega, by omega, rfl⟩
  obtain ⟨a, a1, a2, a3⟩ := let1
  obtain ⟨d, d1, d2, d3⟩ := we
  exact ⟨a, d, a1, by omega, n4, d1, d2, a2, d3, a3⟩
theorem Ro_isFull_s (e : ro 4 0 = nI k) (hk : k ≤ 20) : Ro_isFull ro = some (bI (decide (k = 20) = true)) := by
  unfold Ro_isFull
  rw [e]
  by_cases q : k = 20
  · rw [if_neg (show ¬ nI k < 20 by rw [q]; decide), bI_t (decide_eq_true q)]
  · rw [if_pos (show nI k < 20 from nI_lt (b := 20) (by omega) (by omega)), bI_f (fun z => q (of_decide_eq_true z))]
/-- behind a fault -/
theorem read_F {N kk : Nat} (hT : TB t E bs) (hP : P < 70000) (hF : ¬ F = 0) (hk : k ≤ 21) (h : RD rd E P F) (e4 : rof 4 0 = nI kk) (hkk : kk ≤ 20) : ∃ rd', Rd_read_b23 bs x (N + 1) rd rof (nI k) = some (F, rd', rof) := by
  show ∃ rd', Rd_read_b23B bs x (Rd_read_b23 bs x N) rd rof (nI k) = some (F, rd', rof)
  unfold Rd_read_b23B
  by_cases q : 20 < k
  · rw [if_pos (show 20 < nI k from nI_lt (a := 20) q (by omega)), h.2.2]
    exact ⟨rd, rfl⟩
  · obtain ⟨b1, b2, b3, b4, b5, -⟩ := pl_b hT hP
    obtain ⟨r1, o1, o2⟩ := cflight hT hP h (Ro_isFull_s e4 hkk)
    have gF : Gf (decide (kk = 20)) t E P F = F := by
      unfold Gf
      rw [ff_n hF, ff_n hF, ff_n hF, ff_n hF, ff_n hF]
    rw [gF, if_neg hF] at o2
    rw [gF] at o1
    obtain ⟨r2, q1, q2⟩ := skip_s hT (by omega) o1
    rw [if_neg (show ¬ 20 < nI k from nI_nlt (a := 20) (by omega) (by omega)), o2, bn2_r, q1, bn1_r, q2.2.2, if_neg hF]
    exact ⟨r2, rfl⟩
def FLs (M : Nat) (rof mo : Mem) : Prop := ∀ j, j < M → ∃ a b c d, a < 5 ∧ b < 720 ∧ c ≤ 300 ∧ 1 ≤ d ∧ d ≤ 9 ∧ rof 0 j = nI a ∧ rof 1 j = nI b ∧ rof 2 j = nI c ∧ rof 3 j = nI d ∧ mo 8 (4 * j) = nI a ∧ mo 8 (4 * j + 1) = nI b ∧ mo 8 (4 * j + 2) = nI c ∧ mo 8 (4 * j + 3) = nI d
def MK0 (mo mo' : Mem) : Prop := mo' 0 = mo 0 ∧ mo' 1 = mo 1 ∧ mo' 2 = mo 2 ∧ mo' 3 = mo 3 ∧ mo' 21 = mo 21
theorem MKr.b (h : MKr mo mo0 k) : MK0 mo mo0 := ⟨h.1, h.2.1, h.2.2.1, h.2.2.2.1, h.2.2.2.2.1⟩
theorem MK0.tr {a b c : Mem} (h : MK0 a b) (h' : MK0 b c) : MK0 a c := ⟨h'.1.trans h.1, h'.2.1.trans h.2.1, h'.2.2.1.trans h.2.2.1, h'.2.2.2.1.trans h.2.2.2.1, h'.2.2.2.2.trans h.2.2.2.2⟩
theorem read_l (hT : TB t E bs) : ∀ (r k P N N' : Nat) (rd rof mo : Mem), k + r = 20 → P ≤ 160 + 12 * k → r + 2 < N → r + 2 < N' → RD rd E P 0 → MD mo t E P 0 → rof 4 0 = nI k → FLs k rof mo → (∃ F rd' rof' mo', ¬ F = 0 ∧ Rd_read_b23 bs x N rd rof (nI k) = some (F, rd', rof') ∧ Mo_schedule_b45 x N' mo (nI k) 1 = some (F, mo') ∧ MK0 mo mo') ∨ (∃ M rd' rof' mo', M ≤ 20 ∧ Rd_read_b23 bs x N rd rof (nI k) = some (0, rd', rof') ∧ rof' 4 0 = nI M ∧ FLs M rof' mo' ∧ Mo_schedule_b45 x N' mo (nI k) 1 = bn1 (Mo_clears mo') (fun m => Mo_schedule_b110 x fl m (nI M) 0) ∧ MK0 mo mo') := by
  intro r
  induction r with
  | zero =>
    intro k P N N' rd rof mo hk hP hN hN' h h' e4 hfl
    have k20 : k = 20 := by omega
    obtain ⟨N, rfl⟩ : ∃ q, N = q + 1 := ⟨N - 1, by omega⟩
    obtain ⟨N', rfl⟩ : ∃ q, N' = q + 2 := ⟨N' - 2, by omega⟩
    obtain ⟨b1, b2, b3, b4, b5, -⟩ := pl_b hT (show P < 70000 by omega)
    obtain ⟨r1, o1, o2⟩ := cflight hT (by omega) h (Ro_isFull_s e4 (by omega))
    obtain ⟨m1, p1, p2, p3⟩ := mflight hT (by omega) (show k ≤ 20 by omega) h'
    have nz : ¬ Gf (decide (k = 20)) t E P 0 = 0 := fun z => by
      obtain ⟨-, -, -, -, -, -, -, -, -, q⟩ := fl_v1 hT (by omega) z
      rw [decide_eq_true k20] at q
      exact Bool.noConfusion q
    obtain ⟨-, P', q2⟩ := p3.resolve_right (fun z => nz z.1)
    rw [if_neg nz] at o2
    obtain ⟨r2, s1, s2⟩ := skip_s hT (by omega) o1
    refine Or.inl ⟨Gf (decide (k = 20)) t E P 0, r2, rof, m1, nz, ?_, ?_, p2.b⟩
    · show Rd_read_b23B bs x (Rd_read_b23 bs x N) rd rof (nI k) = _
      unfold Rd_read_b23B
      rw [if_neg (show ¬ 20 < nI k from nI_nlt (a := 20) (by omega) (by omega)), o2, bn2_r, s1, bn1_r, s2.2.2, if_neg nz]
    · show Mo_schedule_b45B x (Mo_schedule_b45B x (Mo_schedule_b45 x N')) mo (nI k) 1 = _
      unfold Mo_schedule_b45B
      rw [if_neg (by decide), p1, bn1_r, stk_r, q2.2.2.1, if_neg nz, if_pos rfl, if_neg nz]
  | succ r ih =>
    intro k P N N' rd rof mo hk hP hN hN' h h' e4 hfl
    obtain ⟨N, rfl⟩ : ∃ q, N = q + 2 := ⟨N - 2, by omega⟩
    obtain ⟨N', rfl⟩ : ∃ q, N' = q + 2 := ⟨N' - 2, by omega⟩
    have h160 := hT.1
    obtain ⟨b1, b2, b3, b4, b5, -, -, -, -, b10⟩ := pl_b hT (show P < 70000 by omega)
    obtain ⟨r1, o1, o2⟩ := cflight hT (by omega) h (Ro_isFull_s e4 (by omega))
    obtain ⟨m1, p1, p2, p3⟩ := mflight hT (by omega) (show k ≤ 20 by omega) h'
    obtain ⟨r2, s1, s2⟩ := skip_s hT (by omega) o1
    rcases p3 with ⟨nz, P', q2⟩ | ⟨z, q2, q3, q4, q5, q6⟩
    · rw [if_neg nz] at o2
      refine Or.inl ⟨Gf (decide (k = 20)) t E P 0, r2, rof, m1, nz, ?_, ?_, p2.b⟩
      · show Rd_read_b23B bs x (Rd_read_b23 bs x (N + 1)) rd rof (nI k) = _
        unfold Rd_read_b23B
        rw [if_neg (show ¬ 20 < nI k from nI_nlt (a := 20) (by omega) (by omega)), o2, bn2_r, s1, bn1_r, s2.2.2, if_neg nz]
      · show Mo_schedule_b45B x (Mo_schedule_b45B x (Mo_schedule_b45 x N')) mo (nI k) 1 = _
        unfold Mo_schedule_b45B
        rw [if_neg (by decide), p1, bn1_r, stk_r, q2.2.2.1, if_neg nz, if_pos rfl, if_neg nz]
    · obtain ⟨a, d, v1, v2, v3, v4, v5, v6, v7, v8⟩ := fl_v1 hT (by omega) z
      rw [if_pos z, v6, v7] at o2
      rw [v6] at q3
      rw [v7] at q6
      obtain ⟨rof', t0, t4, t5, t6, t7, t8⟩ := Ro_add_s (x := nI a) (y := nI (nvl t E (sk t E (P1f t E P)) (mN t E (sk t E (P1f t E P))))) (z := nI (nvl t E (sk t E (P3f t E P)) (mN t E (sk t E (P3f t E P))))) (w := nI d) (show k < 20 by omega) e4
      rw [t0, bn2_r] at o2
      rw [z] at s2
      have hfl' : ∀ m : Mem, (∀ j, m 8 j = m1 8 j) → FLs (k + 1) rof' m := fun m em j hj => by
        rw [t5, t6, t7, t8, em, em, em, em]
        by_cases e : j = k
        · subst e
          rw [pk_us, pk_us, pk_us, pk_us]
          exact ⟨a, _, _, d, v1, v2, v3, v4, v5, rfl, rfl, rfl, rfl, q3, q4, q5, q6⟩
        · rw [pk_un e, pk_un e, pk_un e, pk_un e, p2.2.2.2.2.2 (4 * j) (by omega), p2.2.2.2.2.2 (4 * j + 1) (by omega), p2.2.2.2.2.2 (4 * j + 2) (by omega), p2.2.2.2.2.2 (4 * j + 3) (by omega)]
          exact hfl j (by omega)
      obtain ⟨m2, y1, y2, y3⟩ := see_s hT (show wp t E (P4f t E P) < 90000 by omega) q2
      have k2 : MK0 mo m2 := p2.b.tr ((y3.r (k := 0)).b)
      have c5 := sk_le (t := t) (E := E) (P := wp t E (P4f t E P))
      have st : ∀ K, Rd_read_b23B bs x K rd rof (nI k) = if sk t E (wp t E (P4f t E P)) < E then bn1 (Rd_expect r2 bs 59) (fun rr => K rr rof' (nI (k + 1))) else some (0, r2, rof') := fun K => by
        unfold Rd_read_b23B
        rw [if_neg (show ¬ 20 < nI k from nI_nlt (a := 20) (by omega) (by omega)), o2, bn2_r, s1, bn1_r, s2.2.2, if_pos rfl, s2.1, s2.2.1]
        simp only [stk_r, nI_1, nI_ltP (show sk t E (wp t E (P4f t E P)) < 2 ^ 31 by omega) (show E < 2 ^ 31 by omega)]
      have sm' : ∀ K, Mo_schedule_b45B x K mo (nI k) 1 = if pkN t E (sk t E (wp t E (P4f t E P))) = -1 then K m2 (nI (k + 1)) 0 else bn2 (Mo_passes m2 59) (fun rr m => if rr = 0 then K m (nI (k + 1)) 0 else K m (nI (k + 1)) 1) := fun K => by
        unfold Mo_schedule_b45B
        rw [if_neg (by decide), p1, bn1_r, stk_r, q2.2.2.1, if_pos rfl, y1, bn2_r, nI_1]
      show (∃ F rd' rof' mo', ¬ F = 0 ∧ Rd_read_b23B bs x (Rd_read_b23 bs x (N + 1)) rd rof (nI k) = some (F, rd', rof') ∧ Mo_schedule_b45B x (Mo_schedule_b45 x (N' + 1)) mo (nI k) 1 = some (F, mo') ∧ MK0 mo mo') ∨ (∃ M rd' rof' mo', M ≤ 20 ∧ Rd_read_b23B bs x (Rd_read_b23 bs x (N + 1)) rd rof (nI k) = some (0, rd', rof') ∧ rof' 4 0 = nI M ∧ FLs M rof' mo' ∧ Mo_schedule_b45B x (Mo_schedule_b45 x (N' + 1)) mo (nI k) 1 = bn1 (Mo_clears mo') (fun m => Mo_schedule_b110 x fl m (nI M) 0) ∧ MK0 mo mo')
      rw [st, sm']
      by_cases qE : sk t E (wp t E (P4f t E P)) < E
      · obtain ⟨jj, hjj, ejj⟩ := (pk_bl hT qE).2.2.2
        have nm : ¬ pkN t E (sk t E (wp t E (P4f t E P))) = -1 := fun e => by rw [ejj, nI_eqm (by omega)] at e; exact e
        rw [if_pos qE, if_neg nm]
        obtain ⟨r3, u1, u2⟩ := expect_s (x := 59) hT (by omega) s2
        rw [u1, bn1_r]
        rcases passes_s (x := 59) hT (by omega) y2 with ⟨z3, m3, w1, w2, w3⟩ | ⟨z3, m3, w1, w2, w3⟩
        · rw [sk_sk] at z3 w2
          rw [if_pos z3, ff_z] at u2
          rw [w1, bn2_r, if_neg (by decide)]
          have k3 : MK0 mo m3 := k2.tr ((w3.r (k := 0)).b)
          have := ih (k + 1) (sk t E (wp t E (P4f t E P)) + 1) (N + 1) (N' + 1) r3 rof' m3 (by omega) (by omega) (by omega) (by omega) u2 w2 t4 (hfl' m3 (fun j => by rw [w3.2.2.2.2.1, y3.2.2.2.2.1]))
          rcases this with ⟨F, a1, a2, a3, a4, a5, a6, a7⟩ | ⟨M, a1, a2, a3, a4, a5, a6, a7, a8, a9⟩
          · exact Or.inl ⟨F, a1, a2, a3, a4, a5, a6, k3.tr a7⟩
          · exact Or.inr ⟨M, a1, a2, a3, a4, a5, a6, a7, a8, k3.tr a9⟩
        · rw [sk_sk] at z3 w2
          rw [if_neg z3, ff_z] at u2
          have ne := fv_ne (c := 1) (P := sk t E (wp t E (P4f t E P))) (by omega) (by omega) (by omega)
          obtain ⟨r4, x1⟩ := read_F (x := x) (N := N) hT (by omega) ne (show k + 1 ≤ 21 by omega) u2 t4 (by omega)
          rw [w1, bn2_r, if_pos rfl, x1]
          refine Or.inl ⟨_, r4, rof', m3, ne, rfl, ?_, k2.tr ((w3.r (k := 0)).b)⟩
          show Mo_schedule_b45B x (Mo_schedule_b45 x N') m3 (nI (k + 1)) 0 = _
          unfold Mo_schedule_b45B
          rw [if_pos rfl, w2.2.2.1, if_neg ne]
      · rw [if_neg qE, if_pos (pk_m qE)]
        refine Or.inr ⟨k + 1, r2, rof', m2, by omega, rfl, t4, hfl' m2 (fun j => by rw [y3.2.2.2.2.1]), ?_, k2⟩
        show Mo_schedule_b45B x (Mo_schedule_b45 x N') m2 (nI (k + 1)) 0 = _
        unfold Mo_schedule_b45B
        rw [if_pos rfl, y2.2.2.1, if_pos rfl]
theorem upd_id {f : Nat → Int32} {q : Nat} (e : f q = w) : upd f q w = f := by
  funext j
  by_cases h : j = q
  · subst h; rw [pk_us, e]
  · rw [pk_un h]
theorem adds_l {M : Nat} {fo1 vc1 os1 li1 : Mem} (hM : M ≤ 20) : ∀ (r j N : Nat) (mo : Mem), j + r = M → r < N → FLs M rof mo → RF j 0 fo1 (upm rof 4 0 (nI j)) ra vc1 os1 li1 (mo 0) → ∃ mo', Mo_schedule_b110 x N mo (nI M) (nI j) = some (nI M, mo') ∧ RF M 0 fo1 (upm rof 4 0 (nI M)) ra vc1 os1 li1 (mo' 0) ∧ mo' 1 = mo 1 ∧ mo' 2 = mo 2 ∧ mo' 3 = mo 3 ∧ mo' 21 = mo 21
  | 0, j, N + 1, mo, hj, _, hfl, hR => by
    have e : j = M := by omega
    subst e
    refine ⟨mo, ?_, hR, rfl, rfl, rfl, rfl⟩
    show Mo_schedule_b110B x (Mo_schedule_b110 x N) mo (nI j) (nI j) = _
    unfold Mo_schedule_b110B
    rw [if_pos (nI_le (Nat.le_refl _) (by omega))]
  | r + 1, j, N + 1, mo, hj, hN, hfl, hR => by
    obtain ⟨a, b, c, d, c1, c2, c3, c4, c5, r0, r1, r2, r3, m0, m1, m2, m3⟩ := hfl j (by omega)
    have i0 : (4 : Int32) * nI j = nI (4 * j) := by rw [show (4 : Int32) = nI 4 from rfl, pk_mul]
    have un : ∀ q, q ≠ 4 → upm rof 4 0 (nI (j + 1)) q = rof q := fun q hq => upm_n _ _ _ hq
    have un' : ∀ q, q ≠ 4 → upm rof 4 0 (nI j) q = rof q := fun q hq => upm_n _ _ _ hq
    have rA := RF_add (ro' := upm rof 4 0 (nI (j + 1))) hR (by omega) c1 c2 c3 ⟨c4, c5⟩ (by rw [upm_0, pk_us]) (by rw [un 0 (by omega), un' 0 (by omega), upd_id r0]) (by rw [un 1 (by omega), un' 1 (by omega), upd_id r1]) (by rw [un 2 (by omega), un' 2 (by omega), upd_id r2]) (by rw [un 3 (by omega), un' 3 (by omega), upd_id r3])
    have st : Mo_schedule_b110 x (N + 1) mo (nI M) (nI j) = Mo_schedule_b110 x N (upA mo 0 (adS (mo 0) j (nI a) (nI b) (nI c) (nI d))) (nI M) (nI (j + 1)) := by
      show Mo_schedule_b110B x (Mo_schedule_b110 x N) mo (nI M) (nI j) = _
      unfold Mo_schedule_b110B
      rw [if_neg (nI_ge (by omega) (by omega)), i0, show (2 : Int32) = nI 2 from rfl, show (3 : Int32) = nI 3 from rfl]
      simp only [nI_1, nI_add]
      rw [ckI_nI _ (by omega) (by omega), ckI_nI _ (by omega) (by omega), ckI_nI _ (by omega) (by omega), ckI_nI _ (by omega) (by omega), nI_clamp (by omega), nI_clamp (by omega), nI_clamp (by omega), nI_clamp (by omega), m0, m1, m2, m3, Mo_adds_s (by omega) hR.1.sn, bn1_r, stk_r]
    rw [st]
    obtain ⟨mo', o1, o2, o3, o4, o5, o6⟩ := adds_l hM r (j + 1) N (upA mo 0 (adS (mo 0) j (nI a) (nI b) (nI c) (nI d))) (by omega) (by omega) (fun q hq => by rw [upA_n _ _ (show (8 : Nat) ≠ 0 by omega)]; exact hfl q hq) (by rw [upA_0]; exact rA)
    exact ⟨mo', o1, o2, by rw [o3, upA_n _ _ (by omega)], by rw [o4, upA_n _ _ (by omega)], by rw [o5, upA_n _ _ (by omega)], by rw [o6, upA_n _ _ (by omega)]⟩
theorem q_schedule {bsa : Mem} (h : RF n v fo ro ra vc os li (mo 0)) (hT : RT bsa mo) : ∃ r bsa' rd' rof' fo' ro' vc' os' li' mo' n' v', St_schedule bsa rd rof fo ro vc os li x = some (r, bsa', rd', rof', fo', ro', vc', os', li') ∧ Mo_schedule mo x = some (r, mo') ∧ RF n' v' fo' ro' ra vc' os' li' (mo' 0) ∧ RT bsa' mo' ∧ mo' 1 = mo 1 ∧ mo' 21 = mo 21 := by
  have same : ∃ r bsa' rd' rof' fo' ro' vc' os' li' mo' n' v', some ((-1 : Int32), bsa, rd, rof, fo, ro, vc, os, li) = some (r, bsa', rd', rof', fo', ro', vc', os', li') ∧ some ((-1 : Int32), mo) = some (r, mo') ∧ RF n' v' fo' ro' ra vc' os' li' (mo' 0) ∧ RT bsa' mo' ∧ mo' 1 = mo 1 ∧ mo' 21 = mo 21 := ⟨_, _, _, _, _, _, _, _, _, mo, n, v, rfl, rfl, h, hT, rfl, rfl⟩
  obtain ⟨p, hp, t1, t2, t3⟩ := id hT
  unfold St_schedule Mo_schedule
  rw [Mo_in_s, bn1_r, bI_z, t1, t2]
  by_cases hx : ¬ x < 1 ∧ ¬ 160 < x
  · rw [if_pos hx, if_neg hx.1, if_neg hx.2]
    obtain ⟨E, hE, rfl⟩ := nI_of (x := x) (fun q => hx.1 (Int32.lt_trans q (by decide)))
    have hE160 : E ≤ 160 := Nat.le_of_not_lt (fun q => hx.2 (nI_lt (a := 160) q hE))
    by_cases hEp : E ≤ p
    · rw [if_pos (nI_le hEp (by omega)), if_pos (nI_le hEp (by omega))]
      have hTB : TB (mo 2) E bsa := ⟨hE160, ⟨p, hEp, hp, t1⟩, fun j hj => t3 j (by omega)⟩
      have m5 : MD (upm (upm (upm (upm mo 3 0 0) 5 0 (nI E)) 4 0 0) 6 0 0) (mo 2) E 0 0 := by
        refine ⟨?_, ?_, ?_, ?_⟩
        · rw [upm_n _ _ _ (by omega), upm_n _ _ _ (by omega), upm_0, pk_us]
        · rw [upm_n _ _ _ (by omega), upm_0, pk_us]; rfl
        · rw [upm_0, pk_us]
        · rw [upm_n _ _ _ (by omega), upm_n _ _ _ (by omega), upm_n _ _ _ (by omega), upm_n _ _ _ (by omega)]
      have c0 : MK0 (upm mo 3 0 0) (upm (upm (upm (upm mo 3 0 0) 5 0 (nI E)) 4 0 0) 6 0 0) := by
        refine ⟨?_, ?_, ?_, ?_, ?_⟩ <;> rw [upm_n _ _ _ (by omega), upm_n _ _ _ (by omega), upm_n _ _ _ (by omega)]
      have r0 : RD (upm (upm (upm rd 0 0 (nI E)) 1 0 0) 2 0 0) E 0 0 := by
        refine ⟨?_, ?_, ?_⟩
        · rw [upm_n _ _ _ (by omega), upm_n _ _ _ (by omega), upm_0, pk_us]
        · rw [upm_n _ _ _ (by omega), upm_0, pk_us]; rfl
        · rw [upm_0, pk_us]
      have RTz : ∀ {b m : Mem}, m 3 0 = 0 → RT (upm b 1 0 0) m := fun {b m} e => ⟨0, by omega, by rw [upm_0, pk_us]; rfl, by rw [e]; rfl, fun j hj => by omega⟩
      have z3 : (upm mo 3 0 0) 3 0 = 0 := by rw [upm_0, pk_us]
      unfold Rd_read
      simp only [stk_r]
      have rl := read_l (x := nI E) hTB 20 0 0 fl fl _ (upm rof 4 0 0) _ (by omega) (by omega) (by rw [fl_v]; omega) (by rw [fl_v]; omega) r0 m5 (by rw [upm_0, pk_us]; rfl) (fun j hj => by omega)
      rw [show nI 0 = (0 : Int32) from rfl] at rl
      rcases rl with ⟨F, rd', rof', mo', a1, a2, a3, a4⟩ | ⟨M, rd', rof', mo', a1, a2, a3, a4, a5, a6⟩
      · rw [a2, bn3_r, a3, if_neg a1]
        have k := c0.tr a4
        refine ⟨F, _, rd', rof', fo, ro, vc, os, li, mo', n, v, rfl, rfl, ?_, RTz (by rw [k.2.2.2.1]; exact z3), ?_, ?_⟩
        · rw [k.1, upm_n _ _ _ (by omega)]; exact h
        · rw [k.2.1, upm_n _ _ _ (by omega)]
        · rw [k.2.2.2.2, upm_n _ _ _ (by omega)]
      · have k := c0.tr a6
        have h' : RF n v fo ro ra vc os li (mo' 0) := by rw [k.1, upm_n _ _ _ (by omega)]; exact h
        obtain ⟨fo1, d0, d1, d2, d3, d4⟩ := Fi_clearPlan_s (fo := fo) (vc := vc) (os := os)
        have hc := RF_clear h' d1 d2 d3 (rof := upm rof' 4 0 (nI 0)) (by rw [upm_0, pk_us]; rfl)
        obtain ⟨m2, b1, b2, b3, b4, b5, b6⟩ := adds_l (x := nI E) (rof := rof') a1 M 0 fl (upA mo' 0 (clS (mo' 0))) (by omega) (by rw [fl_v]; omega) (fun q hq => by rw [upA_n _ _ (show (8 : Nat) ≠ 0 by omega)]; exact a4 q hq) (by rw [upA_0]; exact hc)
        have e4 : upm rof' 4 0 (nI M) = rof' := by
          have : upm rof' 4 0 (nI M) = upA rof' 4 (upd (rof' 4) 0 (nI M)) := rfl
          rw [this, upd_id a3, upA_id]
        rw [e4] at b2
        obtain ⟨fo', ro', vc', os', li', e1, e2⟩ := takeRoster_s (ro := ro) d0 b2
        rw [show nI 0 = (0 : Int32) from rfl] at b1
        rw [a2, bn3_r, if_pos rfl, e1, bn5_r, a5, Mo_clears_s, bn1_r, b1, e2.1.rn]
        refine ⟨nI M, _, rd', rof', fo', ro', vc', os', li', m2, M, 0, rfl, rfl, e2, RTz ?_, ?_, ?_⟩
        · rw [b5, upA_n _ _ (by omega), k.2.2.2.1]; exact z3
        · rw [b3, upA_n _ _ (by omega), k.2.1, upm_n _ _ _ (by omega)]
        · rw [b6, upA_n _ _ (by omega), k.2.2.2.2, upm_n _ _ _ (by omega)]
    · rw [if_neg (nI_ge (by omega) (by omega)), if_neg (nI_ge (by omega) (by omega))]; exact same
  · rw [if_neg hx]
    by_cases h1 : x < 1
    · rw [if_pos h1]; exact same
    · rw [if_neg h1, if_pos (show 160 < x from Int32.not_le.mp (fun q => hx ⟨h1, Int32.not_lt.mpr q⟩))]; exact same
end SF
