/-! the reference's rows, one after the other -/
section RW
variable {K k c m : Nat} {mo : Mem} {x l : Int32} {tr mi er et wt p q : Nat → Nat} {st : ST}
def HS (K : Nat) (p : Nat → Nat) (mo : Mem) : Prop := ∀ i, i < K → mo 18 i = nI (p i)
theorem HS.sw {a b : Nat} (h : HS K p mo) (ha : a < K) (hb : b < K) : HS K (swp p a b) (upm (upm mo 18 a (mo 18 b)) 18 b (mo 18 a)) := fun i hi => by
  rw [upm_0, upm_0]
  unfold swp
  by_cases e : i = b
  · subst e; rw [pk_us, if_pos rfl]; exact h a ha
  · rw [pk_un e, if_neg e]
    by_cases e2 : i = a
    · subst e2; rw [pk_us, if_pos rfl]; exact h b hb
    · rw [pk_un e2, if_neg e2]; exact h i hi
theorem rv_l (hK : K ≤ 6) : ∀ (r lo hi N : Nat) (p : Nat → Nat) (mo : Mem), hi ≤ lo + 2 * r → hi < K → r < N → HS K p mo → ∃ mo', Mo_goesOn_b109 N mo (nI lo) (nI hi) = some (1, mo') ∧ HS K (rvN r p lo hi) mo' ∧ ∀ j, j ≠ 18 → mo' j = mo j
  | 0, lo, hi, N + 1, p, mo, h1, h2, _, h => by
    refine ⟨mo, ?_, h, fun _ _ => rfl⟩
    show Mo_goesOn_b109B (Mo_goesOn_b109 N) mo (nI lo) (nI hi) = _
    unfold Mo_goesOn_b109B
    by_cases lo31 : lo < 2 ^ 31
    · rw [if_pos (nI_le (by omega) lo31)]
    · exfalso; sorry
  | r + 1, lo, hi, N + 1, p, mo, h1, h2, hN, h => by
    sorry
end RW
