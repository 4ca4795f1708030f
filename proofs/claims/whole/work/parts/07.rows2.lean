/-! a call's frame where no address changes: the callee's cells stand anew in the caller's list, by a mask (none: kept; some j: the callee's j-th) -/
def pickAll : List (Option Nat) → va_W → va_W → List (Option (Nat × va_E))
  | none :: ms, x :: ws, w1 => some x :: pickAll ms ws w1
  | some j :: ms, _ :: ws, w1 => w1[j]? :: pickAll ms ws w1
  | _, _, _ => []
theorem pickAll_at : ∀ (ms : List (Option Nat)) (ws w1 : va_W) (k : Nat) (q : Nat × va_E), (pickAll ms ws w1)[k]? = some (some q) → (ms[k]? = some none ∧ ws[k]? = some q) ∨ (∃ j : Nat, w1[j]? = some q)
  | none :: ms, x :: ws, w1, 0, q, h => Or.inl ⟨rfl, Option.some.inj h⟩
  | none :: ms, x :: ws, w1, k + 1, q, h => pickAll_at ms ws w1 k q h
  | some j :: ms, _ :: ws, w1, 0, q, h => Or.inr ⟨j, Option.some.inj h⟩
  | some j :: ms, x :: ws, w1, k + 1, q, h => pickAll_at ms ws w1 k q h
  | [], _, _, _, _, h => by simp [pickAll] at h
  | none :: _, [], _, _, _, h => by simp [pickAll] at h
  | some _ :: _, [], _, _, _, h => by simp [pickAll] at h
theorem FrS_set {ws wc w1 wn : va_W} (isC : List Nat) (ms : List (Option Nat)) (f0 : (va_nd isC && isC.all (fun i => !(ms[i]? == some none))) = true) (f1 : isC.map (fun i => ws[i]?) = wc.map some) (f2 : wn.map Prod.fst = ws.map Prod.fst) (f3 : pickAll ms ws w1 = wn.map some) : FrS ws wc w1 wn := by
  simp only [Bool.and_eq_true] at f0
  obtain ⟨f0, f4⟩ := f0
  have at2 : ∀ (j : Nat) (x : Nat × va_E), wc[j]? = some x → ∃ i, isC[j]? = some i ∧ ws[i]? = some x := by
    intro j x h
    have h1 : (wc.map some)[j]? = some (some x) := by rw [List.getElem?_map, h]; rfl
    rw [← f1, List.getElem?_map] at h1
    cases hi : isC[j]? with
    | none => rw [hi] at h1; cases h1
    | some i => rw [hi] at h1; exact ⟨i, rfl, Option.some.inj h1⟩
  have back : ∀ (k : Nat) (q : Nat × va_E), wn[k]? = some q → ∃ q', ws[k]? = some q' ∧ q'.1 = q.1 := by
    intro k q h
    have h1 : (wn.map Prod.fst)[k]? = some q.1 := by rw [List.getElem?_map, h]; rfl
    rw [f2, List.getElem?_map] at h1
    cases hx : ws[k]? with
    | none => rw [hx] at h1; cases h1
    | some x => rw [hx] at h1; exact ⟨x, rfl, Option.some.inj h1⟩
  refine ⟨fun D H h k q hq => ?_, fun A h => h.sub isC f0 f1, fun A z hD hA q h => ?_, fun D A H H1 hP hD hA hk hP1 hD1 => ⟨fun k q hq => ?_, fun i j p q hp hq hpq => ?_, fun k q hq => ?_⟩⟩
  · obtain ⟨i, -, h2⟩ := at2 k q hq
    exact h i q h2
  · rcases h with ⟨k, e, h⟩ | h
    · obtain ⟨i', -, a2⟩ := at2 k (q, e) h
      exact hD.2 i' (q, e) a2
    · exact hA q h
  · have h1 : (wn.map some)[k]? = some (some q) := by rw [List.getElem?_map, hq]; rfl
    rw [← f3] at h1
    rcases pickAll_at ms ws w1 k q h1 with ⟨h1, h2⟩ | ⟨j, h2⟩
    · refine (hP k q h2).kept (hk q.1 (hP k q h2).lt (fun h => ?_))
      rcases h with ⟨k2, e, h⟩ | h
      · obtain ⟨i', a1, a2⟩ := at2 k2 (q.1, e) h
        have e2 := hD.1 k i' q (q.1, e) h2 a2 rfl
        subst e2
        have h9 := List.all_eq_true.mp f4 k (List.mem_of_getElem? a1)
        rw [h1] at h9
        simp at h9
      · exact absurd (hP k q h2).lt (Nat.not_lt.mpr h)
    · exact hP1 j q h2
  · obtain ⟨p', a1, a2⟩ := back i p hp
    obtain ⟨q', b1, b2⟩ := back j q hq
    exact hD.1 i j p' q' a1 b1 (by rw [a2, b2, hpq])
  · obtain ⟨q', b1, b2⟩ := back k q hq
    rw [← b2]
    exact hD.2 k q' b1
