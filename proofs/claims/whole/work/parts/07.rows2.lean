/-! a call's frame where no address changes: the callee's cells are set in the caller's list -/
def setAll : List Nat → va_W → va_W → va_W
  | i :: is, x :: w1, ws => setAll is w1 (ws.set i x)
  | _, _, ws => ws
theorem setAll_at : ∀ (is : List Nat) (w1 ws : va_W), is.length = w1.length → ∀ (k : Nat) (q : Nat × va_E), (setAll is w1 ws)[k]? = some q → (∃ j : Nat, is[j]? = some k ∧ w1[j]? = some q) ∨ (k ∉ is ∧ ws[k]? = some q)
  | [], [], ws, _, k, q, h => Or.inr ⟨List.not_mem_nil, h⟩
  | i :: is, x :: w1, ws, hl, k, q, h => by
    have hl : is.length = w1.length := Nat.succ.inj hl
    rcases setAll_at is w1 (ws.set i x) hl k q h with ⟨j, h1, h2⟩ | ⟨h1, h2⟩
    · exact Or.inl ⟨j + 1, h1, h2⟩
    · by_cases hk : k = i
      · subst hk
        have hlt : k < (ws.set k x).length := (List.getElem?_eq_some_iff.mp h2).1
        rw [List.length_set] at hlt
        rw [List.getElem?_set_self hlt] at h2
        exact Or.inl ⟨0, rfl, h2⟩
      · rw [List.getElem?_set_ne (fun e => hk e.symm)] at h2
        exact Or.inr ⟨fun hm => (List.mem_cons.mp hm).elim hk h1, h2⟩
  | [], _ :: _, _, hl, _, _, _ => by cases hl
  | _ :: _, [], _, hl, _, _, _ => by cases hl
theorem FrS_set {ws wc w1 wn : va_W} (isC : List Nat) (f0 : va_nd isC = true) (f1 : isC.map (fun i => ws[i]?) = wc.map some) (f2 : w1.map Prod.fst = wc.map Prod.fst) (f3 : setAll isC w1 ws = wn) : FrS ws wc w1 wn := by
  subst f3
  have hlen : isC.length = wc.length := by have h := congrArg List.length f1; rw [List.length_map, List.length_map] at h; exact h
  have hlen2 : w1.length = wc.length := by have h := congrArg List.length f2; rw [List.length_map, List.length_map] at h; exact h
  have at1 : ∀ (j i : Nat), isC[j]? = some i → ∃ x, wc[j]? = some x ∧ ws[i]? = some x := by
    intro j i h
    have h1 : (isC.map (fun i => ws[i]?))[j]? = some (ws[i]?) := by rw [List.getElem?_map, h]; rfl
    rw [f1, List.getElem?_map] at h1
    cases hx : wc[j]? with
    | none => rw [hx] at h1; cases h1
    | some x => rw [hx] at h1; exact ⟨x, rfl, (Option.some.inj h1).symm⟩
  have at2 : ∀ (j : Nat) (x : Nat × va_E), wc[j]? = some x → ∃ i, isC[j]? = some i ∧ ws[i]? = some x := by
    intro j x h
    have h1 : (wc.map some)[j]? = some (some x) := by rw [List.getElem?_map, h]; rfl
    rw [← f1, List.getElem?_map] at h1
    cases hi : isC[j]? with
    | none => rw [hi] at h1; cases h1
    | some i => rw [hi] at h1; exact ⟨i, rfl, Option.some.inj h1⟩
  have adr : ∀ (j : Nat) (x y : Nat × va_E), wc[j]? = some x → w1[j]? = some y → x.1 = y.1 := by
    intro j x y hx hy
    have h1 : (w1.map Prod.fst)[j]? = some y.1 := by rw [List.getElem?_map, hy]; rfl
    rw [f2, List.getElem?_map, hx] at h1
    exact Option.some.inj h1
  have back : ∀ (k : Nat) (q : Nat × va_E), (setAll isC w1 ws)[k]? = some q → ∃ q', ws[k]? = some q' ∧ q'.1 = q.1 := by
    intro k q h
    rcases setAll_at isC w1 ws (by rw [hlen, hlen2]) k q h with ⟨j, h1, h2⟩ | ⟨-, h2⟩
    · obtain ⟨x, hx, hx2⟩ := at1 j k h1
      exact ⟨x, hx2, adr j x q hx h2⟩
    · exact ⟨q, h2, rfl⟩
  refine ⟨fun D H h k q hq => ?_, fun A h => ⟨fun i j p q hp hq hpq => ?_, fun k q hq => ?_⟩, fun A z hD hA q h => ?_, fun D A H H1 hP hD hA hk hP1 hD1 => ⟨fun k q hq => ?_, fun i j p q hp hq hpq => ?_, fun k q hq => ?_⟩⟩
  · obtain ⟨i, -, h2⟩ := at2 k q hq
    exact h i q h2
  · exact (h.sub isC f0 f1).1 i j p q hp hq hpq
  · obtain ⟨i', -, a2⟩ := at2 k q hq
    exact h.2 i' q a2
  · rcases h with ⟨k, e, h⟩ | h
    · obtain ⟨i', -, a2⟩ := at2 k (q, e) h
      exact hD.2 i' (q, e) a2
    · exact hA q h
  · rcases setAll_at isC w1 ws (by rw [hlen, hlen2]) k q hq with ⟨j, h1, h2⟩ | ⟨h1, h2⟩
    · exact hP1 j q h2
    · refine (hP k q h2).kept (hk q.1 (hP k q h2).lt (fun h => ?_))
      rcases h with ⟨k2, e, h⟩ | h
      · obtain ⟨i', a1, a2⟩ := at2 k2 (q.1, e) h
        have e2 := hD.1 k i' q (q.1, e) h2 a2 rfl
        subst e2
        exact h1 (List.mem_of_getElem? a1)
      · exact absurd (hP k q h2).lt (Nat.not_lt.mpr h)
  · obtain ⟨p', a1, a2⟩ := back i p hp
    obtain ⟨q', b1, b2⟩ := back j q hq
    exact hD.1 i j p' q' a1 b1 (by rw [a2, b2, hpq])
  · obtain ⟨q', b1, b2⟩ := back k q hq
    rw [← b2]
    exact hD.2 k q' b1
