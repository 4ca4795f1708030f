/-! worlds in pieces -/
section FM
variable {D : va_G} {A : Nat → Prop} {a b wc w1 ws ws' x y : va_W} {H H1 : Heap}
theorem P_mem : va_P D vwCl ws H ↔ ∀ q, q ∈ ws → va_at D vwCl q H := ⟨fun h q hq => by
  obtain ⟨i, hi, e⟩ := List.getElem_of_mem hq
  exact h i q (by rw [List.getElem?_eq_getElem hi, e]), fun h k q hk => h q (List.mem_of_getElem? hk)⟩
theorem D_nd : va_D A ws ↔ (ws.map Prod.fst).Nodup ∧ ∀ q, q ∈ ws → A q.1 := by
  constructor
  · intro h
    refine ⟨List.pairwise_iff_getElem.mpr (fun i j hi hj hij e => ?_), fun q hq => ?_⟩
    · rw [List.length_map] at hi hj
      rw [List.getElem_map, List.getElem_map] at e
      have := h.1 i j _ _ (List.getElem?_eq_getElem hi) (List.getElem?_eq_getElem hj) e
      omega
    · obtain ⟨i, hi, e⟩ := List.getElem_of_mem hq
      exact h.2 i q (by rw [List.getElem?_eq_getElem hi, e])
  · rintro ⟨h1, h2⟩
    refine ⟨fun i j p q hp hq e => ?_, fun k q hk => h2 q (List.mem_of_getElem? hk)⟩
    obtain ⟨hi, ei⟩ := List.getElem?_eq_some_iff.mp hp
    obtain ⟨hj, ej⟩ := List.getElem?_eq_some_iff.mp hq
    have pw := List.pairwise_iff_getElem.mp h1
    by_cases z : i < j
    · exact absurd (by rw [List.getElem_map, List.getElem_map, ei, ej]; exact e) (pw i j (by rw [List.length_map]; exact hi) (by rw [List.length_map]; exact hj) z)
    · by_cases z2 : j < i
      · exact absurd (by rw [List.getElem_map, List.getElem_map, ei, ej]; exact e.symm) (pw j i (by rw [List.length_map]; exact hj) (by rw [List.length_map]; exact hi) z2)
      · omega
theorem P_perm (h : ws.Perm ws') (hP : va_P D vwCl ws H) : va_P D vwCl ws' H := P_mem.mpr (fun q hq => P_mem.mp hP q (h.mem_iff.mpr hq))
theorem D_perm (h : ws.Perm ws') (hD : va_D A ws) : va_D A ws' := by
  obtain ⟨h1, h2⟩ := D_nd.mp hD
  exact D_nd.mpr ⟨(h.map Prod.fst).nodup_iff.mp h1, fun q hq => h2 q (h.mem_iff.mpr hq)⟩
theorem A_in {z q : Nat} (h : va_A wc z q) : (∃ e, (q, e) ∈ wc) ∨ z ≤ q := by
  rcases h with ⟨k, e, h⟩ | h
  · exact Or.inl ⟨e, List.mem_of_getElem? h⟩
  · exact Or.inr h
theorem A_of {z q : Nat} {e : va_E} (h : (q, e) ∈ wc) : va_A wc z q := by
  obtain ⟨i, hi, ee⟩ := List.getElem_of_mem h
  exact Or.inl ⟨i, e, by rw [List.getElem?_eq_getElem hi, ee]⟩
/-- a call's cells, others before and behind -/
theorem FrS_mid (hf : w1.map Prod.fst = wc.map Prod.fst) : FrS (a ++ (wc ++ b)) wc w1 (a ++ (w1 ++ b)) := by
  have sub : ∀ q, q ∈ wc → q ∈ a ++ (wc ++ b) := fun q h => by simp [h]
  refine ⟨fun D H h => P_mem.mpr (fun q hq => P_mem.mp h q (sub q hq)), fun A h => ?_, fun A z hD hA q h => ?_, fun D A H H1 hP hD hA hk hP1 hD1 => ?_⟩
  · obtain ⟨h1, h2⟩ := D_nd.mp h
    rw [List.map_append, List.map_append] at h1
    exact D_nd.mpr ⟨(List.nodup_append.mp (List.nodup_append.mp h1).2.1).1, fun q hq => h2 q (sub q hq)⟩
  · rcases A_in h with ⟨e, h⟩ | h
    · exact (D_nd.mp hD).2 _ (sub _ h)
    · exact hA q h
  · obtain ⟨n1, n2⟩ := D_nd.mp hD
    rw [List.map_append, List.map_append] at n1
    have na := List.nodup_append.mp n1
    have nb := List.nodup_append.mp na.2.1
    have kept : ∀ q, q ∈ a ++ (wc ++ b) → (∀ e, (q.1, e) ∉ wc) → va_at D vwCl q H1 := fun q hq hn => by
      have at0 := P_mem.mp hP q hq
      refine at0.kept (hk q.1 at0.lt (fun h => ?_))
      rcases A_in h with ⟨e, h⟩ | h
      · exact hn e h
      · exact absurd at0.lt (Nat.not_lt.mpr h)
    refine ⟨P_mem.mpr (fun q hq => ?_), D_nd.mpr ⟨?_, fun q hq => ?_⟩⟩
    · rcases List.mem_append.mp hq with h | h
      · refine kept q (by simp [h]) (fun e he => ?_)
        exact na.2.2 q.1 (List.mem_map.mpr ⟨q, h, rfl⟩) q.1 (List.mem_append.mpr (Or.inl (List.mem_map.mpr ⟨(q.1, e), he, rfl⟩))) rfl
      · rcases List.mem_append.mp h with h | h
        · exact P_mem.mp hP1 q h
        · refine kept q (by simp [h]) (fun e he => ?_)
          exact nb.2.2 q.1 (List.mem_map.mpr ⟨(q.1, e), he, rfl⟩) q.1 (List.mem_map.mpr ⟨q, h, rfl⟩) rfl
    · rw [List.map_append, List.map_append, hf]
      exact n1
    · rcases List.mem_append.mp hq with h | h
      · exact n2 q (by simp [h])
      · rcases List.mem_append.mp h with h | h
        · have : q.1 ∈ w1.map Prod.fst := List.mem_map.mpr ⟨q, h, rfl⟩
          rw [hf] at this
          obtain ⟨q', h1, h2⟩ := List.mem_map.mp this
          rw [← h2]
          exact n2 q' (sub q' h1)
        · exact n2 q (by simp [h])
/-- in another order -/
theorem FrS_perm {v v' : va_W} (h : FrS ws wc w1 v) (h1 : ws'.Perm ws) (h2 : v.Perm v') : FrS ws' wc w1 v' := by
  refine ⟨fun D H hP => h.1 D H (P_perm h1 hP), fun A hD => h.2.1 A (D_perm h1 hD), fun A z hD hA => h.2.2.1 A z (D_perm h1 hD) hA, fun D A H H1 hP hD hA hk hP1 hD1 => ?_⟩
  obtain ⟨a1, a2⟩ := h.2.2.2 D A H H1 (P_perm h1 hP) (D_perm h1 hD) hA hk hP1 hD1
  exact ⟨P_perm h2 a1, D_perm h2 a2⟩
theorem FrS_pre (hf : w1.map Prod.fst = wc.map Prod.fst) : FrS (wc ++ b) wc w1 (w1 ++ b) := FrS_mid (a := []) hf
theorem cat_add {α : Type} {g : Nat → List α} : ∀ (m k i : Nat), cat g i (m + k) = cat g i m ++ cat g (i + m) k
  | 0, k, i => by rw [Nat.zero_add]; rfl
  | m + 1, k, i => by
    rw [show m + 1 + k = (m + k) + 1 by omega]
    show g i ++ cat g (i + 1) (m + k) = (g i ++ cat g (i + 1) m) ++ cat g (i + (m + 1)) k
    rw [cat_add m k (i + 1), List.append_assoc, show i + (m + 1) = i + 1 + m by omega]
theorem cat_congr {α : Type} {g h : Nat → List α} : ∀ (r i : Nat), (∀ j, i ≤ j → j < i + r → g j = h j) → cat g i r = cat h i r
  | 0, _, _ => rfl
  | r + 1, i, e => by
    show g i ++ cat g (i + 1) r = h i ++ cat h (i + 1) r
    rw [e i (by omega) (by omega), cat_congr r (i + 1) (fun j h1 h2 => e j (by omega) (by omega))]
theorem cat_at {α : Type} {g : Nat → List α} {k P : Nat} (h : k < P) : cat g 0 P = cat g 0 k ++ (g k ++ cat g (k + 1) (P - (k + 1))) := by
  rw [show P = k + (P - k) by omega, cat_add, Nat.zero_add, show k + (P - k) - (k + 1) = P - k - 1 by omega]
  congr 1
  obtain ⟨r, hr⟩ : ∃ r, P - k = r + 1 := ⟨P - k - 1, by omega⟩
  rw [hr]
  rfl
end FM
