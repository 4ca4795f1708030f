/-! rows of a few: all of them, one after the other -/
section PE
variable {α : Type}
def cat (g : Nat → List α) : Nat → Nat → List α
  | _, 0 => []
  | i, r + 1 => g i ++ cat g (i + 1) r
theorem cat_mem {g : Nat → List α} {y : α} : ∀ {r i : Nat}, y ∈ cat g i r ↔ ∃ x, i ≤ x ∧ x < i + r ∧ y ∈ g x
  | 0, i => by
    constructor
    · intro h; exact absurd h (by show ¬ y ∈ ([] : List α); simp)
    · rintro ⟨x, h1, h2, -⟩; omega
  | r + 1, i => by
    show y ∈ g i ++ cat g (i + 1) r ↔ _
    rw [List.mem_append, cat_mem]
    constructor
    · rintro (h | ⟨x, h1, h2, h3⟩)
      · exact ⟨i, Nat.le_refl _, by omega, h⟩
      · exact ⟨x, by omega, by omega, h3⟩
    · rintro ⟨x, h1, h2, h3⟩
      by_cases e : x = i
      · subst e; exact Or.inl h3
      · exact Or.inr ⟨x, by omega, by omega, h3⟩
def prm (K : Nat) : Nat → (Nat → Bool) → List (List Nat)
  | 0, _ => [[]]
  | m + 1, u => cat (fun x => if u x then [] else (prm K m (orD u x)).map (x :: ·)) 0 K
theorem prm_of {K : Nat} : ∀ {m : Nat} {u : Nat → Bool} {l : List Nat}, l ∈ prm K m u → l.length = m ∧ (∀ x, x ∈ l → x < K ∧ u x = false) ∧ l.Nodup
  | 0, u, l, h => by
    have : l = [] := by
      have h' : l ∈ [([] : List Nat)] := h
      simpa using h'
    subst this
    exact ⟨rfl, fun x hx => absurd hx (by simp), List.nodup_nil⟩
  | m + 1, u, l, h => by
    obtain ⟨x, -, h2, h3⟩ := cat_mem.mp (show l ∈ cat _ 0 K from h)
    have h3 : l ∈ (if u x then [] else (prm K m (orD u x)).map (x :: ·)) := h3
    cases q : u x with
    | true => rw [q, if_pos rfl] at h3; exact absurd h3 (by simp)
    | false =>
      rw [q, if_neg (by decide)] at h3
      obtain ⟨t, ht, e⟩ := List.mem_map.mp h3
      subst e
      obtain ⟨a1, a2, a3⟩ := prm_of ht
      have nu : ∀ y, y ∈ t → y < K ∧ u y = false ∧ y ≠ x := fun y hy => by
        obtain ⟨b1, b2⟩ := a2 y hy
        by_cases e : y = x
        · subst e; rw [orD_s] at b2; exact Bool.noConfusion b2
        · rw [orD_n e] at b2; exact ⟨b1, b2, e⟩
      refine ⟨by rw [List.length_cons, a1], fun y hy => ?_, ?_⟩
      · rcases List.mem_cons.mp hy with e | e
        · subst e; exact ⟨by omega, q⟩
        · exact ⟨(nu y e).1, (nu y e).2.1⟩
      · exact List.nodup_cons.mpr ⟨fun hx => (nu x hx).2.2 rfl, a3⟩
theorem prm_in {K : Nat} : ∀ {m : Nat} {u : Nat → Bool} {l : List Nat}, l.length = m → (∀ x, x ∈ l → x < K ∧ u x = false) → l.Nodup → l ∈ prm K m u
  | 0, u, [], _, _, _ => by show [] ∈ [([] : List Nat)]; simp
  | m + 1, u, x :: t, hl, hx, hn => by
    obtain ⟨n1, n2⟩ := List.nodup_cons.mp hn
    obtain ⟨b1, b2⟩ := hx x (by simp)
    refine cat_mem.mpr ⟨x, by omega, by omega, ?_⟩
    show x :: t ∈ (if u x then [] else (prm K m (orD u x)).map (x :: ·))
    rw [b2, if_neg (by decide)]
    refine List.mem_map.mpr ⟨t, prm_in (by simpa using hl) (fun y hy => ?_) n2, rfl⟩
    obtain ⟨c1, c2⟩ := hx y (by simp [hy])
    refine ⟨c1, ?_⟩
    rw [orD_n (fun e => n1 (by rw [← e]; exact hy))]
    exact c2
/-! what a row costs; the first of the least -/
def cst (w : Nat → Nat → Option Nat) : Nat → List Nat → Option Nat
  | _, [] => some 0
  | d, x :: r => match w d x with
    | none => none
    | some a => match cst w (d + 1) r with
      | none => none
      | some b => some (a + b)
theorem cst_app {w : Nat → Nat → Option Nat} : ∀ {l t : List Nat} {d : Nat}, cst w d (l ++ t) = match cst w d l with
    | none => none
    | some a => match cst w (d + l.length) t with
      | none => none
      | some b => some (a + b)
  | [], t, d => by
    show cst w d t = match cst w (d + 0) t with
      | none => none
      | some b => some (0 + b)
    rw [Nat.add_zero]
    cases cst w d t with
    | none => rfl
    | some b => show some b = some (0 + b); rw [Nat.zero_add]
  | x :: l, t, d => by
    show (match w d x with
      | none => none
      | some a => match cst w (d + 1) (l ++ t) with
        | none => none
        | some b => some (a + b)) = _
    rw [cst_app (l := l) (t := t) (d := d + 1), List.length_cons, show d + (l.length + 1) = d + 1 + l.length by omega]
    show _ = match (match w d x with
      | none => none
      | some a => match cst w (d + 1) l with
        | none => none
        | some b => some (a + b)) with
      | none => none
      | some a => match cst w (d + 1 + l.length) t with
        | none => none
        | some b => some (a + b)
    cases w d x with
    | none => rfl
    | some a =>
      cases cst w (d + 1) l with
      | none => rfl
      | some b =>
        cases cst w (d + 1 + l.length) t with
        | none => rfl
        | some c => show some (a + (b + c)) = some (a + b + c); rw [Nat.add_assoc]
abbrev ST := Option (Nat × List Nat)
def stp (w : Nat → Nat → Option Nat) (st : ST) (p : List Nat) : ST :=
  match cst w 0 p with
  | none => st
  | some c => match st with
    | none => some (c, p)
    | some (b, q) => if c < b then some (c, p) else some (b, q)
theorem fold_same {w : Nat → Nat → Option Nat} {st : ST} : ∀ {ps : List (List Nat)}, (∀ p, p ∈ ps → stp w st p = st) → ps.foldl (stp w) st = st
  | [], _ => rfl
  | p :: r, h => by
    show r.foldl (stp w) (stp w st p) = st
    rw [h p (by simp)]
    exact fold_same (fun q hq => h q (by simp [hq]))
/-- the least comes out of the rows -/
theorem fold_from {w : Nat → Nat → Option Nat} : ∀ {ps : List (List Nat)} {st : ST} {b : Nat} {q : List Nat}, ps.foldl (stp w) st = some (b, q) → (st = some (b, q)) ∨ (q ∈ ps ∧ cst w 0 q = some b)
  | [], st, b, q, h => Or.inl h
  | p :: r, st, b, q, h => by
    have h : r.foldl (stp w) (stp w st p) = some (b, q) := h
    rcases fold_from h with e | ⟨h1, h2⟩
    · unfold stp at e
      cases hc : cst w 0 p with
      | none => rw [hc] at e; exact Or.inl e
      | some c =>
        rw [hc] at e
        cases st with
        | none =>
          have e : some (c, p) = some (b, q) := e
          have e' := Option.some.inj e
          have e1 : c = b := congrArg Prod.fst e'
          have e2 : p = q := congrArg Prod.snd e'
          subst e1; subst e2
          exact Or.inr ⟨by simp, hc⟩
        | some z =>
          obtain ⟨z1, z2⟩ := z
          have e : (if c < z1 then some (c, p) else some (z1, z2)) = some (b, q) := e
          by_cases lt : c < z1
          · rw [if_pos lt] at e
            have e' := Option.some.inj e
            have e1 : c = b := congrArg Prod.fst e'
            have e2 : p = q := congrArg Prod.snd e'
            subst e1; subst e2
            exact Or.inr ⟨by simp, hc⟩
          · rw [if_neg lt] at e; exact Or.inl e
    · exact Or.inr ⟨by simp [h1], h2⟩
theorem stp_some {w : Nat → Nat → Option Nat} {st : ST} {p : List Nat} (h : st ≠ none) : stp w st p ≠ none := by
  unfold stp
  cases cst w 0 p with
  | none => exact h
  | some c =>
    cases st with
    | none => exact absurd rfl h
    | some z =>
      obtain ⟨z1, z2⟩ := z
      show (if c < z1 then some (c, p) else some (z1, z2)) ≠ none
      split <;> exact fun e => nomatch e
theorem fold_some {w : Nat → Nat → Option Nat} : ∀ {ps : List (List Nat)} {st : ST}, (st ≠ none ∨ ∃ p, p ∈ ps ∧ cst w 0 p ≠ none) → ps.foldl (stp w) st ≠ none
  | [], st, h => by
    rcases h with h | ⟨p, h, -⟩
    · exact h
    · exact absurd h (by simp)
  | p :: r, st, h => by
    show r.foldl (stp w) (stp w st p) ≠ none
    apply fold_some
    rcases h with h | ⟨q, h1, h2⟩
    · exact Or.inl (stp_some h)
    · rcases List.mem_cons.mp h1 with e | e
      · subst e
        left
        unfold stp
        cases hc : cst w 0 q with
        | none => exact absurd hc h2
        | some c =>
          cases st with
          | none => exact fun e => nomatch e
          | some z =>
            obtain ⟨z1, z2⟩ := z
            show (if c < z1 then some (c, q) else some (z1, z2)) ≠ none
            split <;> exact fun e => nomatch e
      · exact Or.inr ⟨q, e, h2⟩
/-! the next row -/
def fkN (p : Nat → Nat) : Nat → Option Nat
  | 0 => none
  | k + 1 => if p k ≤ p (k + 1) then some k else fkN p k
def fiN (p : Nat → Nat) (v : Nat) : Nat → Nat
  | 0 => 0
  | i + 1 => if v ≤ p (i + 1) then i + 1 else fiN p v i
def swp (p : Nat → Nat) (a b : Nat) : Nat → Nat := fun i => if i = b then p a else if i = a then p b else p i
def rvN : Nat → (Nat → Nat) → Nat → Nat → (Nat → Nat)
  | 0, p, _, _ => p
  | r + 1, p, lo, hi => if hi ≤ lo then p else rvN r (swp p lo hi) (lo + 1) (hi - 1)
def nxN (K : Nat) (p : Nat → Nat) : Option (Nat → Nat) := match fkN p (K - 1) with
  | none => none
  | some k => some (rvN 3 (swp p (fiN p (p k) (K - 1)) k) (k + 1) (K - 1))
def tb6 (l : List Nat) : Nat → Nat := fun i => l.getD i 0
def nxL (K : Nat) (l : List Nat) : Option (List Nat) := match nxN K (tb6 l) with
  | none => none
  | some q => some ((List.range K).map q)
def chn (K : Nat) : List (List Nat) → Bool
  | [] => false
  | [a] => (nxL K a).isNone
  | a :: b :: r => (nxL K a == some b) && chn K (b :: r)
def pK (K : Nat) : List (List Nat) := prm K K (fun _ => false)
theorem chk1 : (chn 1 (pK 1) && (pK 1).head? == some (List.range 1)) = true := by decide +kernel
theorem chk2 : (chn 2 (pK 2) && (pK 2).head? == some (List.range 2)) = true := by decide +kernel
theorem chk3 : (chn 3 (pK 3) && (pK 3).head? == some (List.range 3)) = true := by decide +kernel
theorem chk4 : (chn 4 (pK 4) && (pK 4).head? == some (List.range 4)) = true := by decide +kernel
theorem chk5 : (chn 5 (pK 5) && (pK 5).head? == some (List.range 5)) = true := by decide +kernel
theorem chk6 : (chn 6 (pK 6) && (pK 6).head? == some (List.range 6)) = true := by decide +kernel
theorem len6 : (pK 1).length ≤ 720 ∧ (pK 2).length ≤ 720 ∧ (pK 3).length ≤ 720 ∧ (pK 4).length ≤ 720 ∧ (pK 5).length ≤ 720 ∧ (pK 6).length ≤ 720 := by decide +kernel
theorem chk {K : Nat} (h1 : 1 ≤ K) (h6 : K ≤ 6) : chn K (pK K) = true ∧ (∃ r, pK K = List.range K :: r) ∧ (pK K).length ≤ 720 := by
  have f : ∀ {K : Nat}, (chn K (pK K) && (pK K).head? == some (List.range K)) = true → (pK K).length ≤ 720 → chn K (pK K) = true ∧ (∃ r, pK K = List.range K :: r) ∧ (pK K).length ≤ 720 := fun {K} h hl => by
    have h' : chn K (pK K) = true ∧ ((pK K).head? == some (List.range K)) = true := Bool.and_eq_true _ _ ▸ h
    have h2 : (pK K).head? = some (List.range K) := eq_of_beq h'.2
    refine ⟨h'.1, ?_, hl⟩
    cases e : pK K with
    | nil => rw [e] at h2; exact nomatch h2
    | cons a r =>
      rw [e] at h2
      have : a = List.range K := Option.some.inj h2
      exact ⟨r, by rw [this]⟩
  rcases (show K = 1 ∨ K = 2 ∨ K = 3 ∨ K = 4 ∨ K = 5 ∨ K = 6 by omega) with rfl | rfl | rfl | rfl | rfl | rfl
  · exact f chk1 len6.1
  · exact f chk2 len6.2.1
  · exact f chk3 len6.2.2.1
  · exact f chk4 len6.2.2.2.1
  · exact f chk5 len6.2.2.2.2.1
  · exact f chk6 len6.2.2.2.2.2
theorem tb_map {K : Nat} {q : Nat → Nat} {i : Nat} (h : i < K) : tb6 ((List.range K).map q) i = q i := by
  unfold tb6
  rw [List.getD_eq_getElem?_getD]
  simp [h]
end PE
