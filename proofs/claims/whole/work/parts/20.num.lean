/-! pure rows: numbers, loops -/
theorem stk_r {α β : Type} (x : α) (f : α → β) : stk x f = f x := rfl
theorem bn1_r {α γ : Type} (a : α) (f : α → Option γ) : bn1 (some a) f = f a := rfl
theorem bn2_r {α β γ : Type} (a : α) (b : β) (f : α → β → Option γ) : bn2 (some (a, b)) f = f a b := rfl
theorem bn3_r {α β δ γ : Type} (a : α) (b : β) (d : δ) (f : α → β → δ → Option γ) : bn3 (some (a, b, d)) f = f a b d := rfl
theorem bn4_r {α β δ ε γ : Type} (a : α) (b : β) (d : δ) (e : ε) (f : α → β → δ → ε → Option γ) : bn4 (some (a, b, d, e)) f = f a b d e := rfl
theorem bn5_r {α β δ ε ζ γ : Type} (a : α) (b : β) (d : δ) (e : ε) (z : ζ) (f : α → β → δ → ε → ζ → Option γ) : bn5 (some (a, b, d, e, z)) f = f a b d e z := rfl
theorem bn6_r {α β δ ε ζ η γ : Type} (a : α) (b : β) (d : δ) (e : ε) (z : ζ) (y : η) (f : α → β → δ → ε → ζ → η → Option γ) : bn6 (some (a, b, d, e, z, y)) f = f a b d e z y := rfl
/-- a condition as an answer -/
def bI (P : Prop) [Decidable P] : Int32 := if P then 1 else 0
theorem bI_t {P : Prop} [Decidable P] (h : P) : bI P = 1 := if_pos h
theorem bI_f {P : Prop} [Decidable P] (h : ¬ P) : bI P = 0 := if_neg h
theorem bI_z {P : Prop} [Decidable P] {α : Type} (A B : α) : (if bI P = 0 then A else B) = if P then B else A := by
  by_cases h : P
  · rw [bI_t h, if_pos h]; rfl
  · rw [bI_f h, if_neg h]; rfl
theorem bI_01 {P : Prop} [Decidable P] : bI P = 0 ∨ bI P = 1 := by
  by_cases h : P
  · exact Or.inr (bI_t h)
  · exact Or.inl (bI_f h)
theorem bI_ck {P : Prop} [Decidable P] {α : Type} (x : Option α) : ckB (bI P) x = x := ckB_ok x bI_01
theorem bI_iff {P Q : Prop} [Decidable P] [Decidable Q] (h : P ↔ Q) : bI P = bI Q := by
  by_cases hq : Q
  · rw [bI_t hq, bI_t (h.mpr hq)]
  · rw [bI_f hq, bI_f (fun p => hq (h.mp p))]
theorem bI_ite {P : Prop} [Decidable P] : (if P then some (1 : Int32) else some 0) = some (bI P) := by
  by_cases h : P
  · rw [if_pos h, bI_t h]
  · rw [if_neg h, bI_f h]
theorem bI_itn {P : Prop} [Decidable P] : (if P then some (0 : Int32) else some 1) = some (bI (¬ P)) := by
  by_cases h : P
  · rw [if_pos h, bI_f (fun q => q h)]
  · rw [if_neg h, bI_t h]
theorem ckI_nI {α : Type} {i n : Nat} (x : Option α) (h : i < n) (hn : n < 2 ^ 31) : ckI (nI i) n x = x := ckI_ok x (vp_in_nI h hn)
theorem L2 : (2 : Int32) = nI 2 := rfl
theorem L3 : (3 : Int32) = nI 3 := rfl
theorem L4 : (4 : Int32) = nI 4 := rfl
theorem L5 : (5 : Int32) = nI 5 := rfl
theorem L6 : (6 : Int32) = nI 6 := rfl
theorem L7 : (7 : Int32) = nI 7 := rfl
theorem L8 : (8 : Int32) = nI 8 := rfl
theorem L9 : (9 : Int32) = nI 9 := rfl
theorem L10 : (10 : Int32) = nI 10 := rfl
theorem L12 : (12 : Int32) = nI 12 := rfl
theorem L20 : (20 : Int32) = nI 20 := rfl
theorem L31 : (31 : Int32) = nI 31 := rfl
theorem L32 : (32 : Int32) = nI 32 := rfl
theorem L59 : (59 : Int32) = nI 59 := rfl
theorem L60 : (60 : Int32) = nI 60 := rfl
theorem L65 : (65 : Int32) = nI 65 := rfl
theorem L80 : (80 : Int32) = nI 80 := rfl
theorem L97 : (97 : Int32) = nI 97 := rfl
theorem L100 : (100 : Int32) = nI 100 := rfl
theorem L160 : (160 : Int32) = nI 160 := rfl
theorem L172 : (172 : Int32) = nI 172 := rfl
theorem L173 : (173 : Int32) = nI 173 := rfl
theorem L174 : (174 : Int32) = nI 174 := rfl
theorem L175 : (175 : Int32) = nI 175 := rfl
theorem L176 : (176 : Int32) = nI 176 := rfl
theorem L216 : (216 : Int32) = nI 216 := rfl
theorem L252 : (252 : Int32) = nI 252 := rfl
theorem L255 : (255 : Int32) = nI 255 := rfl
theorem L300 : (300 : Int32) = nI 300 := rfl
theorem L319 : (319 : Int32) = nI 319 := rfl
theorem L320 : (320 : Int32) = nI 320 := rfl
theorem L720 : (720 : Int32) = nI 720 := rfl
theorem L719 : (719 : Int32) = nI 719 := rfl
theorem L1000 : (1000 : Int32) = nI 1000 := rfl
theorem L1199 : (1199 : Int32) = nI 1199 := rfl
theorem L1200 : (1200 : Int32) = nI 1200 := rfl
theorem L1452 : (1452 : Int32) = nI 1452 := rfl
theorem L13068 : (13068 : Int32) = nI 13068 := rfl
theorem L65535 : (65535 : Int32) = nI 65535 := rfl
theorem L65536 : (65536 : Int32) = nI 65536 := rfl
theorem nI_zero : (0 : Int32) = nI 0 := rfl
theorem nI_one : (1 : Int32) = nI 1 := rfl
theorem nI_lt0 {a : Nat} (h : a < 2 ^ 31) : (nI a < 0) = False := eq_false (nI_pos h)
theorem nI_eqm {a : Nat} (h : a < 2 ^ 31) : (nI a = -1) = False := eq_false (fun e => nI_pos h (by rw [e]; decide))
theorem nI_ltP {a b : Nat} (ha : a < 2 ^ 31) (hb : b < 2 ^ 31) : (nI a < nI b) = (a < b) := propext (nI_ltI ha hb)
theorem nI_leP {a b : Nat} (ha : a < 2 ^ 31) (hb : b < 2 ^ 31) : (nI a ≤ nI b) = (a ≤ b) := propext (nI_leI ha hb)
theorem nI_eqP {a b : Nat} (ha : a < 2 ^ 31) (hb : b < 2 ^ 31) : (nI a = nI b) = (a = b) := propext (nI_eq ha hb)
theorem fl_v : fl = 1000000 := rfl
/-- a number of steps from i on -/
def iter {α : Type} (st : Nat → α → α) : Nat → Nat → α → α
  | _, 0, a => a
  | i, m + 1, a => iter st (i + 1) m (st i a)
theorem iter_add {α : Type} (st : Nat → α → α) : ∀ (m k i : Nat) (a : α), iter st i (m + k) a = iter st (i + m) k (iter st i m a)
  | 0, k, i, a => by rw [Nat.zero_add]; rfl
  | m + 1, k, i, a => by
    rw [show m + 1 + k = (m + k) + 1 by omega]
    show iter st (i + 1) (m + k) (st i a) = iter st (i + (m + 1)) k (iter st (i + 1) m (st i a))
    rw [iter_add st m k (i + 1) (st i a), show i + 1 + m = i + (m + 1) by omega]
theorem iter_succ {α : Type} (st : Nat → α → α) (m i : Nat) (a : α) : iter st i (m + 1) a = st (i + m) (iter st i m a) := by rw [iter_add st m 1 i a]; rfl
theorem iter_congr {α : Type} (st st' : Nat → α → α) : ∀ (m i : Nat) (a : α), (∀ j b, i ≤ j → j < i + m → st j b = st' j b) → iter st i m a = iter st' i m a
  | 0, _, _, _ => rfl
  | m + 1, i, a, h => by
    show iter st (i + 1) m (st i a) = iter st' (i + 1) m (st' i a)
    rw [h i a (Nat.le_refl _) (by omega), iter_congr st st' m (i + 1) _ (fun j b h1 h2 => h j b (by omega) (by omega))]
theorem iter_id {α : Type} (st : Nat → α → α) : ∀ (m i : Nat) (a : α), (∀ j b, i ≤ j → j < i + m → st j b = b) → iter st i m a = a
  | 0, _, _, _ => rfl
  | m + 1, i, a, h => by
    show iter st (i + 1) m (st i a) = a
    rw [h i a (Nat.le_refl _) (by omega), iter_id st m (i + 1) a (fun j b h1 h2 => h j b (by omega) (by omega))]
theorem iter_inv {α : Type} (st : Nat → α → α) (Iv : Nat → α → Prop) : ∀ (m i : Nat) (a : α), Iv i a → (∀ j b, i ≤ j → j < i + m → Iv j b → Iv (j + 1) (st j b)) → Iv (i + m) (iter st i m a)
  | 0, _, _, h, _ => h
  | m + 1, i, a, h, hs => by
    have h1 := iter_inv st Iv m (i + 1) (st i a) (hs i a (Nat.le_refl _) (by omega) h) (fun j b h1 h2 => hs j b (by omega) (by omega))
    rw [show i + 1 + m = i + (m + 1) by omega] at h1
    exact h1
/-- a loop that counts up, with an invariant -/
theorem for_up {α β : Type} (L : Nat → Int32 → α → Option β) (N : Nat) (st : Nat → α → α) (E : α → Option β) (Iv : Nat → α → Prop)
    (h1 : ∀ n i a, i < N → Iv i a → L (n + 1) (nI i) a = L n (nI (i + 1)) (st i a)) (hi : ∀ i a, i < N → Iv i a → Iv (i + 1) (st i a)) (h2 : ∀ n a, Iv N a → L (n + 1) (nI N) a = E a) :
    ∀ (m n i : Nat) (a : α), i + m = N → m < n → Iv i a → L n (nI i) a = E (iter st i m a)
  | 0, n + 1, i, a, hm, _, hv => by
    have e : i = N := by omega
    subst e
    exact h2 n a hv
  | m + 1, n + 1, i, a, hm, hn, hv => by
    rw [h1 n i a (by omega) hv]
    exact for_up L N st E Iv h1 hi h2 m n (i + 1) (st i a) (by omega) (by omega) (hi i a (by omega) hv)
/-- a loop that looks for the first place -/
def seek (P : Nat → Bool) : Nat → Nat → Option Nat
  | _, 0 => none
  | i, m + 1 => if P i then some i else seek P (i + 1) m
theorem for_seek {β : Type} (L : Nat → Int32 → Option β) (N : Nat) (P : Nat → Bool) (F : Nat → Option β) (E : Option β)
    (h1 : ∀ n i, i < N → L (n + 1) (nI i) = if P i then F i else L n (nI (i + 1))) (h2 : ∀ n, L (n + 1) (nI N) = E) :
    ∀ (m n i : Nat), i + m = N → m < n → L n (nI i) = match seek P i m with
      | some j => F j
      | none => E
  | 0, n + 1, i, hm, _ => by
    have e : i = N := by omega
    subst e
    exact h2 n
  | m + 1, n + 1, i, hm, hn => by
    rw [h1 n i (by omega)]
    unfold seek
    by_cases hp : P i = true
    · rw [if_pos hp, if_pos hp]
    · rw [if_neg hp, if_neg hp]
      exact for_seek L N P F E h1 h2 m n (i + 1) (by omega) (by omega)
theorem seek_congr (P Q : Nat → Bool) : ∀ (m i : Nat), (∀ j, i ≤ j → j < i + m → P j = Q j) → seek P i m = seek Q i m
  | 0, _, _ => rfl
  | m + 1, i, h => by
    unfold seek
    rw [h i (Nat.le_refl _) (by omega), seek_congr P Q m (i + 1) (fun j h1 h2 => h j (by omega) (by omega))]
theorem seek_add (P : Nat → Bool) : ∀ (m k i : Nat), (∀ j, i + m ≤ j → j < i + m + k → P j = false) → seek P i (m + k) = seek P i m
  | 0, 0, _, _ => rfl
  | 0, k + 1, i, h => by
    rw [Nat.zero_add]
    unfold seek
    rw [h i (by omega) (by omega)]
    have h2 := seek_add P 0 k (i + 1) (fun j h1 h2 => h j (by omega) (by omega))
    rw [Nat.zero_add] at h2
    rw [h2]
    rfl
  | m + 1, k, i, h => by
    rw [show m + 1 + k = (m + k) + 1 by omega]
    unfold seek
    rw [seek_add P m k (i + 1) (fun j h1 h2 => h j (by omega) (by omega))]
theorem seek_some {P : Nat → Bool} : ∀ {m i j : Nat}, seek P i m = some j → i ≤ j ∧ j < i + m ∧ P j = true ∧ ∀ k, i ≤ k → k < j → P k = false
  | 0, _, _, h => by cases h
  | m + 1, i, j, h => by
    unfold seek at h
    by_cases hp : P i = true
    · rw [if_pos hp] at h
      cases h
      exact ⟨Nat.le_refl _, by omega, hp, fun k h1 h2 => absurd h1 (by omega)⟩
    · rw [if_neg hp] at h
      obtain ⟨h1, h2, h3, h4⟩ := seek_some h
      refine ⟨by omega, by omega, h3, fun k k1 k2 => ?_⟩
      by_cases e : k = i
      · subst e; exact Bool.not_eq_true _ ▸ hp
      · exact h4 k (by omega) k2
theorem seek_none {P : Nat → Bool} : ∀ {m i : Nat}, seek P i m = none → ∀ k, i ≤ k → k < i + m → P k = false
  | 0, _, _, k, h1, h2 => absurd h1 (by omega)
  | m + 1, i, h, k, h1, h2 => by
    unfold seek at h
    by_cases hp : P i = true
    · rw [if_pos hp] at h; cases h
    · rw [if_neg hp] at h
      by_cases e : k = i
      · subst e; exact Bool.not_eq_true _ ▸ hp
      · exact seek_none h k (by omega) (by omega)
/-- sums -/
def sm (g : Nat → Int32) : Nat → Int32
  | 0 => 0
  | n + 1 => sm g n + g n
theorem sm_iter (g : Nat → Int32) : ∀ (m : Nat) (a : Int32), iter (fun i b => b + g i) 0 m a = a + sm g m
  | 0, a => by show a = a + 0; rw [Int32.add_zero]
  | m + 1, a => by
    rw [iter_succ, sm_iter g m a]
    show a + sm g m + g (0 + m) = a + (sm g m + g m)
    rw [Nat.zero_add, Int32.add_assoc]
theorem sm_congr {g h : Nat → Int32} : ∀ {m : Nat}, (∀ j, j < m → g j = h j) → sm g m = sm h m
  | 0, _ => rfl
  | m + 1, e => by
    show sm g m + g m = sm h m + h m
    rw [sm_congr (fun j hj => e j (by omega)), e m (by omega)]
theorem sm_tail {g : Nat → Int32} (m : Nat) : ∀ (k : Nat), (∀ j, m ≤ j → j < m + k → g j = 0) → sm g (m + k) = sm g m
  | 0, _ => rfl
  | k + 1, e => by
    show sm g (m + k) + g (m + k) = sm g m
    rw [sm_tail m k (fun j h1 h2 => e j h1 (by omega)), e (m + k) (by omega) (by omega), Int32.add_zero]
theorem sm_cut {g h : Nat → Int32} {n N : Nat} (hn : n ≤ N) (e : ∀ j, j < n → g j = h j) (z : ∀ j, n ≤ j → j < N → g j = 0) : sm g N = sm h n := by
  have h1 : N = n + (N - n) := by omega
  rw [h1, sm_tail n (N - n) (fun j a b => z j a (by omega)), sm_congr e]
/-- a loop that sums: the sum ahead of the counter -/
theorem for_sum {β : Type} (L : Nat → Int32 → Int32 → Option β) (N : Nat) (g : Nat → Int32) (E : Int32 → Option β) (hN : N < 900000)
    (h1 : ∀ n i a, i < N → L (n + 1) a (nI i) = L n (a + g i) (nI (i + 1))) (h2 : ∀ n a, L (n + 1) a (nI N) = E a) : L fl 0 0 = E (sm g N) := by
  have h := for_up (fun n x a => L n a x) N (fun i a => a + g i) E (fun _ _ => True) (fun n i a hi _ => h1 n i a hi) (fun _ _ _ _ => trivial) (fun n a _ => h2 n a) N fl 0 0 (by omega) (by rw [fl_v]; omega) trivial
  rw [sm_iter, Int32.zero_add] at h
  exact h
