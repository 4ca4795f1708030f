/-! Integer.bitCount -/
theorem and_split (A M : Nat) : A &&& M = (A % 256 &&& M % 256) + 256 * (A / 256 &&& M / 256) := by
  have h1 : (A &&& M) % 256 = A % 256 &&& M % 256 := Nat.and_mod_two_pow (n := 8)
  have h2 : (A &&& M) / 256 = A / 256 &&& M / 256 := Nat.and_div_two_pow (n := 8)
  rw [← h1, ← h2]
  omega
theorem and3 {A : Nat} (hA : A < 256 * 65536) (m M : Nat) (h1 : M % 256 = m) (h2 : M / 256 % 256 = m) (h3 : M / 256 / 256 % 256 = m) : A &&& M = (A % 256 &&& m) + 256 * (A / 256 % 256 &&& m) + 65536 * (A / 65536 &&& m) := by
  have e1 := and_split A M
  have e2 := and_split (A / 256) (M / 256)
  have e3 := and_split (A / 256 / 256) (M / 256 / 256)
  rw [h1] at e1
  rw [h2] at e2
  rw [h3, show A / 256 / 256 / 256 = 0 by omega, Nat.zero_and, show A / 256 / 256 % 256 = A / 65536 by omega] at e3
  omega
def P1 (a : Nat) : Nat := a - (a / 2 &&& 85)
def P2 (a : Nat) : Nat := (a &&& 51) + (a / 4 &&& 51)
def P3 (a : Nat) : Nat := (a + a / 16) % 16
theorem fi1 : ∀ u, u < 128 → ∀ w, w < 2 → (u + 128 * w) &&& 85 = u &&& 85 := by decide +kernel
theorem fi2 : ∀ u, u < 64 → ∀ w, w < 4 → (u + 64 * w) &&& 51 = u &&& 51 := by decide +kernel
theorem fi3 : ∀ a, a < 256 → P1 a < 256 ∧ (a / 2 &&& 85) ≤ a ∧ P2 (P1 a) < 256 ∧ P2 (P1 a) % 16 ≤ 4 ∧ P2 (P1 a) / 16 ≤ 4 ∧ P3 (P2 (P1 a)) ≤ 8 := by decide +kernel
theorem and15 (A : Nat) : A &&& 15 = A % 16 := Nat.and_two_pow_sub_one_eq_mod (n := 4) A
theorem st4 {u0 u1 w0 w1 z0 z1 : Nat} (h0 : u0 ≤ 4) (h1 : u1 ≤ 4) (h2 : w0 ≤ 4) (h3 : w1 ≤ 4) (h4 : z0 ≤ 4) (h5 : z1 ≤ 4) : ((u0 + 16 * u1 + 256 * (w0 + 16 * w1) + 65536 * (z0 + 16 * z1)) + (u0 + 16 * u1 + 256 * (w0 + 16 * w1) + 65536 * (z0 + 16 * z1)) / 2 ^ 4) &&& 252645135 = (u0 + u1) + 256 * (w0 + w1) + 65536 * (z0 + z1) := by
  have e : (u0 + 16 * u1 + 256 * (w0 + 16 * w1) + 65536 * (z0 + 16 * z1)) / 2 ^ 4 = u1 + 16 * w0 + 256 * w1 + 4096 * z0 + 65536 * z1 := by omega
  rw [e, and3 (by omega) 15 252645135 (by decide) (by decide) (by decide), and15, and15, and15]
  have e1 : (u0 + 16 * u1 + 256 * (w0 + 16 * w1) + 65536 * (z0 + 16 * z1) + (u1 + 16 * w0 + 256 * w1 + 4096 * z0 + 65536 * z1)) % 256 = (u0 + u1) + 16 * (u1 + w0) := by omega
  have e2 : (u0 + 16 * u1 + 256 * (w0 + 16 * w1) + 65536 * (z0 + 16 * z1) + (u1 + 16 * w0 + 256 * w1 + 4096 * z0 + 65536 * z1)) / 256 % 256 = (w0 + w1) + 16 * (w1 + z0) := by omega
  have e3 : (u0 + 16 * u1 + 256 * (w0 + 16 * w1) + 65536 * (z0 + 16 * z1) + (u1 + 16 * w0 + 256 * w1 + 4096 * z0 + 65536 * z1)) / 65536 = (z0 + z1) + 16 * z1 := by omega
  rw [e1, e2, e3]
  clear e e1 e2 e3
  rw [show (u0 + u1 + 16 * (u1 + w0)) % 16 = u0 + u1 by omega, show (w0 + w1 + 16 * (w1 + z0)) % 16 = w0 + w1 by omega, show (z0 + z1 + 16 * z1) % 16 = z0 + z1 by omega]
theorem st4' {u w z : Nat} (h0 : u % 16 ≤ 4) (h1 : u / 16 ≤ 4) (h2 : w % 16 ≤ 4) (h3 : w / 16 ≤ 4) (h4 : z % 16 ≤ 4) (h5 : z / 16 ≤ 4) : ((u + 256 * w + 65536 * z) + (u + 256 * w + 65536 * z) / 2 ^ 4) &&& 252645135 = P3 u + 256 * P3 w + 65536 * P3 z := by
  have a := st4 h0 h1 h2 h3 h4 h5
  rw [show u % 16 + 16 * (u / 16) = u by omega, show w % 16 + 16 * (w / 16) = w by omega, show z % 16 + 16 * (z / 16) = z by omega] at a
  rw [a]
  have p : ∀ t : Nat, t % 16 ≤ 4 → t / 16 ≤ 4 → P3 t = t % 16 + t / 16 := by intro t q1 q2; unfold P3; omega
  rw [p u h0 h1, p w h2 h3, p z h4 h5]
theorem st5 {d e g : Nat} (h0 : d ≤ 8) (h1 : e ≤ 8) (h2 : g ≤ 8) : ((d + 256 * e + 65536 * g + (d + 256 * e + 65536 * g) / 2 ^ 8) + (d + 256 * e + 65536 * g + (d + 256 * e + 65536 * g) / 2 ^ 8) / 2 ^ 16) % 2 ^ 6 = d + e + g := by
  have e1 : (d + 256 * e + 65536 * g) / 2 ^ 8 = e + 256 * g := by omega
  rw [e1]
  have e2 : (d + 256 * e + 65536 * g + (e + 256 * g)) / 2 ^ 16 = g := by omega
  rw [e2]
  omega
theorem pop3 {a b c : Nat} (ha : a < 256) (hb : b < 256) (hc : c < 16) : Jd_bitCount_0f7a4 (nI (a + 256 * b + 65536 * c)) = some (nI (P3 (P2 (P1 a)) + P3 (P2 (P1 b)) + P3 (P2 (P1 c)))) := by
  obtain ⟨a1, a2, a3, a4, a5, a6⟩ := fi3 a ha
  obtain ⟨b1, b2, b3, b4, b5, b6⟩ := fi3 b hb
  obtain ⟨c1, c2, c3, c4, c5, c6⟩ := fi3 c (by omega)
  unfold Jd_bitCount_0f7a4
  simp only [stk_r]
  rw [pk_ushrN (by omega) 1 1 (by decide), show (1431655765 : Int32) = nI 1431655765 from rfl, nI_and _ _ (by omega) (by omega)]
  have s1 : (a + 256 * b + 65536 * c) / 2 ^ 1 &&& 1431655765 = (a / 2 &&& 85) + 256 * (b / 2 &&& 85) + 65536 * (c / 2 &&& 85) := by
    rw [and3 (by omega) 85 1431655765 (by decide) (by decide) (by decide)]
    rw [show (a + 256 * b + 65536 * c) / 2 ^ 1 % 256 = a / 2 + 128 * (b % 2) by omega, show (a + 256 * b + 65536 * c) / 2 ^ 1 / 256 % 256 = b / 2 + 128 * (c % 2) by omega, show (a + 256 * b + 65536 * c) / 2 ^ 1 / 65536 = c / 2 by omega]
    rw [fi1 (a / 2) (by omega) (b % 2) (by omega), fi1 (b / 2) (by omega) (c % 2) (by omega)]
  rw [s1, pk_sub (by omega)]
  rw [show a + 256 * b + 65536 * c - ((a / 2 &&& 85) + 256 * (b / 2 &&& 85) + 65536 * (c / 2 &&& 85)) = P1 a + 256 * P1 b + 65536 * P1 c by unfold P1; omega]
  generalize P1 a = p at *
  generalize P1 b = q at *
  generalize P1 c = r at *
  rw [pk_ushrN (by omega) 2 2 (by decide), show (858993459 : Int32) = nI 858993459 from rfl, nI_and _ _ (by omega) (by omega), nI_and _ _ (by omega) (by omega), nI_add]
  have s2 : (p + 256 * q + 65536 * r) / 2 ^ 2 &&& 858993459 = (p / 4 &&& 51) + 256 * (q / 4 &&& 51) + 65536 * (r / 4 &&& 51) := by
    rw [and3 (by omega) 51 858993459 (by decide) (by decide) (by decide)]
    rw [show (p + 256 * q + 65536 * r) / 2 ^ 2 % 256 = p / 4 + 64 * (q % 4) by omega, show (p + 256 * q + 65536 * r) / 2 ^ 2 / 256 % 256 = q / 4 + 64 * (r % 4) by omega, show (p + 256 * q + 65536 * r) / 2 ^ 2 / 65536 = r / 4 by omega]
    rw [fi2 (p / 4) (by omega) (q % 4) (by omega), fi2 (q / 4) (by omega) (r % 4) (by omega)]
  have s3 : (p + 256 * q + 65536 * r) &&& 858993459 = (p &&& 51) + 256 * (q &&& 51) + 65536 * (r &&& 51) := by
    rw [and3 (by omega) 51 858993459 (by decide) (by decide) (by decide)]
    rw [show (p + 256 * q + 65536 * r) % 256 = p by omega, show (p + 256 * q + 65536 * r) / 256 % 256 = q by omega, show (p + 256 * q + 65536 * r) / 65536 = r by omega]
  rw [s2, s3, show (p &&& 51) + 256 * (q &&& 51) + 65536 * (r &&& 51) + ((p / 4 &&& 51) + 256 * (q / 4 &&& 51) + 65536 * (r / 4 &&& 51)) = P2 p + 256 * P2 q + 65536 * P2 r by unfold P2; omega]
  generalize P2 p = u at *
  generalize P2 q = w at *
  generalize P2 r = z at *
  rw [pk_ushrN (by omega) 4 4 (by decide), nI_add, show (252645135 : Int32) = nI 252645135 from rfl, nI_and _ _ (by omega) (by omega)]
  rw [st4' a4 a5 b4 b5 c4 c5]
  generalize P3 u = d at *
  generalize P3 w = e at *
  generalize P3 z = g at *
  rw [pk_ushrN (by omega) 8 8 (by decide), nI_add, pk_ushrN (by omega) 16 16 (by decide), nI_add, show (63 : Int32) = nI 63 from rfl, nI_and _ _ (by omega) (by omega)]
  rw [show (63 : Nat) = 2 ^ 6 - 1 from rfl, Nat.and_two_pow_sub_one_eq_mod, st5 a6 b6 c6]
theorem cn_add (P : Nat → Bool) (m : Nat) : ∀ k, cn P (m + k) = cn P m + cn (fun i => P (m + i)) k
  | 0 => rfl
  | k + 1 => by
    show cn P (m + k) + (if P (m + k) then 1 else 0) = cn P m + (cn (fun i => P (m + i)) k + if P (m + k) then 1 else 0)
    rw [cn_add P m k]; omega
theorem cn_congr {P Q : Nat → Bool} : ∀ {k : Nat}, (∀ i, i < k → P i = Q i) → cn P k = cn Q k
  | 0, _ => rfl
  | k + 1, h => by
    show cn P k + _ = cn Q k + _
    rw [cn_congr (fun i hi => h i (by omega)), h k (by omega)]
theorem pop8 : ∀ q0 q1 q2 q3 q4 q5 q6 q7 : Bool, P3 (P2 (P1 (msk (fun i => [q0, q1, q2, q3, q4, q5, q6, q7].getD i false) 8))) = cn (fun i => [q0, q1, q2, q3, q4, q5, q6, q7].getD i false) 8 := by decide +kernel
theorem lt8 {Q : Nat → Bool} : ∀ i, i < 8 → Q i = [Q 0, Q 1, Q 2, Q 3, Q 4, Q 5, Q 6, Q 7].getD i false
  | 0, _ => rfl
  | 1, _ => rfl
  | 2, _ => rfl
  | 3, _ => rfl
  | 4, _ => rfl
  | 5, _ => rfl
  | 6, _ => rfl
  | 7, _ => rfl
  | k + 8, h => by omega
theorem pop8Q (Q : Nat → Bool) : P3 (P2 (P1 (msk Q 8))) = cn Q 8 := by
  rw [msk_congr lt8, pop8, ← cn_congr lt8]
/-- of at most 20 bits -/
theorem pop_s (P : Nat → Bool) : Jd_bitCount_0f7a4 (nI (msk P 20)) = some (nI (cn P 20)) := by
  have e0 : msk P 20 = msk P 8 + 256 * msk (fun i => P (8 + i)) 8 + 65536 * msk (fun i => P (16 + i)) 4 := by
    have h8 := msk_lt P 8
    have h8' := msk_lt (fun i => P (8 + i)) 8
    have h1 : msk P 20 % 256 = msk P 8 := by
      refine Nat.eq_of_testBit_eq (fun i => ?_)
      rw [show (256 : Nat) = 2 ^ 8 from rfl, Nat.testBit_mod_two_pow, msk_bit, msk_bit]
      by_cases h : i < 8
      · rw [decide_eq_true h, decide_eq_true (show i < 20 by omega)]; rfl
      · rw [decide_eq_false h]; rfl
    have h2 : msk P 20 / 256 % 256 = msk (fun i => P (8 + i)) 8 := by
      refine Nat.eq_of_testBit_eq (fun i => ?_)
      rw [show (256 : Nat) = 2 ^ 8 from rfl, Nat.testBit_mod_two_pow, Nat.testBit_div_two_pow, msk_bit, msk_bit]
      by_cases h : i < 8
      · rw [decide_eq_true h, decide_eq_true (show i + 8 < 20 by omega), Nat.add_comm i 8]; rfl
      · rw [decide_eq_false h]; rfl
    have h3 : msk P 20 / 65536 = msk (fun i => P (16 + i)) 4 := by
      refine Nat.eq_of_testBit_eq (fun i => ?_)
      rw [show (65536 : Nat) = 2 ^ 16 from rfl, Nat.testBit_div_two_pow, msk_bit, msk_bit]
      by_cases h : i < 4
      · rw [decide_eq_true h, decide_eq_true (show i + 16 < 20 by omega), Nat.add_comm i 16]
      · rw [decide_eq_false h, decide_eq_false (show ¬ i + 16 < 20 by omega)]; rfl
    omega
  have e4 : msk (fun i => P (16 + i)) 4 = msk (fun i => decide (i < 4) && P (16 + i)) 8 := by
    rw [show 8 = 4 + 4 from rfl, msk_tail (P := fun i => decide (i < 4) && P (16 + i)) 4 4 (fun j h1 _ => by rw [decide_eq_false (show ¬ j < 4 by omega)]; rfl)]
    exact msk_congr (fun i hi => by rw [decide_eq_true hi]; rfl)
  have l1 := msk_lt P 8
  have l2 := msk_lt (fun i => P (8 + i)) 8
  have l3 := msk_lt (fun i => P (16 + i)) 4
  rw [e0, pop3 (by omega) (by omega) (by omega), pop8Q, pop8Q, e4, pop8Q]
  have c1 : cn P 20 = cn P 8 + cn (fun i => P (8 + i)) 8 + cn (fun i => P (16 + i)) 4 := by
    rw [show 20 = 16 + 4 from rfl, cn_add P 16 4, show 16 = 8 + 8 from rfl, cn_add P 8 8]
  have c2 : cn (fun i => decide (i < 4) && P (16 + i)) 8 = cn (fun i => P (16 + i)) 4 := by
    rw [show 8 = 4 + 4 from rfl, cn_add _ 4 4]
    have z : cn (fun i => decide (4 + i < 4) && P (16 + (4 + i))) 4 = 0 := by
      rw [cn_congr (Q := fun _ => false) (fun i _ => by rw [decide_eq_false (show ¬ 4 + i < 4 by omega)]; rfl)]; rfl
    rw [z, cn_congr (Q := fun i => P (16 + i)) (fun i hi => by rw [decide_eq_true hi]; rfl)]
    rfl
  rw [c1, c2]
