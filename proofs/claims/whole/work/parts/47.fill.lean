/-! vacant slots filled -/
section FL
variable {n v : Nat} {fo ro ra vc os li mo mo0 : Mem} {x y : Int32} {s s' : Nat → Int32} {mm kk : Nat → Nat}
theorem Fi_fillerOf_t (h : Rf n fo ro s) (hd : Jd n s) : Fi_fillerOf fo ro x y = some (fill1 n s x y) := Fi_fillerOf_s (mo := fun _ => s) h hd
theorem fill1_or (hn : n ≤ 20) (s : Nat → Int32) (x y : Int32) : fill1 n s x y = -1 ∨ ∃ g, g < n ∧ fill1 n s x y = nI g ∧ fiC n s x g = true := by
  unfold fill1
  by_cases hb : bst s (fiO n s x y) n = -1
  · rw [if_pos hb]
    rcases bst_or s (fiX n s x y) n hn with ⟨e, _⟩ | ⟨g, hg, e, hc⟩
    · exact Or.inl e
    · exact Or.inr ⟨g, hg, e, (Bool.and_eq_true _ _ ▸ hc : _ ∧ _).1⟩
  · rw [if_neg hb]
    rcases bst_or s (fiO n s x y) n hn with ⟨e, _⟩ | ⟨g, hg, e, hc⟩
    · exact absurd e hb
    · exact Or.inr ⟨g, hg, e, (Bool.and_eq_true _ _ ▸ hc : _ ∧ _).1⟩
theorem Mo_fills_z {N M : Nat} {c : Int32} (hM : M < 1200) (e : s (252 + M) = 0) : Mo_fills_b4 (N + 1) (upA mo0 0 s) c (nI M) = Mo_fills_b4 N (upA mo0 0 s) c (nI (M + 1)) := by
  show Mo_fills_b4B (Mo_fills_b4 N) (upA mo0 0 s) c (nI M) = _
  unfold Mo_fills_b4B
  rw [if_neg (show ¬ 1200 ≤ nI M from nI_ge (b := 1200) hM (by omega)), n252 _ hM, k252 hM, upA_0, stk_r, e, if_pos rfl]
  unfold Mo_fills_b38
  rw [if_pos (by decide)]
  unfold Mo_fills_b58
  rw [if_pos rfl, stk_r, nI_1]
theorem Mo_fills_k {N M k : Nat} {c : Int32} (hn : n ≤ 20) (hs : s 173 = nI n) (hM : M < 1200) (hk : k < 5) (e : s (252 + M) = nI (k + 1)) : Mo_fills_b4 (N + 1) (upA mo0 0 s) c (nI M) = Mo_fills_b58 (Mo_fills_b4 N) (upA mo0 0 s) c (nI M) (nI (k + 1)) (fill1 n s (nI M) (nI k)) := by
  show Mo_fills_b4B (Mo_fills_b4 N) (upA mo0 0 s) c (nI M) = _
  have o := fill1_own (mo := upA mo0 0 s) (x := nI M) (y := nI k) hn (fun z => by rw [nI_eqm (by omega)] at z; exact z)
  rw [upA_0] at o
  unfold Mo_fills_b4B
  rw [if_neg (show ¬ 1200 ≤ nI M from nI_ge (b := 1200) hM (by omega)), n252 _ hM, k252 hM, upA_0, stk_r, e, if_neg (kk_ne hk), nI_pred, Mo_fillerOf_s hn (by rw [upA_0]; exact hs), bn1_r, upA_0]
  unfold Mo_fills_b38
  rw [if_neg (nI_nle (by omega) (by omega)), Mo_fillerOf_s hn (by rw [upA_0]; exact hs), bn1_r, upA_0, o]
  by_cases q : bst s (fiM n s (nI M) (nI k)) n = -1
  · rw [if_pos q, if_pos q]
  · rw [if_neg q, if_neg q]
theorem fill_scan {c : Nat} (h : RF n v fo ro ra vc os li s) (hL : RvL v vc s mm kk) : ∀ (r M j N N' : Nat), M + r = 1200 → r < N → v < N' + j → vi v mm M j → (Fi_fillFirst_b2 ro N' fo vc (nI j) = some (0, fo, vc) ∧ Mo_fills_b4 N (upA mo0 0 s) (nI c) (nI M) = some (nI c, upA mo0 0 s)) ∨ ∃ i g o fo' vc' N2, i < v ∧ g < n ∧ Pd s g ∧ s (8 * g + 4) = nI o ∧ o < 1200 ∧ mm i < o ∧ Fi_fillFirst_b2 ro N' fo vc (nI j) = some (1, fo', vc') ∧ N ≤ N2 + r ∧ Mo_fills_b4 N (upA mo0 0 s) (nI c) (nI M) = Mo_fills_b4 N2 (upA mo0 0 (tkS s g (mm i) o)) (nI (c + 1)) (nI 0) ∧ RF n v fo' ro ra vc' os li (tkS s g (mm i) o)
  | 0, M, j, N + 1, N', hM, _, hN', hi => by
    have hv20 := h.2.2.2.1.v20 h.1.n20
    have e : M = 1200 := by omega
    subst e
    have ej : j = v := by
      have := hi.1
      by_cases q : j < v
      · exact absurd ((hi.2 j q).mp (hL.2.1 j q).2.2.1) (by omega)
      · omega
    subst ej
    obtain ⟨N', rfl⟩ : ∃ q, N' = q + 1 := ⟨N' - 1, by omega⟩
    refine Or.inl ⟨?_, ?_⟩
    · show Fi_fillFirst_b2B ro (Fi_fillFirst_b2 ro N') fo vc (nI j) = _
      unfold Fi_fillFirst_b2B
      rw [hL.1, if_pos (nI_le (Nat.le_refl _) (by omega))]
    · show Mo_fills_b4B (Mo_fills_b4 N) (upA mo0 0 s) (nI c) (nI 1200) = _
      unfold Mo_fills_b4B
      rw [if_pos (by decide)]
  | r + 1, M, j, N + 1, N', hM, hN, hN', hi => by
    have hn := h.1.n20
    have hv20 := h.2.2.2.1.v20 hn
    rcases vstep hL hi (by omega) with ⟨e, hi'⟩ | ⟨hj, e0, e, hi'⟩
    · rw [Mo_fills_z (by omega) e]
      rcases fill_scan h hL r (M + 1) j N N' (by omega) (by omega) hN' hi' with q | ⟨i, g, o, fo', vc', N2, q1, q2, q3, q4, q5, q6, q7, q8, q9⟩
      · exact Or.inl q
      · exact Or.inr ⟨i, g, o, fo', vc', N2, q1, q2, q3, q4, q5, q6, q7, by omega, q9⟩
    · obtain ⟨j1, j2, j3, j4, j5⟩ := hL.2.1 j hj
      obtain ⟨N', rfl⟩ : ∃ q, N' = q + 1 := ⟨N' - 1, by omega⟩
      rw [Mo_fills_k hn h.1.sn (by omega) j4 e]
      have cl : Fi_fillFirst_b2 ro (N' + 1) fo vc (nI j) = if fill1 n s (nI M) (nI (kk j)) = -1 then Fi_fillFirst_b2 ro N' fo vc (nI (j + 1)) else bn3 (Fi_takeVacancy fo ro vc (fill1 n s (nI M) (nI (kk j))) (nI j)) (fun _ a b => some (1, a, b)) := by
        show Fi_fillFirst_b2B ro (Fi_fillFirst_b2 ro N') fo vc (nI j) = _
        unfold Fi_fillFirst_b2B
        rw [hL.1, if_neg (nI_ge hj (by omega)), Va_minuteOf_s hL.1 hv20 hj, Va_keeperOf_s hL.1 hv20 hj, bn1_r, bn1_r, j1, j2, Fi_fillerOf_t h.1 h.2.2.2.2.2.2.2.2.2.2.1, bn1_r, stk_r, nI_1, e0]
      rw [cl]
      rcases fill1_or hn s (nI M) (nI (kk j)) with q | ⟨g, hg, q, hc⟩
      · unfold Mo_fills_b58
        rw [if_pos q, if_pos q, stk_r, nI_1]
        rcases fill_scan h hL r (M + 1) (j + 1) N N' (by omega) (by omega) (by omega) hi' with q | ⟨i, g, o, fo', vc', N2, q1, q2, q3, q4, q5, q6, q7, q8, q9⟩
        · exact Or.inl q
        · exact Or.inr ⟨i, g, o, fo', vc', N2, q1, q2, q3, q4, q5, q6, q7, by omega, q9⟩
      · have hc' := of_decide_eq_true hc
        obtain ⟨-, -, -, o, -, -, -, -, -, o4, -, -, o7, -⟩ := h.2.2.2.2.2.2.2.2.2.1 g hg hc'.2.1.1
        obtain ⟨fo', vc', p1, p2, p3⟩ := RF_take h hL hg hc'.2.1.1 hj (by rw [e0]; exact hc'.2.2.2) o4 o7
        have lt : M < o := (nI_ltI (by omega) (by omega)).mp (by rw [← o4]; exact hc'.2.2.1)
        have ng : ¬ nI g = -1 := fun z => by rw [nI_eqm (by omega)] at z; exact z
        rw [q, if_neg ng, p1, bn3_r]
        refine Or.inr ⟨j, g, o, fo', vc', N, hj, hg, hc'.2.1.1, o4, o7, by omega, rfl, by omega, ?_, p2⟩
        unfold Mo_fills_b58
        rw [if_neg ng, n252 _ (by omega), k252 (by omega), stk_r, upm_A, Mo_of_4 (by omega), bn1_r, upA_0, upA_0, pk_un (by omega), o4, n252 _ o7, k252 o7, stk_r, upm_A, Mo_gives_s (by omega), bn1_r, stk_r, nI_1]
        simp only [upA_0, upA_A]
        unfold tkS
        rw [e0, e]
        rfl
/-! fewer than 1000 of them -/
def smN (g : Nat → Nat) : Nat → Nat
  | 0 => 0
  | k + 1 => smN g k + g k
theorem smN_le {g : Nat → Nat} {B : Nat} : ∀ {k : Nat}, (∀ j, j < k → g j ≤ B) → smN g k ≤ k * B
  | 0, _ => by simp [smN]
  | k + 1, h => by
    unfold smN
    have := smN_le (fun j hj => h j (by omega)) (k := k)
    have := h k (by omega)
    rw [Nat.add_mul, Nat.one_mul]
    omega
theorem smN_lt {g h : Nat → Nat} {f : Nat} : ∀ {k : Nat}, (∀ j, j < k → j ≠ f → g j = h j) → f < k → g f < h f → smN g k < smN h k
  | 0, _, h, _ => by omega
  | k + 1, e, hf, hl => by
    unfold smN
    by_cases q : f = k
    · subst q
      have h1 : ∀ j, j ≤ f → smN g j = smN h j := by
        intro j
        induction j with
        | zero => intro _; rfl
        | succ j ih => intro hj; unfold smN; rw [ih (by omega), e j (by omega) (by omega)]
      rw [h1 f (Nat.le_refl f)]
      omega
    · have := smN_lt (f := f) (k := k) (fun j hj => e j (by omega)) (by omega) hl
      have := e k (by omega) (by omega)
      omega
def anyN (g : Nat → Nat) : Nat → Nat → Bool
  | 0, _ => false
  | k + 1, m => anyN g k m || decide (g k = m)
theorem any_in {g : Nat → Nat} {i : Nat} : ∀ {k : Nat}, i < k → anyN g k (g i) = true
  | 0, h => by omega
  | k + 1, h => by
    unfold anyN
    by_cases e : i = k
    · subst e; rw [decide_eq_true (rfl : g i = g i), Bool.or_true]
    · rw [any_in (k := k) (by omega), Bool.true_or]
theorem cn_or1 {P : Nat → Bool} {a : Nat} : ∀ M, cn (fun m => P m || decide (a = m)) M ≤ cn P M + (if a < M then 1 else 0)
  | 0 => by simp [cn]
  | M + 1 => by
    have := cn_or1 (P := P) (a := a) M
    show cn (fun m => P m || decide (a = m)) M + (if (P M || decide (a = M)) = true then 1 else 0) ≤ cn P M + (if P M = true then 1 else 0) + (if a < M + 1 then 1 else 0)
    by_cases e : a = M
    · subst e
      rw [if_neg (by omega)] at this
      rw [if_pos (show a < a + 1 by omega)]
      split <;> split <;> omega
    · rw [decide_eq_false e, Bool.or_false]
      by_cases q : a < M
      · rw [if_pos q] at this; rw [if_pos (show a < M + 1 by omega)]; omega
      · rw [if_neg q] at this; rw [if_neg (show ¬ a < M + 1 by omega)]; omega
theorem cn_any (g : Nat → Nat) (M : Nat) : ∀ k, cn (anyN g k) M ≤ k
  | 0 => by
    have : ∀ M, cn (anyN g 0) M = 0 := by
      intro M
      induction M with
      | zero => rfl
      | succ M ih => unfold cn; rw [ih]; rfl
    rw [this]; omega
  | k + 1 => by
    have h1 := cn_or1 (P := anyN g k) (a := g k) M
    have h2 := cn_any g M k
    have h3 : cn (anyN g (k + 1)) M = cn (fun m => anyN g k m || decide (g k = m)) M := rfl
    rw [h3]
    split at h1 <;> omega
theorem cn_mono (P : Nat → Bool) (a : Nat) : ∀ k, cn P a ≤ cn P (a + k)
  | 0 => Nat.le_refl _
  | k + 1 => by
    have := cn_mono P a k
    show cn P a ≤ cn P (a + k) + _
    omega
theorem cn_lt (P : Nat → Bool) {a b : Nat} (h : a < b) (hp : P a = true) : cn P a < cn P b := by
  have h1 := cn_mono P (a + 1) (b - (a + 1))
  rw [show a + 1 + (b - (a + 1)) = b by omega] at h1
  have h2 : cn P (a + 1) = cn P a + 1 := by
    show cn P a + (if P a = true then 1 else 0) = _
    rw [if_pos hp]
  omega
def pot (T : Nat → Bool) (n : Nat) (s : Nat → Int32) : Nat := smN (fun f => if Pd s f then cn T (slN s f) else 0) n
def TI (T : Nat → Bool) (s : Nat → Int32) : Prop := ∀ m, m < 1200 → ¬ s (252 + m) = 0 → T m = true
theorem fuel_a {K P N N2 r : Nat} (h : (P + 1 + 1) * K < N) (q : N ≤ N2 + r) (hr : r + 1 ≤ K) : (P + 1) * K < N2 := by
  rw [Nat.add_mul, Nat.one_mul] at h
  generalize (P + 1) * K = z at h ⊢
  omega
theorem fill_l {T : Nat → Bool} : ∀ (P c N N' : Nat) (fo vc : Mem) (s : Nat → Int32), pot T n s ≤ P → c + P < 1000 → (P + 1) * 1201 < N → P + 1 < N' → RF n v fo ro ra vc os li s → TI T s → (∀ f, f < n → Pd s f → ∀ m, m < 1200 → s (8 * f + 4) = nI m → T m = true) → ∃ q fo' vc' s', q < 1000 ∧ Fi_fillVacancies_b2 ro N' fo vc (nI c) = some (nI q, fo', vc') ∧ Mo_fills_b4 N (upA mo0 0 s) (nI c) (nI 0) = some (nI q, upA mo0 0 s') ∧ RF n v fo' ro ra vc' os li s' := by
  intro P
  induction P with
  | zero =>
    intro c N N' fo vc s hP hc hN hN' h ti tf
    obtain ⟨mm, kk, hL⟩ := h.2.2.2.1.l
    have hv20 := h.2.2.2.1.v20 h.1.n20
    obtain ⟨N', rfl⟩ : ∃ q, N' = q + 1 := ⟨N' - 1, by omega⟩
    have sc := fill_scan (mo0 := mo0) (c := c) h hL 1200 0 0 N fl (by omega) (by omega) (by rw [fl_v]; omega) vi_0
    have un : Fi_fillVacancies_b2 ro (N' + 1) fo vc (nI c) = bn3 (Fi_fillFirst fo ro vc) (fun r_3 fo_4 vc_5 => if r_3 = 0 then some (nI c, fo_4, vc_5) else stk (nI c + 1) (fun x1_7 => Fi_fillVacancies_b2 ro N' fo_4 vc_5 x1_7)) := by
      show Fi_fillVacancies_b2B ro (Fi_fillVacancies_b2 ro N') fo vc (nI c) = _
      unfold Fi_fillVacancies_b2B
      rw [if_neg (show ¬ 1000 ≤ nI c from nI_ge (b := 1000) (by omega) (by omega))]
    rcases sc with ⟨a, b⟩ | ⟨i, g, o, fo', vc', N2, q1, q2, q3, q4, q5, q6, q7, q8, q9, q10⟩
    · refine ⟨c, fo, vc, s, by omega, ?_, b, h⟩
      rw [un]
      unfold Fi_fillFirst
      rw [show (0 : Int32) = nI 0 from rfl] at *
      rw [a, bn3_r, if_pos rfl]
    · exfalso
      have j3 := (hL.2.1 i q1).2.2.1
      have t : T (mm i) = true := ti _ j3 (by rw [(hL.2.1 i q1).2.2.2.2]; exact kk_ne (hL.2.1 i q1).2.2.2.1)
      have e1 : slN s g = o := by unfold slN; rw [q4, nI_clamp (by omega)]
      have l1 := smN_lt (g := fun f => if f = g then 0 else (if Pd s f then cn T (slN s f) else 0)) (h := fun f => if Pd s f then cn T (slN s f) else 0) (f := g) (k := n) (fun j _ hj => if_neg hj) q2 (by
        show (if g = g then 0 else _) < (if Pd s g then cn T (slN s g) else 0)
        rw [if_pos rfl, if_pos q3, e1]
        exact Nat.lt_of_le_of_lt (Nat.zero_le _) (cn_lt T q6 t))
      have l2 : smN (fun f => if Pd s f then cn T (slN s f) else 0) n ≤ 0 := hP
      omega
  | succ P ih =>
    intro c N N' fo vc s hP hc hN hN' h ti tf
    obtain ⟨mm, kk, hL⟩ := h.2.2.2.1.l
    have hv20 := h.2.2.2.1.v20 h.1.n20
    obtain ⟨N', rfl⟩ : ∃ q, N' = q + 1 := ⟨N' - 1, by omega⟩
    have sc := fill_scan (mo0 := mo0) (c := c) h hL 1200 0 0 N fl (by omega) (by omega) (by rw [fl_v]; omega) vi_0
    have un : Fi_fillVacancies_b2 ro (N' + 1) fo vc (nI c) = bn3 (Fi_fillFirst fo ro vc) (fun r_3 fo_4 vc_5 => if r_3 = 0 then some (nI c, fo_4, vc_5) else stk (nI c + 1) (fun x1_7 => Fi_fillVacancies_b2 ro N' fo_4 vc_5 x1_7)) := by
      show Fi_fillVacancies_b2B ro (Fi_fillVacancies_b2 ro N') fo vc (nI c) = _
      unfold Fi_fillVacancies_b2B
      rw [if_neg (show ¬ 1000 ≤ nI c from nI_ge (b := 1000) (by omega) (by omega))]
    rcases sc with ⟨a, b⟩ | ⟨i, g, o, fo', vc', N2, q1, q2, q3, q4, q5, q6, q7, q8, q9, q10⟩
    · refine ⟨c, fo, vc, s, by omega, ?_, b, h⟩
      rw [un]
      unfold Fi_fillFirst
      rw [show (0 : Int32) = nI 0 from rfl] at *
      rw [a, bn3_r, if_pos rfl]
    · have j3 := (hL.2.1 i q1).2.2.1
      have hn := h.1.n20
      have t : T (mm i) = true := ti _ j3 (by rw [(hL.2.1 i q1).2.2.2.2]; exact kk_ne (hL.2.1 i q1).2.2.2.1)
      have to : T o = true := tf g q2 q3 o q5 q4
      have e1 : slN s g = o := by unfold slN; rw [q4, nI_clamp (by omega)]
      have u4 : tkS s g (mm i) o (8 * g + 4) = nI (mm i) := by unfold tkS; rw [gv_4]
      have ug : ∀ f w, f < n → f ≠ g → w < 8 → tkS s g (mm i) o (8 * f + w) = s (8 * f + w) := fun f w h1 h2 h3 => by
        unfold tkS
        rw [gv_un (by omega), pk_un (by omega), pk_un (by omega)]
      have u7 : tkS s g (mm i) o (8 * g + 7) = s (8 * g + 7) := by
        unfold tkS
        rw [gv_un (by omega), pk_un (by omega), pk_un (by omega)]
      have uv : ∀ m, m < 1200 → m ≠ mm i → m ≠ o → tkS s g (mm i) o (252 + m) = s (252 + m) := fun m h1 h2 h3 => by
        unfold tkS
        rw [gv_un (by omega), pk_un (by omega), pk_un (by omega)]
      have ua : tkS s g (mm i) o (252 + mm i) = 0 := by
        unfold tkS
        rw [gv_un (by omega), pk_un (by omega), pk_us]
      have hpot : pot T n (tkS s g (mm i) o) < pot T n s := by
        refine smN_lt (f := g) (fun j hj hjg => ?_) q2 ?_
        · show (if Pd (tkS s g (mm i) o) j then cn T (slN (tkS s g (mm i) o) j) else 0) = (if Pd s j then cn T (slN s j) else 0)
          unfold Pd slN
          rw [ug j 4 hj hjg (by omega), ug j 7 hj hjg (by omega)]
        · show (if Pd (tkS s g (mm i) o) g then cn T (slN (tkS s g (mm i) o) g) else 0) < (if Pd s g then cn T (slN s g) else 0)
          rw [if_pos q3, e1, if_pos ⟨by rw [u4]; exact nI_pos' (by omega), by rw [u7]; exact q3.2⟩]
          unfold slN
          rw [u4, nI_clamp (by omega)]
          exact cn_lt T q6 t
      have g1 : pot T n (tkS s g (mm i) o) ≤ P := by omega
      have g2 : (P + 1) * 1201 < N2 := fuel_a hN q8 (by decide)
      obtain ⟨q, fo'', vc'', s'', w0, w1, w2, w3⟩ := ih (c + 1) N2 N' fo' vc' (tkS s g (mm i) o) g1 (by omega) g2 (by omega) q10 (fun m hm hz => by
        by_cases a1 : m = mm i
        · rw [a1]; exact t
        · by_cases a2 : m = o
          · rw [a2]; exact to
          · rw [uv m hm a1 a2] at hz; exact ti m hm hz) (fun f hf hp m hm hz => by
        by_cases a1 : f = g
        · subst a1
          rw [u4] at hz
          rw [← (nI_eq (by omega) (by omega)).mp hz]
          exact t
        · rw [ug f 4 hf a1 (by omega)] at hz
          refine tf f hf ⟨?_, ?_⟩ m hm hz
          · have := hp.1
            rw [ug f 4 hf a1 (by omega)] at this
            exact this
          · have := hp.2
            rw [ug f 7 hf a1 (by omega)] at this
            exact this)
      refine ⟨q, fo'', vc'', s'', w0, ?_, ?_, w3⟩
      · rw [un]
        unfold Fi_fillFirst
        rw [show (0 : Int32) = nI 0 from rfl] at *
        rw [q7, bn3_r, if_neg (show ¬ (1 : Int32) = nI 0 by decide), stk_r, nI_1]
        exact w1
      · rw [q9]; exact w2
theorem RF_fill (h : RF n v fo ro ra vc os li s) : ∃ q fo' vc' s', q < 1000 ∧ Fi_fillVacancies fo ro vc = some (nI q, fo', vc') ∧ Mo_fills (upA mo0 0 s) = some (nI q, upA mo0 0 s') ∧ RF n v fo' ro ra vc' os li s' := by
  obtain ⟨mm, kk, hL⟩ := h.2.2.2.1.l
  have hn := h.1.n20
  have hv20 := h.2.2.2.1.v20 h.1.n20
  have b1 : ∀ T : Nat → Bool, (∀ m, cn T m ≤ 40) → pot T n s ≤ 800 := fun T hT => by
    have := smN_le (g := fun f => if Pd s f then cn T (slN s f) else 0) (B := 40) (k := n) (fun j _ => by
      show (if Pd s j then cn T (slN s j) else 0) ≤ 40
      split
      · exact hT _
      · omega)
    have h2 : n * 40 ≤ 20 * 40 := Nat.mul_le_mul_right 40 hn
    unfold pot
    omega
  have r := fill_l (mo0 := mo0) (T := anyN (fun i => if i < 20 then slN s i else mm (i - 20)) 40) 800 0 fl fl fo vc s (b1 _ (fun m => cn_any _ m 40)) (by omega) (by rw [fl_v]; omega) (by rw [fl_v]; omega) h (fun m hm hz => by
    obtain ⟨i, hi, e⟩ := hL.2.2.2 m hm hz
    have := any_in (g := fun i => if i < 20 then slN s i else mm (i - 20)) (i := 20 + i) (k := 40) (by omega)
    have e2 : (fun i => if i < 20 then slN s i else mm (i - 20)) (20 + i) = m := by
      show (if 20 + i < 20 then slN s (20 + i) else mm (20 + i - 20)) = m
      rw [if_neg (by omega), show 20 + i - 20 = i by omega, e]
    exact e2 ▸ this) (fun f hf hp m hm hz => by
    have := any_in (g := fun i => if i < 20 then slN s i else mm (i - 20)) (i := f) (k := 40) (by omega)
    have e2 : (fun i => if i < 20 then slN s i else mm (i - 20)) f = m := by
      show (if f < 20 then slN s f else mm (f - 20)) = m
      rw [if_pos (by omega)]
      unfold slN
      rw [hz, nI_clamp (by omega)]
    exact e2 ▸ this)
  exact r
theorem q_fill (h : RF n v fo ro ra vc os li (mo 0)) : ∃ r fo' vc' s', St_fill fo ro vc = some (r, fo', vc') ∧ Mo_fill mo = some (r, upA mo 0 s') ∧ RF n v fo' ro ra vc' os li s' := by
  obtain ⟨q, fo', vc', s', -, a, b, c⟩ := RF_fill (mo0 := mo) h
  rw [upA_id] at b
  refine ⟨nI q, fo', vc', s', ?_, ?_, c⟩
  · unfold St_fill; rw [a, bn3_r]
  · unfold Mo_fill; rw [b, bn2_r]
end FL
