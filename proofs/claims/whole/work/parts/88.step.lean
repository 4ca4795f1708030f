/-! one call of both -/
section ST
variable {N k P n v : Nat} {mk : Nat → Nat → Mem} {sm bsa bsb rd di rof pn se fo ro ra vc os li fot rot rat vct ost lit mo : Mem} {bsa' pn' fo' ro' ra' vc' os' li' mo' : Mem} {x y z w t : Int32}
def LI (N k P : Nat) (mk : Nat → Nat → Mem) (sm bsa pn fo ro ra vc os li mo : Mem) : Prop := (∃ n v, RF n v fo ro ra vc os li (mo 0)) ∧ RT bsa mo ∧ (∃ M, M ≤ 13 * N ∧ PM M pn) ∧ sm 10 0 = nI k ∧ mo 21 0 = nI k ∧ k ≤ P ∧ P ≤ 8 ∧ ∀ j, j < k → ∃ n v, RF n v (mk j 0) (mk j 1) (mk j 2) (mk j 3) (mk j 4) (mk j 5) (fun i => mo 1 (1452 * j + i))
theorem RT.cg (h : RT bsa mo) (h2 : mo' 2 = mo 2) (h3 : mo' 3 = mo 3) : RT bsa mo' := by
  obtain ⟨p, p1, p2, p3, p4⟩ := h
  exact ⟨p, p1, p2, by rw [h3]; exact p3, fun j hj => by rw [h2]; exact p4 j hj⟩
theorem LI.next (h : LI N k P mk sm bsa pn fo ro ra vc os li mo) (hR : ∃ n v, RF n v fo' ro' ra' vc' os' li' (mo' 0)) (hT : RT bsa' mo') (hp : ∃ M, M ≤ 13 * (N + 1) ∧ PM M pn') (e21 : mo' 21 = mo 21) (e1 : ∀ j, j < 11616 → mo' 1 j = mo 1 j) : LI (N + 1) k P mk sm bsa' pn' fo' ro' ra' vc' os' li' mo' := by
  obtain ⟨-, -, -, h1, h2, h3, h4, h5⟩ := h
  refine ⟨hR, hT, hp, h1, by rw [e21]; exact h2, h3, h4, fun j hj => ?_⟩
  obtain ⟨n, v, hh⟩ := h5 j hj
  exact ⟨n, v, hh.cg (fun i _ hi => e1 (1452 * j + i) (by omega))⟩
theorem LI.kpp (h : LI N k P mk sm bsa pn fo ro ra vc os li mo) (hR : ∃ n v, RF n v fo' ro' ra' vc' os' li' (mo' 0)) (kp : KP mo mo') (hp : ∃ M, M ≤ 13 * (N + 1) ∧ PM M pn') : LI (N + 1) k P mk sm bsa pn' fo' ro' ra' vc' os' li' mo' := h.next hR (h.2.1.cg kp.1 kp.2.1) hp kp.2.2.1 kp.2.2.2
theorem LI.pm (h : LI N k P mk sm bsa pn fo ro ra vc os li mo) : ∃ M, M ≤ 13 * (N + 1) ∧ PM M pn := by
  obtain ⟨M, m1, m2⟩ := h.2.2.1
  exact ⟨M, by omega, m2⟩
theorem LI.kp (h : LI N k P mk sm bsa pn fo ro ra vc os li mo) (hR : ∃ n v, RF n v fo' ro' ra' vc' os' li' (mo' 0)) (kp : KP mo mo') : LI (N + 1) k P mk sm bsa pn fo' ro' ra' vc' os' li' mo' := h.kpp hR kp h.pm
theorem LI.same (h : LI N k P mk sm bsa pn fo ro ra vc os li mo) : LI (N + 1) k P mk sm bsa pn fo ro ra vc os li mo := h.kp h.1 KP.rf
theorem KP.of (h : ∀ j, j ≠ 0 → mo' j = mo j) : KP mo mo' := ⟨h 2 (by omega), h 3 (by omega), h 21 (by omega), fun _ _ => by rw [h 1 (by omega)]⟩
theorem s_feed (hN : N ≤ 512) (h : LI N k P mk sm bsa pn fo ro ra vc os li mo) : ∃ r bsa' mo', St_feed bsa x y z w t = some (r, bsa') ∧ Mo_feed mo x y z w t = some (r, mo') ∧ LI (N + 1) k P mk sm bsa' pn fo ro ra vc os li mo' := by
  obtain ⟨⟨n, v, hR⟩, hT, ⟨M, hM1, hM2⟩, e1, e2, -⟩ := id h
  obtain ⟨r, bsa', mo', o1, o2, o3, o4, o5, o6⟩ := q_feed (a := x) (b := y) (c := z) (d := w) (e := t) hT
  exact ⟨r, bsa', mo', o1, o2, h.next (by rw [o4]; exact h.1) o3 h.pm o6 (fun j _ => by rw [o5])⟩
theorem s_schedule (hN : N ≤ 512) (h : LI N k P mk sm bsa pn fo ro ra vc os li mo) : ∃ r bsa' rd' rof' fo' ro' vc' os' li' mo', St_schedule bsa rd rof fo ro vc os li x = some (r, bsa', rd', rof', fo', ro', vc', os', li') ∧ Mo_schedule mo x = some (r, mo') ∧ LI (N + 1) k P mk sm bsa' pn fo' ro' ra vc' os' li' mo' := by
  obtain ⟨⟨n, v, hR⟩, hT, ⟨M, hM1, hM2⟩, e1, e2, -⟩ := id h
  obtain ⟨r, bsa', rd', rof', fo', ro', vc', os', li', mo', n', v', o1, o2, o3, o4, o5, o6⟩ := q_schedule (x := x) (rd := rd) (rof := rof) hR hT
  exact ⟨r, bsa', rd', rof', fo', ro', vc', os', li', mo', o1, o2, h.next ⟨_, _, o3⟩ o4 h.pm o6 (fun j _ => by rw [o5])⟩
theorem s_flight (hN : N ≤ 512) (h : LI N k P mk sm bsa pn fo ro ra vc os li mo) : ∃ r ro' mo', St_flight ro x y z w = some (r, ro') ∧ Mo_flight mo x y z w = some (r, mo') ∧ LI (N + 1) k P mk sm bsa pn fo ro' ra vc os li mo' := by
  obtain ⟨⟨n, v, hR⟩, hT, ⟨M, hM1, hM2⟩, e1, e2, -⟩ := id h
  obtain ⟨r, ro', s', n', o1, o2, o3⟩ := q_flight (x := x) (y := y) (z := z) (w := w) hR
  exact ⟨r, ro', upA mo 0 s', o1, o2, h.kp ⟨_, _, (by rw [upA_0]; exact o3)⟩ (KP.up (by omega))⟩
theorem s_draws (hN : N ≤ 512) (h : LI N k P mk sm bsa pn fo ro ra vc os li mo) : ∃ r di' rof' fo' ro' vc' os' li' mo', St_draws di rof fo ro vc os li x y = some (r, di', rof', fo', ro', vc', os', li') ∧ Mo_draws mo x y = some (r, mo') ∧ LI (N + 1) k P mk sm bsa pn fo' ro' ra vc' os' li' mo' := by
  obtain ⟨⟨n, v, hR⟩, hT, ⟨M, hM1, hM2⟩, e1, e2, -⟩ := id h
  obtain ⟨r, di', rof', fo', ro', vc', os', li', mo', n', v', o1, o2, o3, o4⟩ := q_draws (x := x) (y := y) (di := di) (rof := rof) hR
  exact ⟨r, di', rof', fo', ro', vc', os', li', mo', o1, o2, h.kp ⟨_, _, o3⟩ o4⟩
theorem s_letter (hN : N ≤ 512) (h : LI N k P mk sm bsa pn fo ro ra vc os li mo) : ∃ r bsb' mo', St_letter bsb ro x = some (r, bsb') ∧ Mo_letter mo x = some (r, mo') ∧ LI (N + 1) k P mk sm bsa pn fo ro ra vc os li mo' := by
  obtain ⟨⟨n, v, hR⟩, hT, ⟨M, hM1, hM2⟩, e1, e2, -⟩ := id h
  obtain ⟨r, bsb', mo', o1, o2, o3, o4⟩ := q_letter (x := x) (bsb := bsb) hR
  exact ⟨r, bsb', mo', o1, o2, h.kp ⟨_, _, o3⟩ o4⟩
theorem s_rate (hN : N ≤ 512) (h : LI N k P mk sm bsa pn fo ro ra vc os li mo) : ∃ r ra' mo', St_rate ra x y = some (r, ra') ∧ Mo_rate mo x y = some (r, mo') ∧ LI (N + 1) k P mk sm bsa pn fo ro ra' vc os li mo' := by
  obtain ⟨⟨n, v, hR⟩, hT, ⟨M, hM1, hM2⟩, e1, e2, -⟩ := id h
  obtain ⟨r, ra', mo', o1, o2, o3, o4⟩ := q_rate (x := x) (y := y) hR
  exact ⟨r, ra', mo', o1, o2, h.kp ⟨_, _, o3⟩ (KP.of o4)⟩
theorem s_storm (hN : N ≤ 512) (h : LI N k P mk sm bsa pn fo ro ra vc os li mo) : ∃ r di' ra' mo', St_storm di ra x y z w = some (r, di', ra') ∧ Mo_storm mo x y z w = some (r, mo') ∧ LI (N + 1) k P mk sm bsa pn fo ro ra' vc os li mo' := by
  obtain ⟨⟨n, v, hR⟩, hT, ⟨M, hM1, hM2⟩, e1, e2, -⟩ := id h
  obtain ⟨r, di', ra', mo', o1, o2, o3, o4⟩ := q_storm (x := x) (y := y) (z := z) (w := w) (di := di) hR
  exact ⟨r, di', ra', mo', o1, o2, h.kp ⟨_, _, o3⟩ o4⟩
theorem s_now (hN : N ≤ 512) (h : LI N k P mk sm bsa pn fo ro ra vc os li mo) : ∃ r fo' mo', St_now fo x = some (r, fo') ∧ Mo_now mo x = some (r, mo') ∧ LI (N + 1) k P mk sm bsa pn fo' ro ra vc os li mo' := by
  obtain ⟨⟨n, v, hR⟩, hT, ⟨M, hM1, hM2⟩, e1, e2, -⟩ := id h
  obtain ⟨r, fo', mo', o1, o2, o3, o4⟩ := q_now (x := x) hR
  exact ⟨r, fo', mo', o1, o2, h.kp ⟨_, _, o3⟩ (KP.of o4)⟩
theorem s_told (hN : N ≤ 512) (h : LI N k P mk sm bsa pn fo ro ra vc os li mo) : ∃ r, St_told fo ro x y = some r ∧ Mo_told mo x y = some r ∧ LI (N + 1) k P mk sm bsa pn fo ro ra vc os li mo := by
  obtain ⟨⟨n, v, hR⟩, hT, ⟨M, hM1, hM2⟩, e1, e2, -⟩ := id h
  obtain ⟨r, o1, o2⟩ := q_told (x := x) (y := y) hR
  exact ⟨r, o1, o2, h.same⟩
theorem s_slot (hN : N ≤ 512) (h : LI N k P mk sm bsa pn fo ro ra vc os li mo) : ∃ r, St_slot ra x = some r ∧ Mo_slot mo x = some r ∧ LI (N + 1) k P mk sm bsa pn fo ro ra vc os li mo := by
  obtain ⟨⟨n, v, hR⟩, hT, ⟨M, hM1, hM2⟩, e1, e2, -⟩ := id h
  obtain ⟨r, o1, o2⟩ := q_slot (x := x) hR
  exact ⟨r, o1, o2, h.same⟩
theorem s_at (hN : N ≤ 512) (h : LI N k P mk sm bsa pn fo ro ra vc os li mo) : ∃ r, St_at fo ra vc x = some r ∧ Mo_at mo x = some r ∧ LI (N + 1) k P mk sm bsa pn fo ro ra vc os li mo := by
  obtain ⟨⟨n, v, hR⟩, hT, ⟨M, hM1, hM2⟩, e1, e2, -⟩ := id h
  obtain ⟨r, o1, o2⟩ := q_at (x := x) hR
  exact ⟨r, o1, o2, h.same⟩
theorem s_plan (hN : N ≤ 512) (h : LI N k P mk sm bsa pn fo ro ra vc os li mo) : ∃ r pn' fo' vc' os' mo', St_plan pn fo ro ra vc os = some (r, pn', fo', vc', os') ∧ Mo_plan mo = some (r, mo') ∧ LI (N + 1) k P mk sm bsa pn' fo' ro ra vc' os' li mo' := by
  obtain ⟨⟨n, v, hR⟩, hT, ⟨M, hM1, hM2⟩, e1, e2, -⟩ := id h
  obtain ⟨r, pn', fo', vc', os', mo', v', o1, o2, o3, o4, M', m1, m2⟩ := q_plan  hR hM2 (by omega)
  have hm : ∃ M, M ≤ 13 * (N + 1) ∧ PM M pn' := ⟨M', by omega, m2⟩
  exact ⟨r, pn', fo', vc', os', mo', o1, o2, h.kpp ⟨_, _, o3⟩ o4 hm⟩
theorem s_revise (hN : N ≤ 512) (h : LI N k P mk sm bsa pn fo ro ra vc os li mo) : ∃ r pn' fo' vc' os' mo', St_revise pn fo ro ra vc os = some (r, pn', fo', vc', os') ∧ Mo_revise mo = some (r, mo') ∧ LI (N + 1) k P mk sm bsa pn' fo' ro ra vc' os' li mo' := by
  obtain ⟨⟨n, v, hR⟩, hT, ⟨M, hM1, hM2⟩, e1, e2, -⟩ := id h
  obtain ⟨r, pn', fo', vc', os', mo', v', o1, o2, o3, o4, M', m1, m2⟩ := q_revise  hR hM2 (by omega)
  have hm : ∃ M, M ≤ 13 * (N + 1) ∧ PM M pn' := ⟨M', by omega, m2⟩
  exact ⟨r, pn', fo', vc', os', mo', o1, o2, h.kpp ⟨_, _, o3⟩ o4 hm⟩
theorem s_cancel (hN : N ≤ 512) (h : LI N k P mk sm bsa pn fo ro ra vc os li mo) : ∃ r fo' vc' mo', St_cancel fo ro vc x = some (r, fo', vc') ∧ Mo_cancel mo x = some (r, mo') ∧ LI (N + 1) k P mk sm bsa pn fo' ro ra vc' os li mo' := by
  obtain ⟨⟨n, v, hR⟩, hT, ⟨M, hM1, hM2⟩, e1, e2, -⟩ := id h
  obtain ⟨r, fo', vc', s', v', o1, o2, o3⟩ := q_cancel (x := x) hR
  exact ⟨r, fo', vc', upA mo 0 s', o1, o2, h.kp ⟨_, _, (by rw [upA_0]; exact o3)⟩ (KP.up (by omega))⟩
theorem s_exchange (hN : N ≤ 512) (h : LI N k P mk sm bsa pn fo ro ra vc os li mo) : ∃ r fo' mo', St_exchange fo ro x y = some (r, fo') ∧ Mo_exchange mo x y = some (r, mo') ∧ LI (N + 1) k P mk sm bsa pn fo' ro ra vc os li mo' := by
  obtain ⟨⟨n, v, hR⟩, hT, ⟨M, hM1, hM2⟩, e1, e2, -⟩ := id h
  obtain ⟨r, fo', s', o1, o2, o3⟩ := q_exchange (x := x) (y := y) hR
  exact ⟨r, fo', upA mo 0 s', o1, o2, h.kp ⟨_, _, (by rw [upA_0]; exact o3)⟩ (KP.up (by omega))⟩
theorem s_move (hN : N ≤ 512) (h : LI N k P mk sm bsa pn fo ro ra vc os li mo) : ∃ r fo' vc' mo', St_move fo ro vc x y = some (r, fo', vc') ∧ Mo_move mo x y = some (r, mo') ∧ LI (N + 1) k P mk sm bsa pn fo' ro ra vc' os li mo' := by
  obtain ⟨⟨n, v, hR⟩, hT, ⟨M, hM1, hM2⟩, e1, e2, -⟩ := id h
  obtain ⟨r, fo', vc', s', v', o1, o2, o3⟩ := q_move (x := x) (y := y) hR
  exact ⟨r, fo', vc', upA mo 0 s', o1, o2, h.kp ⟨_, _, (by rw [upA_0]; exact o3)⟩ (KP.up (by omega))⟩
theorem s_fill (hN : N ≤ 512) (h : LI N k P mk sm bsa pn fo ro ra vc os li mo) : ∃ r fo' vc' mo', St_fill fo ro vc = some (r, fo', vc') ∧ Mo_fill mo = some (r, mo') ∧ LI (N + 1) k P mk sm bsa pn fo' ro ra vc' os li mo' := by
  obtain ⟨⟨n, v, hR⟩, hT, ⟨M, hM1, hM2⟩, e1, e2, -⟩ := id h
  obtain ⟨r, fo', vc', s', o1, o2, o3⟩ := q_fill  hR
  exact ⟨r, fo', vc', upA mo 0 s', o1, o2, h.kp ⟨_, _, (by rw [upA_0]; exact o3)⟩ (KP.up (by omega))⟩
theorem s_vacant (hN : N ≤ 512) (h : LI N k P mk sm bsa pn fo ro ra vc os li mo) : ∃ r, St_vacant vc x y = some r ∧ Mo_vacant mo x y = some r ∧ LI (N + 1) k P mk sm bsa pn fo ro ra vc os li mo := by
  obtain ⟨⟨n, v, hR⟩, hT, ⟨M, hM1, hM2⟩, e1, e2, -⟩ := id h
  obtain ⟨r, o1, o2⟩ := q_vacant (x := x) (y := y) hR
  exact ⟨r, o1, o2, h.same⟩
theorem s_offer (hN : N ≤ 512) (h : LI N k P mk sm bsa pn fo ro ra vc os li mo) : ∃ r os' mo', St_offer fo ro os x y z w = some (r, os') ∧ Mo_offer mo x y z w = some (r, mo') ∧ LI (N + 1) k P mk sm bsa pn fo ro ra vc os' li mo' := by
  obtain ⟨⟨n, v, hR⟩, hT, ⟨M, hM1, hM2⟩, e1, e2, -⟩ := id h
  obtain ⟨r, os', s', o1, o2, o3⟩ := q_offer (a := x) (x := y) (b := z) (y := w) hR
  exact ⟨r, os', upA mo 0 s', o1, o2, h.kp ⟨_, _, (by rw [upA_0]; exact o3)⟩ (KP.up (by omega))⟩
theorem s_withdraw (hN : N ≤ 512) (h : LI N k P mk sm bsa pn fo ro ra vc os li mo) : ∃ r os' mo', St_withdraw os x = some (r, os') ∧ Mo_withdraw mo x = some (r, mo') ∧ LI (N + 1) k P mk sm bsa pn fo ro ra vc os' li mo' := by
  obtain ⟨⟨n, v, hR⟩, hT, ⟨M, hM1, hM2⟩, e1, e2, -⟩ := id h
  obtain ⟨r, os', s', o1, o2, o3⟩ := q_withdraw (x := x) hR
  exact ⟨r, os', upA mo 0 s', o1, o2, h.kp ⟨_, _, (by rw [upA_0]; exact o3)⟩ (KP.up (by omega))⟩
theorem s_offered (hN : N ≤ 512) (h : LI N k P mk sm bsa pn fo ro ra vc os li mo) : ∃ r, St_offered os x y = some r ∧ Mo_offered mo x y = some r ∧ LI (N + 1) k P mk sm bsa pn fo ro ra vc os li mo := by
  obtain ⟨⟨n, v, hR⟩, hT, ⟨M, hM1, hM2⟩, e1, e2, -⟩ := id h
  obtain ⟨r, o1, o2⟩ := q_offered (x := x) (y := y) hR
  exact ⟨r, o1, o2, h.same⟩
theorem s_deal (hN : N ≤ 512) (h : LI N k P mk sm bsa pn fo ro ra vc os li mo) : ∃ r fo' os' mo', St_deal fo ro os x y = some (r, fo', os') ∧ Mo_deal mo x y = some (r, mo') ∧ LI (N + 1) k P mk sm bsa pn fo' ro ra vc os' li mo' := by
  obtain ⟨⟨n, v, hR⟩, hT, ⟨M, hM1, hM2⟩, e1, e2, -⟩ := id h
  obtain ⟨r, fo', os', s', o1, o2, o3⟩ := q_deal (x := x) (y := y) hR
  exact ⟨r, fo', os', upA mo 0 s', o1, o2, h.kp ⟨_, _, (by rw [upA_0]; exact o3)⟩ (KP.up (by omega))⟩
theorem s_bestDeal (hN : N ≤ 512) (h : LI N k P mk sm bsa pn fo ro ra vc os li mo) : ∃ r  mo', St_bestDeal fo ro os x = some r ∧ Mo_bestDeal mo x = some (r, mo') ∧ LI (N + 1) k P mk sm bsa pn fo ro ra vc os li mo' := by
  obtain ⟨⟨n, v, hR⟩, hT, ⟨M, hM1, hM2⟩, e1, e2, -⟩ := id h
  obtain ⟨r, mo', o1, o2, o3, o4⟩ := q_bestDeal (x := x) hR
  exact ⟨r, mo', o1, o2, h.kp ⟨_, _, o3⟩ o4⟩
theorem s_line (hN : N ≤ 512) (h : LI N k P mk sm bsa pn fo ro ra vc os li mo) : ∃ r, St_line fo ro vc x y = some r ∧ Mo_line mo x y = some r ∧ LI (N + 1) k P mk sm bsa pn fo ro ra vc os li mo := by
  obtain ⟨⟨n, v, hR⟩, hT, ⟨M, hM1, hM2⟩, e1, e2, -⟩ := id h
  obtain ⟨r, o1, o2⟩ := q_line (x := x) (y := y) hR
  exact ⟨r, o1, o2, h.same⟩
theorem s_bestOrder (hN : N ≤ 512) (h : LI N k P mk sm bsa pn fo ro ra vc os li mo) : ∃ r se' mo', St_bestOrder se fo ro x y = some (r, se') ∧ Mo_bestOrder mo x y = some (r, mo') ∧ LI (N + 1) k P mk sm bsa pn fo ro ra vc os li mo' := by
  obtain ⟨⟨n, v, hR⟩, hT, ⟨M, hM1, hM2⟩, e1, e2, -⟩ := id h
  obtain ⟨r, se', mo', o1, o2, o3, o4⟩ := q_bestOrder (x := x) (y := y) (se := se) hR
  exact ⟨r, se', mo', o1, o2, h.kp ⟨_, _, o3⟩ o4⟩
theorem s_order (hN : N ≤ 512) (h : LI N k P mk sm bsa pn fo ro ra vc os li mo) : ∃ r se' fo' mo', St_order se fo ro x = some (r, se', fo') ∧ Mo_order mo x = some (r, mo') ∧ LI (N + 1) k P mk sm bsa pn fo' ro ra vc os li mo' := by
  obtain ⟨⟨n, v, hR⟩, hT, ⟨M, hM1, hM2⟩, e1, e2, -⟩ := id h
  obtain ⟨r, se', fo', mo', o1, o2, o3, o4⟩ := q_order (x := x) (se := se) hR
  exact ⟨r, se', fo', mo', o1, o2, h.kp ⟨_, _, o3⟩ o4⟩
theorem s_bestCancel (hN : N ≤ 512) (h : LI N k P mk sm bsa pn fo ro ra vc os li mo) : ∃ r fot' rot' rat' vct' ost' lit' mo', St_bestCancel fo ro ra vc os li fot rot rat vct ost lit x y = some (r, fot', rot', rat', vct', ost', lit') ∧ Mo_bestCancel mo x y = some (r, mo') ∧ LI (N + 1) k P mk sm bsa pn fo ro ra vc os li mo' := by
  obtain ⟨⟨n, v, hR⟩, hT, ⟨M, hM1, hM2⟩, e1, e2, -⟩ := id h
  obtain ⟨r, a1, a2, a3, a4, a5, a6, mo', o1, o2, o3, o4⟩ := q_bestCancel (x := x) (y := y) (fot := fot) (rot := rot) (rat := rat) (vct := vct) (ost := ost) (lit := lit) hR
  exact ⟨r, a1, a2, a3, a4, a5, a6, mo', o1, o2, h.kp ⟨_, _, o3⟩ o4⟩
theorem s_helps (hN : N ≤ 512) (h : LI N k P mk sm bsa pn fo ro ra vc os li mo) : ∃ r fot' rot' rat' vct' ost' lit' mo', St_helps fo ro ra vc os li fot rot rat vct ost lit x y = some (r, fot', rot', rat', vct', ost', lit') ∧ Mo_helps mo x y = some (r, mo') ∧ LI (N + 1) k P mk sm bsa pn fo ro ra vc os li mo' := by
  obtain ⟨⟨n, v, hR⟩, hT, ⟨M, hM1, hM2⟩, e1, e2, -⟩ := id h
  obtain ⟨r, a1, a2, a3, a4, a5, a6, mo', o1, o2, o3, o4⟩ := q_helps (x := x) (y := y) (fot := fot) (rot := rot) (rat := rat) (vct := vct) (ost := ost) (lit := lit) hR
  exact ⟨r, a1, a2, a3, a4, a5, a6, mo', o1, o2, h.kp ⟨_, _, o3⟩ o4⟩
theorem s_rank (hN : N ≤ 512) (h : LI N k P mk sm bsa pn fo ro ra vc os li mo) : ∃ r, St_rank fo ro x = some r ∧ Mo_rank mo x = some r ∧ LI (N + 1) k P mk sm bsa pn fo ro ra vc os li mo := by
  obtain ⟨⟨n, v, hR⟩, hT, ⟨M, hM1, hM2⟩, e1, e2, -⟩ := id h
  obtain ⟨r, o1, o2⟩ := q_rank (x := x) hR
  exact ⟨r, o1, o2, h.same⟩
theorem s_unfair (hN : N ≤ 512) (h : LI N k P mk sm bsa pn fo ro ra vc os li mo) : ∃ r, St_unfair fo ro = some r ∧ Mo_unfair mo = some r ∧ LI (N + 1) k P mk sm bsa pn fo ro ra vc os li mo := by
  obtain ⟨⟨n, v, hR⟩, hT, ⟨M, hM1, hM2⟩, e1, e2, -⟩ := id h
  obtain ⟨r, o1, o2⟩ := q_unfair  hR
  exact ⟨r, o1, o2, h.same⟩
theorem s_link (hN : N ≤ 512) (h : LI N k P mk sm bsa pn fo ro ra vc os li mo) : ∃ r li' mo', St_link ro li x y z = some (r, li') ∧ Mo_link mo x y z = some (r, mo') ∧ LI (N + 1) k P mk sm bsa pn fo ro ra vc os li' mo' := by
  obtain ⟨⟨n, v, hR⟩, hT, ⟨M, hM1, hM2⟩, e1, e2, -⟩ := id h
  obtain ⟨r, li', s', o1, o2, o3⟩ := q_link (x := x) (y := y) (z := z) hR
  exact ⟨r, li', upA mo 0 s', o1, o2, h.kp ⟨_, _, (by rw [upA_0]; exact o3)⟩ (KP.up (by omega))⟩
theorem s_linked (hN : N ≤ 512) (h : LI N k P mk sm bsa pn fo ro ra vc os li mo) : ∃ r, St_linked fo ro li x y = some r ∧ Mo_linked mo x y = some r ∧ LI (N + 1) k P mk sm bsa pn fo ro ra vc os li mo := by
  obtain ⟨⟨n, v, hR⟩, hT, ⟨M, hM1, hM2⟩, e1, e2, -⟩ := id h
  obtain ⟨r, o1, o2⟩ := q_linked (x := x) (y := y) hR
  exact ⟨r, o1, o2, h.same⟩
theorem s_breaks (hN : N ≤ 512) (h : LI N k P mk sm bsa pn fo ro ra vc os li mo) : ∃ r fot' rot' rat' vct' ost' lit' mo', St_breaks fo ro ra vc os li fot rot rat vct ost lit x y = some (r, fot', rot', rat', vct', ost', lit') ∧ Mo_breaks mo x y = some (r, mo') ∧ LI (N + 1) k P mk sm bsa pn fo ro ra vc os li mo' := by
  obtain ⟨⟨n, v, hR⟩, hT, ⟨M, hM1, hM2⟩, e1, e2, -⟩ := id h
  obtain ⟨r, a1, a2, a3, a4, a5, a6, s', o1, o2, o3⟩ := q_breaks (x := x) (y := y) (fot := fot) (rot := rot) (rat := rat) (vct := vct) (ost := ost) (lit := lit) hR
  exact ⟨r, a1, a2, a3, a4, a5, a6, upA mo 0 s', o1, o2, h.kp ⟨_, _, (by rw [upA_0]; exact o3)⟩ (KP.up (by omega))⟩
theorem s_round (hN : N ≤ 512) (h : LI N k P mk sm bsa pn fo ro ra vc os li mo) : ∃ r fo' os' mo', St_round fo ro os x y z = some (r, fo', os') ∧ Mo_round mo x y z = some (r, mo') ∧ LI (N + 1) k P mk sm bsa pn fo' ro ra vc os' li mo' := by
  obtain ⟨⟨n, v, hR⟩, hT, ⟨M, hM1, hM2⟩, e1, e2, -⟩ := id h
  obtain ⟨r, fo', os', s', o1, o2, o3⟩ := q_round (x := x) (y := y) (z := z) hR
  exact ⟨r, fo', os', upA mo 0 s', o1, o2, h.kp ⟨_, _, (by rw [upA_0]; exact o3)⟩ (KP.up (by omega))⟩
theorem s_cancelAll (hN : N ≤ 512) (h : LI N k P mk sm bsa pn fo ro ra vc os li mo) : ∃ r fo' vc' mo', St_cancelAll fo ro vc x = some (r, fo', vc') ∧ Mo_cancelAll mo x = some (r, mo') ∧ LI (N + 1) k P mk sm bsa pn fo' ro ra vc' os li mo' := by
  obtain ⟨⟨n, v, hR⟩, hT, ⟨M, hM1, hM2⟩, e1, e2, -⟩ := id h
  obtain ⟨r, fo', vc', s', v', o1, o2, o3⟩ := q_cancelAll (x := x) hR
  exact ⟨r, fo', vc', upA mo 0 s', o1, o2, h.kp ⟨_, _, (by rw [upA_0]; exact o3)⟩ (KP.up (by omega))⟩
theorem s_byRule (hN : N ≤ 512) (h : LI N k P mk sm bsa pn fo ro ra vc os li mo) : ∃ r pn' fot' rot' rat' vct' ost' lit' mo', St_byRule pn fo ro ra vc os li fot rot rat vct ost lit x y = some (r, pn', fot', rot', rat', vct', ost', lit') ∧ Mo_byRule mo x y = some (r, mo') ∧ LI (N + 1) k P mk sm bsa pn' fo ro ra vc os li mo' := by
  obtain ⟨⟨n, v, hR⟩, hT, ⟨M, hM1, hM2⟩, e1, e2, -⟩ := id h
  obtain ⟨r, pn', a1, a2, a3, a4, a5, a6, mo', o1, o2, o3, o4, M', m1, m2⟩ := q_byRule (x := x) (y := y) (fot := fot) (rot := rot) (rat := rat) (vct := vct) (ost := ost) (lit := lit) hR hM2 (by omega)
  have hm : ∃ M, M ≤ 13 * (N + 1) ∧ PM M pn' := ⟨M', by omega, m2⟩
  exact ⟨r, pn', a1, a2, a3, a4, a5, a6, mo', o1, o2, h.kpp ⟨_, _, o3⟩ o4 hm⟩
theorem s_demand (hN : N ≤ 512) (h : LI N k P mk sm bsa pn fo ro ra vc os li mo) : ∃ r, St_demand fo ro ra x y = some r ∧ Mo_demand mo x y = some r ∧ LI (N + 1) k P mk sm bsa pn fo ro ra vc os li mo := by
  obtain ⟨⟨n, v, hR⟩, hT, ⟨M, hM1, hM2⟩, e1, e2, -⟩ := id h
  obtain ⟨r, o1, o2⟩ := q_demand (x := x) (y := y) hR
  exact ⟨r, o1, o2, h.same⟩
theorem s_crowded (hN : N ≤ 512) (h : LI N k P mk sm bsa pn fo ro ra vc os li mo) : ∃ r, St_crowded fo ro x = some r ∧ Mo_crowded mo x = some r ∧ LI (N + 1) k P mk sm bsa pn fo ro ra vc os li mo := by
  obtain ⟨⟨n, v, hR⟩, hT, ⟨M, hM1, hM2⟩, e1, e2, -⟩ := id h
  obtain ⟨r, o1, o2⟩ := q_crowded (x := x) hR
  exact ⟨r, o1, o2, h.same⟩
theorem s_would (hN : N ≤ 512) (h : LI N k P mk sm bsa pn fo ro ra vc os li mo) : ∃ r pn' fot' rot' rat' vct' ost' lit' mo', St_would pn fo ro ra vc os li fot rot rat vct ost lit x y z w = some (r, pn', fot', rot', rat', vct', ost', lit') ∧ Mo_would mo x y z w = some (r, mo') ∧ LI (N + 1) k P mk sm bsa pn' fo ro ra vc os li mo' := by
  obtain ⟨⟨n, v, hR⟩, hT, ⟨M, hM1, hM2⟩, e1, e2, -⟩ := id h
  obtain ⟨r, pn', a1, a2, a3, a4, a5, a6, mo', o1, o2, o3, o4, M', m1, m2⟩ := q_would (x := x) (y := y) (z := z) (w := w) (fot := fot) (rot := rot) (rat := rat) (vct := vct) (ost := ost) (lit := lit) hR hM2 (by omega)
  have hm : ∃ M, M ≤ 13 * (N + 1) ∧ PM M pn' := ⟨M', by omega, m2⟩
  exact ⟨r, pn', a1, a2, a3, a4, a5, a6, mo', o1, o2, h.kpp ⟨_, _, o3⟩ o4 hm⟩
theorem s_rateFor (hN : N ≤ 512) (h : LI N k P mk sm bsa pn fo ro ra vc os li mo) : ∃ r pn' fot' rot' rat' vct' ost' lit' mo', St_rateFor pn fo ro ra vc os li fot rot rat vct ost lit x y z = some (r, pn', fot', rot', rat', vct', ost', lit') ∧ Mo_rateFor mo x y z = some (r, mo') ∧ LI (N + 1) k P mk sm bsa pn' fo ro ra vc os li mo' := by
  obtain ⟨⟨n, v, hR⟩, hT, ⟨M, hM1, hM2⟩, e1, e2, -⟩ := id h
  obtain ⟨r, pn', a1, a2, a3, a4, a5, a6, mo', o1, o2, o3, o4, M', m1, m2⟩ := q_rateFor (x := x) (y := y) (z := z) (fot := fot) (rot := rot) (rat := rat) (vct := vct) (ost := ost) (lit := lit) hR hM2 (by omega)
  have hm : ∃ M, M ≤ 13 * (N + 1) ∧ PM M pn' := ⟨M', by omega, m2⟩
  exact ⟨r, pn', a1, a2, a3, a4, a5, a6, mo', o1, o2, h.kpp ⟨_, _, o3⟩ o4 hm⟩
theorem s_ifCut (hN : N ≤ 512) (h : LI N k P mk sm bsa pn fo ro ra vc os li mo) : ∃ r pn' fot' rot' rat' vct' ost' lit' mo', St_ifCut pn fo ro ra vc os li fot rot rat vct ost lit x y = some (r, pn', fot', rot', rat', vct', ost', lit') ∧ Mo_ifCut mo x y = some (r, mo') ∧ LI (N + 1) k P mk sm bsa pn' fo ro ra vc os li mo' := by
  obtain ⟨⟨n, v, hR⟩, hT, ⟨M, hM1, hM2⟩, e1, e2, -⟩ := id h
  obtain ⟨r, pn', a1, a2, a3, a4, a5, a6, mo', o1, o2, o3, o4, M', m1, m2⟩ := q_ifCut (x := x) (y := y) (fot := fot) (rot := rot) (rat := rat) (vct := vct) (ost := ost) (lit := lit) hR hM2 (by omega)
  have hm : ∃ M, M ≤ 13 * (N + 1) ∧ PM M pn' := ⟨M', by omega, m2⟩
  exact ⟨r, pn', a1, a2, a3, a4, a5, a6, mo', o1, o2, h.kpp ⟨_, _, o3⟩ o4 hm⟩
theorem s_airborne (hN : N ≤ 512) (h : LI N k P mk sm bsa pn fo ro ra vc os li mo) : ∃ r, St_airborne fo ro x = some r ∧ Mo_airborne mo x = some r ∧ LI (N + 1) k P mk sm bsa pn fo ro ra vc os li mo := by
  obtain ⟨⟨n, v, hR⟩, hT, ⟨M, hM1, hM2⟩, e1, e2, -⟩ := id h
  obtain ⟨r, o1, o2⟩ := q_airborne (x := x) hR
  exact ⟨r, o1, o2, h.same⟩
theorem s_next (hN : N ≤ 512) (h : LI N k P mk sm bsa pn fo ro ra vc os li mo) : ∃ r, St_next fo x = some r ∧ Mo_next mo x = some r ∧ LI (N + 1) k P mk sm bsa pn fo ro ra vc os li mo := by
  obtain ⟨⟨n, v, hR⟩, hT, ⟨M, hM1, hM2⟩, e1, e2, -⟩ := id h
  obtain ⟨r, o1, o2⟩ := q_next (x := x) hR
  exact ⟨r, o1, o2, h.same⟩
theorem s_count (hN : N ≤ 512) (h : LI N k P mk sm bsa pn fo ro ra vc os li mo) : ∃ r, St_count sm bsa fo ro ra vc os li x = some r ∧ Mo_count mo x = some r ∧ LI (N + 1) k P mk sm bsa pn fo ro ra vc os li mo := by
  obtain ⟨⟨n, v, hR⟩, hT, ⟨M, hM1, hM2⟩, e1, e2, -⟩ := id h
  obtain ⟨r, o1, o2⟩ := q_count (x := x) (smm := sm) (bsa := bsa) hR (by obtain ⟨p, p1, p2, p3, p4⟩ := hT; rw [p2, p3]) (by rw [e1, e2])
  exact ⟨r, o1, o2, h.same⟩
end ST
