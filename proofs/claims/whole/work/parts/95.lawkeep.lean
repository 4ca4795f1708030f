/-! the law: keep and undo -/
section LKP
theorem FrS_pg {wc w1 b : va_W} : FrS (wc ++ b) wc w1 (w1 ++ b) := by
  have sub : ∀ q, q ∈ wc → q ∈ wc ++ b := fun q h => List.mem_append.mpr (Or.inl h)
  refine ⟨fun D H h => P_mem.mpr (fun q hq => P_mem.mp h q (sub q hq)), fun A h => ?_, fun A z hD hA q h => ?_, fun D A H H1 hP hD hA hk hP1 hD1 => ?_⟩
  · obtain ⟨h1, h2⟩ := D_nd.mp h
    rw [List.map_append] at h1
    exact D_nd.mpr ⟨(List.nodup_append.mp h1).1, fun q hq => h2 q (sub q hq)⟩
  · rcases A_in h with ⟨e, h⟩ | h
    · exact (D_nd.mp hD).2 _ (sub _ h)
    · exact hA q h
  · obtain ⟨n1, n2⟩ := D_nd.mp hD
    rw [List.map_append] at n1
    have na := List.nodup_append.mp n1
    obtain ⟨d1, d2⟩ := D_nd.mp hD1
    have nb : ∀ q, q ∈ b → ¬ va_A wc H.size q.1 := fun q hq h => by
      have at0 := P_mem.mp hP q (List.mem_append.mpr (Or.inr hq))
      rcases A_in h with ⟨e, h⟩ | h
      · exact na.2.2 q.1 (List.mem_map.mpr ⟨(q.1, e), h, rfl⟩) q.1 (List.mem_map.mpr ⟨q, hq, rfl⟩) rfl
      · exact absurd at0.lt (Nat.not_lt.mpr h)
    refine ⟨P_mem.mpr (fun q hq => ?_), D_nd.mpr ⟨?_, fun q hq => ?_⟩⟩
    · rcases List.mem_append.mp hq with h | h
      · exact P_mem.mp hP1 q h
      · have at0 := P_mem.mp hP q (List.mem_append.mpr (Or.inr h))
        exact at0.kept (hk q.1 at0.lt (nb q h))
    · rw [List.map_append]
      refine List.nodup_append.mpr ⟨d1, na.2.1, fun x hx y hy e => ?_⟩
      obtain ⟨q, hq, rfl⟩ := List.mem_map.mp hx
      obtain ⟨q', hq', rfl⟩ := List.mem_map.mp hy
      have := d2 q hq
      rw [e] at this
      exact nb q' hq' this
    · rcases List.mem_append.mp hq with h | h
      · exact hA q.1 (d2 q h)
      · exact n2 q (List.mem_append.mpr (Or.inr h))
variable {p : Program} {l : Launch} {e : Env} {R : Room} {s : State} {m : MethodId} {args : Array Value} {below : List Frame} {meth : Method} {c : Code} {H : Heap} {locs : List Loc} {cells slots : Nat} {Q : State → Prop} {cc : ByteArray} {pc : Nat} {ls : Array Slot} {rest : List Value} {D : va_G} {A : Nat → Prop} {cy : Nat → ClassId} {a : Nat}
theorem k_RGV {y : MethodName} {b : ByteArray} {n d nL na idx mc ms : Nat} {own C : String} {As : List Value} {wc bb : va_W} {ck : ClassId} {B : Int32 → va_W → Prop} (S : CallFix p m c cc nL s args tb own) (hK : kN D cy s) (hN : NC s) (hQ : kQ D cy ck s) (hP : va_P D vwCl (wc ++ bb) H) (hD : va_D A (wc ++ bb)) (hS : va_S A s.heap H locs) (hA : ∀ q, s.heap.size ≤ q → A q) (cw : CallW R s args own C idx y b n (some .int) (wl y b n (some .int)) (rmN d mc ms) mc ms na) (q0 : Nat) {ci : Nat} {fs : List Value} {cq : vw_C} (hc : vwCl[ci]? = some cq) (hC : cq.1 = C) (he : wc[q0]? = some (a, .inr (ci, fs))) (hM : RG l y b n d mc ms D cy ck (.ref a :: As) wc B) (hn : As.length = na) (hls : ls.size = nL) (hrm : (rest.map fun v => v.category).sum ≤ 8) (hf : cells + mc ≤ R.cells ∧ slots + ms ≤ R.slots) (hdg : decode cc pc = .ok (.invokevirtual idx, 3))
    (kk : ∀ (r : Int32) (w : va_W) (H1 : Heap) (locs1 : List Loc), B r w → va_P D vwCl (w ++ bb) H1 → va_D A (w ++ bb) → va_S A s.heap H1 locs1 → W p l e R s m args below meth c H1 locs1 (cells + mc) (slots + ms) Q (F0 m (pc + 3) ls (.int r :: rest))) : W p l e R s m args below meth c H locs cells slots Q (F0 m pc ls (As.reverse ++ .ref a :: rest)) := by
  subst hC
  have hPc := (FrS_pg (w1 := []) (b := bb) (wc := wc)).1 D H hP
  have hDc := (FrS_pg (w1 := []) (b := bb) (wc := wc)).2.1 A hD
  have hFr := (FrS_pg (w1 := []) (b := bb) (wc := wc)).2.2.1 A H.size hD (fun q h => hA q (Nat.le_trans hS.1 h))
  refine va_calli (va_runV (g := F0 m pc ls (As.reverse ++ .ref a :: rest)) (b := a) (As := As) (rest := rest) S (hM H.size) cw ⟨kpP_blind, va_recv hK.1 hPc hc he, fun U hU hW => ⟨rfl, by rw [hU], hK.warm hW, hN.warm hW, kQ.moved hW.alike hQ, by rw [hU]; exact hPc, hDc.weaken (fun _ _ _ _ => trivial)⟩⟩ rfl hn hls rfl (lv_room (rest := As.reverse ++ .ref a :: rest) hrm) hdg hf) hS (fun q _ h => hFr q h) hFr (fun r1 w t H1 locs1 ht hvm hp hB hz hk hS1 => ?_)
  obtain ⟨hP1, hD1⟩ := hB
  rw [ht] at hP1
  obtain ⟨h1, h2⟩ := (FrS_pg (w1 := w)).2.2.2 D A H H1 hP hD hFr hk hP1 hD1
  exact kk r1 w H1 locs1 hp h1 h2 hS1
end LKP
section LKC
variable {p : Program} {l : Launch} {e : Env} {s : State} {m : MethodId} {below : List Frame} {meth : Method} {c : Code} {b L : Nat} {xs : Nat → Int32} {D : va_G} {cy : Nat → ClassId} {ck : ClassId} {u qm : Nat → Nat} {Q : State → Prop} {H : Heap} {locs : List Loc} {cells slots : Nat} {ls : Array Slot} {N k P i : Nat} {qk : Nat → Nat → Nat} {mk : Nat → Nat → Mem} {sm bsa bsb rd di rof pn se fo ro ra vc os li fot rot rat vct ost lit mo : Mem}
theorem s_keep {mk' : Nat → Nat → Mem} {P' : Nat} {a b' c' d e' f : Mem} (hk8 : k < 8) (h : LI N k P mk sm bsa pn fo ro ra vc os li mo) (h1 : k + 1 ≤ P') (h2 : P' ≤ 8) (h3 : ∀ j, j < k → mk' j = mk j) (h4 : mk' k = six a b' c' d e' f) (h5 : CE fo ro ra vc os li a b' c' d e' f) : ∃ mo', Mo_keep mo = some (nI (k + 1), mo') ∧ LI (N + 1) (k + 1) P' mk' (upm sm 10 0 (nI (k + 1))) bsa pn fo ro ra vc os li mo' := by
  obtain ⟨⟨n, v, hR⟩, hT, hM, e1, e2, -, -, hs⟩ := id h
  refine ⟨upm (upA mo 1 (layF (mo 1) (mo 0) k)) 21 0 (nI (k + 1)), ?_, ?_⟩
  · unfold Mo_keep
    rw [e2, if_neg (show ¬ nI k = 8 from fun z => by have := (nI_eq (b := 8) (by omega) (by omega)).mp z; omega), Mo_lays_s (by omega), bn1_r, upA_n _ _ (show (21 : Nat) ≠ 1 by omega), e2, nI_1, stk_r, upm_0, pk_us]
  · have m0 : upm (upA mo 1 (layF (mo 1) (mo 0) k)) 21 0 (nI (k + 1)) 0 = mo 0 := by rw [upm_n _ _ _ (by omega), upA_n _ _ (by omega)]
    have m1 : upm (upA mo 1 (layF (mo 1) (mo 0) k)) 21 0 (nI (k + 1)) 1 = layF (mo 1) (mo 0) k := by rw [upm_n _ _ _ (by omega), upA_0]
    refine ⟨⟨n, v, by rw [m0]; exact hR⟩, hT.cg (by rw [upm_n _ _ _ (by omega), upA_n _ _ (by omega)]) (by rw [upm_n _ _ _ (by omega), upA_n _ _ (by omega)]), h.pm, by rw [upm_0, pk_us], by rw [upm_0, pk_us], h1, h2, fun j hj => ?_⟩
    rw [m1]
    by_cases q : j = k
    · subst q
      rw [h4]
      refine ⟨n, v, (hR.cc h5).cg (fun i _ hi => ?_)⟩
      show layF (mo 1) (mo 0) j (1452 * j + i) = mo 0 i
      unfold layF
      rw [if_pos (by omega), show 1452 * j + i - 1452 * j = i by omega]
    · obtain ⟨n', v', hh⟩ := hs j (by omega)
      rw [h3 j (by omega)]
      refine ⟨n', v', hh.cg (fun i _ hi => ?_)⟩
      show layF (mo 1) (mo 0) k (1452 * j + i) = mo 1 (1452 * j + i)
      unfold layF
      rw [if_neg (by omega)]
theorem s_undo {a b' c' d e' f : Mem} (h : LI N (k + 1) P mk sm bsa pn fo ro ra vc os li mo) (h5 : CE (mk k 0) (mk k 1) (mk k 2) (mk k 3) (mk k 4) (mk k 5) a b' c' d e' f) : ∃ mo', Mo_undo mo = some (nI k, mo') ∧ LI (N + 1) k P mk (upm sm 10 0 (nI k)) bsa pn a b' c' d e' f mo' := by
  obtain ⟨-, hT, hM, e1, e2, e3, e4, hs⟩ := id h
  have k8 : k < 8 := by omega
  obtain ⟨n, v, hR⟩ := hs k (by omega)
  refine ⟨upA (upm mo 21 0 (nI k)) 0 (takF (mo 0) (mo 1) k), ?_, ?_⟩
  · unfold Mo_undo
    rw [e2, if_neg (show ¬ nI (k + 1) = 0 from fun z => by have := (nI_eq (b := 0) (by omega) (by omega)).mp z; omega), show nI (k + 1) - 1 = nI k from pk_sub (a := k + 1) (b := 1) (by omega), stk_r, upm_0, pk_us, Mo_takes_s (by omega), bn1_r, upm_n _ _ _ (show (0 : Nat) ≠ 21 by omega), upm_n _ _ _ (show (1 : Nat) ≠ 21 by omega), upA_n _ _ (show (21 : Nat) ≠ 0 by omega), upm_0, pk_us]
  · have m1 : upA (upm mo 21 0 (nI k)) 0 (takF (mo 0) (mo 1) k) 1 = mo 1 := by rw [upA_n _ _ (by omega), upm_n _ _ _ (by omega)]
    refine ⟨⟨n, v, ?_⟩, hT.cg (by rw [upA_n _ _ (by omega), upm_n _ _ _ (by omega)]) (by rw [upA_n _ _ (by omega), upm_n _ _ _ (by omega)]), h.pm, by rw [upm_0, pk_us], by rw [upA_n _ _ (by omega), upm_0, pk_us], by omega, e4, fun j hj => ?_⟩
    · rw [upA_0]
      refine (hR.cc h5).cg (fun i _ hi => ?_)
      unfold takF
      rw [if_pos hi]
    · rw [m1]
      exact hs j (by omega)
set_option maxRecDepth 100000 in
theorem L_keep (B : LB p s m meth c b L xs D cy ck) (hl : lv_has ls 4 [(3, .int (nI i)), (2, .ref (qm 0)), (1, .ref (u 0)), (0, .ref b)]) (hc : cells ≤ 500000 ∧ slots ≤ 7000000) (hI : LI N k P mk sm bsa pn fo ro ra vc os li mo) (hP : va_P D vwCl (LW cy u ck qk mk P qm sm bsa bsb rd di rof pn se fo ro ra vc os li fot rot rat vct ost lit mo) H) (hD : va_D (AA s) (LW cy u ck qk mk P qm sm bsa bsb rd di rof pn se fo ro ra vc os li fot rot rat vct ost lit mo)) (hS : va_S (AA s) s.heap H locs) (kk : LK p l e s m below meth c b D cy ck u qm Q cells slots ls N) : W p l e room_1 s m #[Value.ref b] below meth c H locs cells slots Q (F0 m 1594 ls []) := by
  obtain ⟨hx, hb, hml, hown, hts, hX, hbl, hK, hN9, hQ9⟩ := id B
  have hA : ∀ q, s.heap.size ≤ q → AA s q := fun _ h => h
  obtain ⟨⟨n, v, hR⟩, hT, hM, e1, e2, e3, e4, hs⟩ := id hI
  refine lv_aload_n hx hb dL_1594 rfl (lv_at hl 2 rfl) ?_
  by_cases k8 : k = 8
  · subst k8
    refine k_ROV (As := []) (rest := []) ⟨hx, hb, hml, hown, hts⟩ hK (P_c hP) (cw_L_196 (d := 1) hts ⟨Nat.le_of_ble_eq_true rfl, Nat.le_of_ble_eq_true rfl⟩) 0 (ci := 11) rfl rfl rfl (c_keepF e1) rfl hl.1 (Nat.le_of_ble_eq_true rfl) ⟨by show cells + 0 ≤ 600000; omega, by show slots + 0 ≤ 7302250; omega⟩ dL_1595 ?_
    refine lv_aload_n hx hb dL_1598 rfl (lv_at hl 1 rfl) ?_
    have o2 : Mo_keep mo = some (-1, mo) := by
      unfold Mo_keep
      rw [e2, if_pos (show nI 8 = 8 from rfl)]
    refine k_RIV (As := []) (rest := [.int (-1)]) ⟨hx, hb, hml, hown, hts⟩ hK hP hD hS hA (wn := LW cy u ck qk mk P qm sm bsa bsb rd di rof pn se fo ro ra vc os li fot rot rat vct ost lit mo) (FrS_m rfl) (cw_L_199 (d := 1) hts ⟨Nat.le_of_ble_eq_true rfl, Nat.le_of_ble_eq_true rfl⟩) 0 (ci := 12) rfl rfl rfl (c_X12_keep l D cy qm mo (-1) mo o2) rfl hl.1 (Nat.le_of_ble_eq_true rfl) ⟨by show cells + 0 ≤ 600000; omega, by show slots + 0 ≤ 7302250; omega⟩ dL_1599 (fun H locs hP hD hS => ?_)
    refine lv_icmp_eq (tgt := 1620) hx hb dL_1602 (by decide) (fun _ => ?_) (fun c1 => absurd rfl c1)
    exact kk _ _ _ _ _ _ _ _ _ _ _ _ _ _ _ _ _ _ _ _ _ _ _ _ _ _ _ _ _ (by omega) (by omega) hI.same hP hD hS
  · refine k_RGV (As := []) (rest := []) ⟨hx, hb, hml, hown, hts⟩ hK hN9 hQ9 hP hD hS hA (⟨callB_of 0 hts (wl_good m_5_134) rfl rfl rfl (hts _ m_1_1) (hts _ m_5_131) (by decide +kernel) ⟨Nat.le_of_ble_eq_true rfl, Nat.le_of_ble_eq_true rfl⟩, hts _ m_5_132, hts _ m_5_133⟩) 0 (ci := 11) rfl rfl rfl (c_keepT (by omega) e3 e4 e1 (by rw [hR.2.2.1.1]; exact hR.2.2.2.2.2.2.1.2)) rfl hl.1 (Nat.le_of_ble_eq_true rfl) ⟨by show cells + 23 ≤ 600000; omega, by show slots + 289 ≤ 7302250; omega⟩ dL_1595 (fun r w H locs hB hP hD hS => ?_)
    obtain ⟨rfl, qk', mk', P', a, b', c', d, e', f, p1, p2, p3, p4, p5, rfl⟩ := hB
    obtain ⟨mo', o2, o3⟩ := s_keep (by omega) hI p1 p2 p3 p4 p5
    have hP : va_P D vwCl (LW cy u ck qk' mk' P' qm (upm sm 10 0 (nI (k + 1))) bsa bsb rd di rof pn se fo ro ra vc os li fot rot rat vct ost lit mo) H := hP
    have hD : va_D (AA s) (LW cy u ck qk' mk' P' qm (upm sm 10 0 (nI (k + 1))) bsa bsb rd di rof pn se fo ro ra vc os li fot rot rat vct ost lit mo) := hD
    refine lv_aload_n hx hb dL_1598 rfl (lv_at hl 1 rfl) ?_
    refine k_RIV (As := []) (rest := [.int (nI (k + 1))]) ⟨hx, hb, hml, hown, hts⟩ hK hP hD hS hA (wn := LW cy u ck qk' mk' P' qm (upm sm 10 0 (nI (k + 1))) bsa bsb rd di rof pn se fo ro ra vc os li fot rot rat vct ost lit mo') (FrS_m rfl) (cw_L_199 (d := 1) hts ⟨Nat.le_of_ble_eq_true rfl, Nat.le_of_ble_eq_true rfl⟩) 0 (ci := 12) rfl rfl rfl (c_X12_keep l D cy qm mo (nI (k + 1)) mo' o2) rfl hl.1 (Nat.le_of_ble_eq_true rfl) ⟨by show cells + 23 + 0 ≤ 600000; omega, by show slots + 289 + 0 ≤ 7302250; omega⟩ dL_1599 (fun H locs hP hD hS => ?_)
    refine lv_icmp_eq (tgt := 1620) hx hb dL_1602 (by decide) (fun _ => ?_) (fun c1 => absurd rfl c1)
    exact kk _ _ _ _ _ _ _ _ _ _ _ _ _ _ _ _ _ _ _ _ _ _ _ _ _ _ _ _ _ (by omega) (by omega) o3 hP hD hS
set_option maxRecDepth 100000 in
theorem L_undo (B : LB p s m meth c b L xs D cy ck) (hl : lv_has ls 4 [(3, .int (nI i)), (2, .ref (qm 0)), (1, .ref (u 0)), (0, .ref b)]) (hc : cells ≤ 500000 ∧ slots ≤ 7000000) (hI : LI N k P mk sm bsa pn fo ro ra vc os li mo) (hP : va_P D vwCl (LW cy u ck qk mk P qm sm bsa bsb rd di rof pn se fo ro ra vc os li fot rot rat vct ost lit mo) H) (hD : va_D (AA s) (LW cy u ck qk mk P qm sm bsa bsb rd di rof pn se fo ro ra vc os li fot rot rat vct ost lit mo)) (hS : va_S (AA s) s.heap H locs) (kk : LK p l e s m below meth c b D cy ck u qm Q cells slots ls N) : W p l e room_1 s m #[Value.ref b] below meth c H locs cells slots Q (F0 m 1607 ls []) := by
  obtain ⟨hx, hb, hml, hown, hts, hX, hbl, hK, hN9, hQ9⟩ := id B
  have hA : ∀ q, s.heap.size ≤ q → AA s q := fun _ h => h
  refine lv_aload_n hx hb dL_1607 rfl (lv_at hl 2 rfl) ?_
  cases k with
  | zero =>
    obtain ⟨-, hT, hM, e1, e2, e3, e4, hs⟩ := id hI
    refine k_ROV (As := []) (rest := []) ⟨hx, hb, hml, hown, hts⟩ hK (P_c hP) (cw_L_200 (d := 1) hts ⟨Nat.le_of_ble_eq_true rfl, Nat.le_of_ble_eq_true rfl⟩) 0 (ci := 11) rfl rfl rfl (c_undoF e1) rfl hl.1 (Nat.le_of_ble_eq_true rfl) ⟨by show cells + 0 ≤ 600000; omega, by show slots + 0 ≤ 7302250; omega⟩ dL_1608 ?_
    refine lv_aload_n hx hb dL_1611 rfl (lv_at hl 1 rfl) ?_
    have o2 : Mo_undo mo = some (-1, mo) := by
      unfold Mo_undo
      rw [e2, if_pos (show nI 0 = 0 from rfl)]
    refine k_RIV (As := []) (rest := [.int (-1)]) ⟨hx, hb, hml, hown, hts⟩ hK hP hD hS hA (wn := LW cy u ck qk mk P qm sm bsa bsb rd di rof pn se fo ro ra vc os li fot rot rat vct ost lit mo) (FrS_m rfl) (cw_L_203 (d := 1) hts ⟨Nat.le_of_ble_eq_true rfl, Nat.le_of_ble_eq_true rfl⟩) 0 (ci := 12) rfl rfl rfl (c_X12_undo l D cy qm mo (-1) mo o2) rfl hl.1 (Nat.le_of_ble_eq_true rfl) ⟨by show cells + 0 ≤ 600000; omega, by show slots + 0 ≤ 7302250; omega⟩ dL_1612 (fun H locs hP hD hS => ?_)
    refine lv_icmp_eq (tgt := 1620) hx hb dL_1615 (by decide) (fun _ => ?_) (fun c1 => absurd rfl c1)
    exact kk _ _ _ _ _ _ _ _ _ _ _ _ _ _ _ _ _ _ _ _ _ _ _ _ _ _ _ _ _ (by omega) (by omega) hI.same hP hD hS
  | succ k =>
    obtain ⟨-, hT, hM, e1, e2, e3, e4, hs⟩ := id hI
    obtain ⟨n, v, hR⟩ := hs k (by omega)
    refine k_RGV (As := []) (rest := []) ⟨hx, hb, hml, hown, hts⟩ hK hN9 hQ9 hP hD hS hA (⟨callB_of 0 hts (wl_good m_5_138) rfl rfl rfl (hts _ m_1_1) (hts _ m_5_135) (by decide +kernel) ⟨Nat.le_of_ble_eq_true rfl, Nat.le_of_ble_eq_true rfl⟩, hts _ m_5_136, hts _ m_5_137⟩) 0 (ci := 11) rfl rfl rfl (c_undoT (k := k) (by omega) e4 e1 (by rw [hR.2.2.1.1]; exact hR.2.2.2.2.2.2.1.2)) rfl hl.1 (Nat.le_of_ble_eq_true rfl) ⟨by show cells + 0 ≤ 600000; omega, by show slots + 0 ≤ 7302250; omega⟩ dL_1608 (fun r w H locs hB hP hD hS => ?_)
    obtain ⟨rfl, a, b', c', d, e', f, p5, rfl⟩ := hB
    obtain ⟨mo', o2, o3⟩ := s_undo hI p5
    have hP : va_P D vwCl (LW cy u ck qk mk P qm (upm sm 10 0 (nI k)) bsa bsb rd di rof pn se a b' c' d e' f fot rot rat vct ost lit mo) H := hP
    have hD : va_D (AA s) (LW cy u ck qk mk P qm (upm sm 10 0 (nI k)) bsa bsb rd di rof pn se a b' c' d e' f fot rot rat vct ost lit mo) := hD
    refine lv_aload_n hx hb dL_1611 rfl (lv_at hl 1 rfl) ?_
    refine k_RIV (As := []) (rest := [.int (nI k)]) ⟨hx, hb, hml, hown, hts⟩ hK hP hD hS hA (wn := LW cy u ck qk mk P qm (upm sm 10 0 (nI k)) bsa bsb rd di rof pn se a b' c' d e' f fot rot rat vct ost lit mo') (FrS_m rfl) (cw_L_203 (d := 1) hts ⟨Nat.le_of_ble_eq_true rfl, Nat.le_of_ble_eq_true rfl⟩) 0 (ci := 12) rfl rfl rfl (c_X12_undo l D cy qm mo (nI k) mo' o2) rfl hl.1 (Nat.le_of_ble_eq_true rfl) ⟨by show cells + 0 + 0 ≤ 600000; omega, by show slots + 0 + 0 ≤ 7302250; omega⟩ dL_1612 (fun H locs hP hD hS => ?_)
    refine lv_icmp_eq (tgt := 1620) hx hb dL_1615 (by decide) (fun _ => ?_) (fun c1 => absurd rfl c1)
    exact kk _ _ _ _ _ _ _ _ _ _ _ _ _ _ _ _ _ _ _ _ _ _ _ _ _ _ _ _ _ (by omega) (by omega) o3 hP hD hS
end LKC
