/-! the law: its loop -/
section LLP
variable {p : Program} {l : Launch} {e : Env} {s : State} {m : MethodId} {below : List Frame} {meth : Method} {c : Code} {b L : Nat} {xs : Nat → Int32} {D : va_G} {cy : Nat → ClassId} {ck : ClassId} {u qm : Nat → Nat}
theorem and63 (x : Int32) : ∃ a, a < 64 ∧ x &&& 63 = nI a := by
  obtain ⟨a, h1, h2⟩ := pk_andE x (m := 63) 6 (by decide)
  exact ⟨a, h1, h2⟩
set_option maxRecDepth 100000 in
theorem law_switch {Q : State → Prop} {H : Heap} {locs : List Loc} {cells slots : Nat} {ls : Array Slot} {N k P i a : Nat} {qk : Nat → Nat → Nat} {mk : Nat → Nat → Mem} {sm bsa bsb rd di rof pn se fo ro ra vc os li fot rot rat vct ost lit mo : Mem} (ha : a < 64) (B : LB p s m meth c b L xs D cy ck) (hl : lv_has ls 4 [(3, .int (nI i)), (2, .ref (qm 0)), (1, .ref (u 0)), (0, .ref b)]) (hi : i + 5 < L) (hL : L ≤ 3072) (hN : N ≤ 512) (hc : cells ≤ 500000 ∧ slots ≤ 7000000) (hI : LI N k P mk sm bsa pn fo ro ra vc os li mo) (hP : va_P D vwCl (LW cy u ck qk mk P qm sm bsa bsb rd di rof pn se fo ro ra vc os li fot rot rat vct ost lit mo) H) (hD : va_D (AA s) (LW cy u ck qk mk P qm sm bsa bsb rd di rof pn se fo ro ra vc os li fot rot rat vct ost lit mo)) (hS : va_S (AA s) s.heap H locs) (kk : LK p l e s m below meth c b D cy ck u qm Q cells slots ls N) : W p l e room_1 s m #[Value.ref b] below meth c H locs cells slots Q (F0 m 33 ls [.int (nI a)]) := by
  obtain ⟨hx, hb, -⟩ := id B
  rcases (show a = 0 ∨ a = 1 ∨ a = 2 ∨ a = 3 ∨ a = 4 ∨ a = 5 ∨ a = 6 ∨ a = 7 ∨ a = 8 ∨ a = 9 ∨ a = 10 ∨ a = 11 ∨ a = 12 ∨ a = 13 ∨ a = 14 ∨ a = 15 ∨ a = 16 ∨ a = 17 ∨ a = 18 ∨ a = 19 ∨ a = 20 ∨ a = 21 ∨ a = 22 ∨ a = 23 ∨ a = 24 ∨ a = 25 ∨ a = 26 ∨ a = 27 ∨ a = 28 ∨ a = 29 ∨ a = 30 ∨ a = 31 ∨ a = 32 ∨ a = 33 ∨ a = 34 ∨ a = 35 ∨ a = 36 ∨ a = 37 ∨ a = 38 ∨ a = 39 ∨ a = 40 ∨ a = 41 ∨ a = 42 ∨ a = 43 ∨ a = 44 ∨ a = 45 ∨ 46 ≤ a by omega) with rfl | rfl | rfl | rfl | rfl | rfl | rfl | rfl | rfl | rfl | rfl | rfl | rfl | rfl | rfl | rfl | rfl | rfl | rfl | rfl | rfl | rfl | rfl | rfl | rfl | rfl | rfl | rfl | rfl | rfl | rfl | rfl | rfl | rfl | rfl | rfl | rfl | rfl | rfl | rfl | rfl | rfl | rfl | rfl | rfl | rfl | h46
  · exact r_tab (off := 199) (tgt := 232) (nI 0) hx hb dL_33 rfl (by decide) (by decide) (L_feed B hl hi hL hN hc hI hP hD hS kk)
  · exact r_tab (off := 262) (tgt := 295) (nI 1) hx hb dL_33 rfl (by decide) (by decide) (L_schedule B hl hi hL hN hc hI hP hD hS kk)
  · exact r_tab (off := 285) (tgt := 318) (nI 2) hx hb dL_33 rfl (by decide) (by decide) (L_flight B hl hi hL hN hc hI hP hD hS kk)
  · exact r_tab (off := 338) (tgt := 371) (nI 3) hx hb dL_33 rfl (by decide) (by decide) (L_draws B hl hi hL hN hc hI hP hD hS kk)
  · exact r_tab (off := 371) (tgt := 404) (nI 4) hx hb dL_33 rfl (by decide) (by decide) (L_letter B hl hi hL hN hc hI hP hD hS kk)
  · exact r_tab (off := 394) (tgt := 427) (nI 5) hx hb dL_33 rfl (by decide) (by decide) (L_rate B hl hi hL hN hc hI hP hD hS kk)
  · exact r_tab (off := 427) (tgt := 460) (nI 6) hx hb dL_33 rfl (by decide) (by decide) (L_storm B hl hi hL hN hc hI hP hD hS kk)
  · exact r_tab (off := 480) (tgt := 513) (nI 7) hx hb dL_33 rfl (by decide) (by decide) (L_now B hl hi hL hN hc hI hP hD hS kk)
  · exact r_tab (off := 503) (tgt := 536) (nI 8) hx hb dL_33 rfl (by decide) (by decide) (L_told B hl hi hL hN hc hI hP hD hS kk)
  · exact r_tab (off := 536) (tgt := 569) (nI 9) hx hb dL_33 rfl (by decide) (by decide) (L_slot B hl hi hL hN hc hI hP hD hS kk)
  · exact r_tab (off := 559) (tgt := 592) (nI 10) hx hb dL_33 rfl (by decide) (by decide) (L_at B hl hi hL hN hc hI hP hD hS kk)
  · exact r_tab (off := 582) (tgt := 615) (nI 11) hx hb dL_33 rfl (by decide) (by decide) (L_plan B hl hi hL hN hc hI hP hD hS kk)
  · exact r_tab (off := 595) (tgt := 628) (nI 12) hx hb dL_33 rfl (by decide) (by decide) (L_revise B hl hi hL hN hc hI hP hD hS kk)
  · exact r_tab (off := 608) (tgt := 641) (nI 13) hx hb dL_33 rfl (by decide) (by decide) (L_cancel B hl hi hL hN hc hI hP hD hS kk)
  · exact r_tab (off := 631) (tgt := 664) (nI 14) hx hb dL_33 rfl (by decide) (by decide) (L_exchange B hl hi hL hN hc hI hP hD hS kk)
  · exact r_tab (off := 664) (tgt := 697) (nI 15) hx hb dL_33 rfl (by decide) (by decide) (L_move B hl hi hL hN hc hI hP hD hS kk)
  · exact r_tab (off := 697) (tgt := 730) (nI 16) hx hb dL_33 rfl (by decide) (by decide) (L_fill B hl hi hL hN hc hI hP hD hS kk)
  · exact r_tab (off := 710) (tgt := 743) (nI 17) hx hb dL_33 rfl (by decide) (by decide) (L_vacant B hl hi hL hN hc hI hP hD hS kk)
  · exact r_tab (off := 743) (tgt := 776) (nI 18) hx hb dL_33 rfl (by decide) (by decide) (L_offer B hl hi hL hN hc hI hP hD hS kk)
  · exact r_tab (off := 796) (tgt := 829) (nI 19) hx hb dL_33 rfl (by decide) (by decide) (L_withdraw B hl hi hL hN hc hI hP hD hS kk)
  · exact r_tab (off := 819) (tgt := 852) (nI 20) hx hb dL_33 rfl (by decide) (by decide) (L_offered B hl hi hL hN hc hI hP hD hS kk)
  · exact r_tab (off := 852) (tgt := 885) (nI 21) hx hb dL_33 rfl (by decide) (by decide) (L_deal B hl hi hL hN hc hI hP hD hS kk)
  · exact r_tab (off := 885) (tgt := 918) (nI 22) hx hb dL_33 rfl (by decide) (by decide) (L_bestDeal B hl hi hL hN hc hI hP hD hS kk)
  · exact r_tab (off := 908) (tgt := 941) (nI 23) hx hb dL_33 rfl (by decide) (by decide) (L_line B hl hi hL hN hc hI hP hD hS kk)
  · exact r_tab (off := 941) (tgt := 974) (nI 24) hx hb dL_33 rfl (by decide) (by decide) (L_bestOrder B hl hi hL hN hc hI hP hD hS kk)
  · exact r_tab (off := 974) (tgt := 1007) (nI 25) hx hb dL_33 rfl (by decide) (by decide) (L_order B hl hi hL hN hc hI hP hD hS kk)
  · exact r_tab (off := 997) (tgt := 1030) (nI 26) hx hb dL_33 rfl (by decide) (by decide) (L_bestCancel B hl hi hL hN hc hI hP hD hS kk)
  · exact r_tab (off := 1030) (tgt := 1063) (nI 27) hx hb dL_33 rfl (by decide) (by decide) (L_helps B hl hi hL hN hc hI hP hD hS kk)
  · exact r_tab (off := 1063) (tgt := 1096) (nI 28) hx hb dL_33 rfl (by decide) (by decide) (L_rank B hl hi hL hN hc hI hP hD hS kk)
  · exact r_tab (off := 1086) (tgt := 1119) (nI 29) hx hb dL_33 rfl (by decide) (by decide) (L_unfair B hl hi hL hN hc hI hP hD hS kk)
  · exact r_tab (off := 1099) (tgt := 1132) (nI 30) hx hb dL_33 rfl (by decide) (by decide) (L_link B hl hi hL hN hc hI hP hD hS kk)
  · exact r_tab (off := 1142) (tgt := 1175) (nI 31) hx hb dL_33 rfl (by decide) (by decide) (L_linked B hl hi hL hN hc hI hP hD hS kk)
  · exact r_tab (off := 1175) (tgt := 1208) (nI 32) hx hb dL_33 rfl (by decide) (by decide) (L_breaks B hl hi hL hN hc hI hP hD hS kk)
  · exact r_tab (off := 1208) (tgt := 1241) (nI 33) hx hb dL_33 rfl (by decide) (by decide) (L_round B hl hi hL hN hc hI hP hD hS kk)
  · exact r_tab (off := 1251) (tgt := 1284) (nI 34) hx hb dL_33 rfl (by decide) (by decide) (L_cancelAll B hl hi hL hN hc hI hP hD hS kk)
  · exact r_tab (off := 1274) (tgt := 1307) (nI 35) hx hb dL_33 rfl (by decide) (by decide) (L_byRule B hl hi hL hN hc hI hP hD hS kk)
  · exact r_tab (off := 1307) (tgt := 1340) (nI 36) hx hb dL_33 rfl (by decide) (by decide) (L_demand B hl hi hL hN hc hI hP hD hS kk)
  · exact r_tab (off := 1340) (tgt := 1373) (nI 37) hx hb dL_33 rfl (by decide) (by decide) (L_crowded B hl hi hL hN hc hI hP hD hS kk)
  · exact r_tab (off := 1363) (tgt := 1396) (nI 38) hx hb dL_33 rfl (by decide) (by decide) (L_would B hl hi hL hN hc hI hP hD hS kk)
  · exact r_tab (off := 1416) (tgt := 1449) (nI 39) hx hb dL_33 rfl (by decide) (by decide) (L_rateFor B hl hi hL hN hc hI hP hD hS kk)
  · exact r_tab (off := 1459) (tgt := 1492) (nI 40) hx hb dL_33 rfl (by decide) (by decide) (L_ifCut B hl hi hL hN hc hI hP hD hS kk)
  · exact r_tab (off := 1492) (tgt := 1525) (nI 41) hx hb dL_33 rfl (by decide) (by decide) (L_airborne B hl hi hL hN hc hI hP hD hS kk)
  · exact r_tab (off := 1515) (tgt := 1548) (nI 42) hx hb dL_33 rfl (by decide) (by decide) (L_next B hl hi hL hN hc hI hP hD hS kk)
  · exact r_tab (off := 1538) (tgt := 1571) (nI 43) hx hb dL_33 rfl (by decide) (by decide) (L_count B hl hi hL hN hc hI hP hD hS kk)
  · exact r_tab (off := 1561) (tgt := 1594) (nI 44) hx hb dL_33 rfl (by decide) (by decide) (L_keep B hl hc hI hP hD hS kk)
  · exact r_tab (off := 1574) (tgt := 1607) (nI 45) hx hb dL_33 rfl (by decide) (by decide) (L_undo B hl hc hI hP hD hS kk)
  · refine lv_tableOut (tgt := 1620) hx hb dL_33 (Or.inr (by rw [nI_toInt (by omega)]; omega)) (by decide) ?_
    exact kk _ _ _ _ _ _ _ _ _ _ _ _ _ _ _ _ _ _ _ _ _ _ _ _ _ _ _ _ _ (by omega) (by omega) hI.same hP hD hS
set_option maxRecDepth 100000 in
theorem law_loop (B : LB p s m meth c b L xs D cy ck) (hr : meth.sig.returnType = ret) (hlocks : meth.locks = false) (hL : L ≤ 3072) : ∀ (r N : Nat) (H : Heap) (locs : List Loc) (cells slots : Nat) (ls : Array Slot) (k P : Nat) (qk : Nat → Nat → Nat) (mk : Nat → Nat → Mem) (sm bsa bsb rd di rof pn se fo ro ra vc os li fot rot rat vct ost lit mo : Mem), N + r = 513 → cells ≤ 79 + 23 * N → slots ≤ 18792 + 289 * N → lv_has ls 4 [(3, .int (nI (6 * N))), (2, .ref (qm 0)), (1, .ref (u 0)), (0, .ref b)] → LI N k P mk sm bsa pn fo ro ra vc os li mo → va_P D vwCl (LW cy u ck qk mk P qm sm bsa bsb rd di rof pn se fo ro ra vc os li fot rot rat vct ost lit mo) H → va_D (AA s) (LW cy u ck qk mk P qm sm bsa bsb rd di rof pn se fo ro ra vc os li fot rot rat vct ost lit mo) → va_S (AA s) s.heap H locs → W p l e room_1 s m #[Value.ref b] below meth c H locs cells slots (lw_Z below #[Value.ref b] s) (F0 m 18 ls []) := by
  obtain ⟨hx, hb, hml, hown, hts, hX, hbl, hK, hN9, hQ9⟩ := id B
  have hbA : ¬ AA s b := Nat.not_le.mpr hbl
  intro r
  induction r with
  | zero =>
    intro N H locs cells slots ls k P qk mk sm bsa bsb rd di rof pn se fo ro ra vc os li fot rot rat vct ost lit mo hNr hc1 hc2 hl hI hP hD hS
    refine lv_iload_n hx hb dL_18 rfl (lv_at hl 0 rfl) ?_
    refine lv_aload_n hx hb dL_19 rfl (lv_at hl 3 rfl) ?_
    refine va_slen hx hb hX hbl hbA hS dL_20 ?_
    refine lv_bipush (v := 6) hx hb dL_21 (by decide) ?_
    refine lv_isub hx hb dL_23 ?_
    refine lv_icmp_gt (tgt := 1626) hx hb dL_24 (by decide) (fun _ => ?_) (fun c1 => ?_)
    · refine lv_iconst (v := 1) hx hb dL_1626 (by decide) ?_
      have z : ([] ++ locs) = locs := rfl
      rw [← z]
      refine W.forget (fun q h => hS.2.2 q h) ?_
      refine W.widen (k := 600000) (n := 7302250) (by omega) (by omega) ?_
      exact lw_ret hx hb hr hlocks dL_1627
    · exfalso
      refine c1 (Int32.lt_iff_toInt_lt.mpr ?_)
      rw [show (Int32.ofNat L - 6).toInt = (L : Int) - ((6 : Nat) : Int) from pk_sub_toInt (a := L) (b := 6) (by omega) (by omega), nI_toInt (by omega)]
      omega
  | succ r ih =>
    intro N H locs cells slots ls k P qk mk sm bsa bsb rd di rof pn se fo ro ra vc os li fot rot rat vct ost lit mo hNr hc1 hc2 hl hI hP hD hS
    refine lv_iload_n hx hb dL_18 rfl (lv_at hl 0 rfl) ?_
    refine lv_aload_n hx hb dL_19 rfl (lv_at hl 3 rfl) ?_
    refine va_slen hx hb hX hbl hbA hS dL_20 ?_
    refine lv_bipush (v := 6) hx hb dL_21 (by decide) ?_
    refine lv_isub hx hb dL_23 ?_
    refine lv_icmp_gt (tgt := 1626) hx hb dL_24 (by decide) (fun _ => ?_) (fun c1 => ?_)
    · refine lv_iconst (v := 1) hx hb dL_1626 (by decide) ?_
      have z : ([] ++ locs) = locs := rfl
      rw [← z]
      refine W.forget (fun q h => hS.2.2 q h) ?_
      refine W.widen (k := 600000) (n := 7302250) (by omega) (by omega) ?_
      exact lw_ret hx hb hr hlocks dL_1627
    · have hi : 6 * N + 5 < L := by
        have c2 := mt Int32.lt_iff_toInt_lt.mpr c1
        rw [show (Int32.ofNat L - 6).toInt = (L : Int) - ((6 : Nat) : Int) from pk_sub_toInt (a := L) (b := 6) (by omega) (by omega), nI_toInt (by omega)] at c2
        omega
      refine lv_aload_n hx hb dL_27 rfl (lv_at hl 3 rfl) ?_
      refine lv_iload_n hx hb dL_28 rfl (lv_at hl 0 rfl) ?_
      refine va_sld hx hb hX hbl hbA hS (vin (by omega) (by omega)) dL_29 ?_
      refine lv_bipush (v := 63) hx hb dL_30 (by decide) ?_
      refine lv_iand hx hb dL_32 ?_
      obtain ⟨a, ha, ea⟩ := and63 (xs (nI (6 * N)).toNatClampNeg)
      rw [ea]
      refine law_switch ha B hl hi hL (by omega) ⟨by omega, by omega⟩ hI hP hD hS ?_
      intro H locs cells' slots' qk mk P k sm bsa bsb rd di rof pn se fo ro ra vc os li fot rot rat vct ost lit mo h1 h2 hI hP hD hS
      refine lv_iinc (v := nI (6 * (N + 1))) (lv' := [(3, .int (nI (6 * (N + 1)))), (2, .ref (qm 0)), (1, .ref (u 0)), (0, .ref b)]) hx hb dL_1620 hl (k := 0) rfl (nI_add (6 * N) 6) (by decide) rfl (fun ls hl => ?_)
      refine lv_goto (tgt := 18) hx hb dL_1623 (by decide) ?_
      exact ih (N + 1) H locs cells' slots' ls k P qk mk sm bsa bsb rd di rof pn se fo ro ra vc os li fot rot rat vct ost lit mo (by omega) (by omega) (by omega) hl hI hP hD hS
end LLP
