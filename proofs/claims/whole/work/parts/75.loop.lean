set_option maxHeartbeats 4000000 in
set_option maxRecDepth 100000 in
theorem law_loop {p : Program} {l : Launch} {e : Env} {s : State} {m0 : MethodId} {below : List Frame} {meth : Method} {c : Code} {D : va_G} {cA : Nat → ClassId} {b L : Nat} {xs : Nat → Int32} (hL : L ≤ 2560) (C0 : lw_At p s m0 meth c b L xs) (hK : zK D cA s) (Inv : XS → MS → Prop) (ax am0 : Nat) (ad am : Nat → Nat) (imf shf : Nat → Option Nat) (hm0 : imf (0 : Int32).toNatClampNeg = some (ad 19)) (hm1 : imf (1 : Int32).toNatClampNeg = some (ad 26)) (hs0 : shf (0 : Int32).toNatClampNeg = some (ad 33)) (hs1 : shf (1 : Int32).toNatClampNeg = some (ad 35)) (hs2 : shf (2 : Int32).toNatClampNeg = some (ad 37)) (hs3 : shf (3 : Int32).toNatClampNeg = some (ad 39)) (hops : ∀ x m a1 a2 a3 a4, Inv x m → ops Inv x m a1 a2 a3 a4) : ∀ (n j : Nat), j ≤ L → L + 1 ≤ j + n → ∀ (x : XS) (m : MS) (H : Heap) (locs : List Loc) (ls : Array Slot), Inv x m → va_P D vwCl (lawW cA ax am0 ad am imf shf x m) H → va_D (fun q : Nat => s.heap.size ≤ q) (lawW cA ax am0 ad am imf shf x m) → va_S (fun q : Nat => s.heap.size ≤ q) s.heap H locs → lv_has ls 4 [(0, .ref b), (1, .ref ax), (2, .ref am0), (3, .int (nI j))] → W p l e room_1 s m0 #[Value.ref b] below meth c H locs 52 2309 (lw_Z below #[Value.ref b] s) (F0 m0 18 ls []) := by
  have C1 := C0
  obtain ⟨hx, hb, hr, hml, hown, hts, hX, hbl, hlocks, hgv⟩ := C0
  have hbA : ¬ (fun q : Nat => s.heap.size ≤ q) b := Nat.not_le.mpr hbl
  intro n
  induction n with
  | zero => intro j h1 h2; omega
  | succ n ih =>
    intro j hj hn x m H locs ls hI hP hD hS hl
    refine lv_iload_n hx hb dL_law_18 rfl (lv_at hl 3 rfl) ?_
    refine lv_aload_n hx hb dL_law_19 rfl (lv_at hl 0 rfl) ?_
    refine va_slen hx hb hX hbl hbA hS dL_law_20 ?_
    refine lv_iconst (v := 5) hx hb dL_law_21 (by decide) ?_
    refine lv_isub hx hb dL_law_22 ?_
    have eL : (Int32.ofNat L : Int32) - 5 = iI ((L : Int) - 5) := by
      rw [show (Int32.ofNat L : Int32) = nI L from rfl, nI_iI, show (5 : Int32) = iI 5 from rfl, iI_sub]
    refine lv_icmp_gt (tgt := 1620) hx hb dL_law_23 (by decide) (fun cq => ?_) (fun cq => ?_)
    · refine lv_iconst (v := 1) hx hb dL_law_1620 (by decide) ?_
      refine va_forget (fun q hq => hS.2.2 q hq) ?_
      refine W.widen (k := 600000) (n := 7302250) (Nat.le_of_ble_eq_true rfl) (Nat.le_of_ble_eq_true rfl) ?_
      exact lw_ret hx hb hr hlocks dL_law_1621
    · have hj5 : j + 5 ≤ L := by
        rw [eL, nI_iI, iI_lt (by omega) (by omega) (by omega) (by omega)] at cq
        omega
      clear cq eL
      have cont : ∀ (x : XS) (m : MS) (H : Heap) (locs : List Loc) (ls : Array Slot), Inv x m → va_P D vwCl (lawW cA ax am0 ad am imf shf x m) H → va_D (fun q : Nat => s.heap.size ≤ q) (lawW cA ax am0 ad am imf shf x m) → va_S (fun q : Nat => s.heap.size ≤ q) s.heap H locs → lv_has ls 4 [(0, .ref b), (1, .ref ax), (2, .ref am0), (3, .int (nI j))] → W p l e room_1 s m0 #[Value.ref b] below meth c H locs 52 2309 (lw_Z below #[Value.ref b] s) (F0 m0 1614 ls []) := by
        intro x m H locs ls hI hP hD hS hl
        refine lv_iinc (v := nI (j + 5)) (lv' := [(3, .int (nI (j + 5))), (0, .ref b), (1, .ref ax), (2, .ref am0)]) hx hb dL_law_1614 hl (k := 3) rfl (nI_add j 5) (by decide) rfl (fun ls hl => ?_)
        refine lv_goto (tgt := 18) hx hb dL_law_1617 (by decide) ?_
        exact ih (j + 5) hj5 (by omega) x m _ _ ls hI hP hD hS (lv_sub hl [1, 2, 3, 0] rfl)
      have ho := hops x m (xs ((nI j) + (1 : Int32)).toNatClampNeg) (xs ((nI j) + (2 : Int32)).toNatClampNeg) (xs ((nI j) + (3 : Int32)).toNatClampNeg) (xs ((nI j) + (4 : Int32)).toNatClampNeg) hI
      unfold ops at ho
      refine lv_aload_n hx hb dL_law_26 rfl (lv_at hl 0 rfl) ?_
      refine lv_iload_n hx hb dL_law_27 rfl (lv_at hl 3 rfl) ?_
      refine va_sld hx hb hX hbl hbA hS (vp_in_nI (by omega) (by omega)) dL_law_28 ?_
      refine lv_bipush (v := 63) hx hb dL_law_29 (by decide) ?_
      refine lv_iand hx hb dL_law_31 ?_
      refine lv_topi (fun k ek => ?_)
      by_cases ck0 : k = 0
      · refine lv_tableIn (tgt := 228) (off := 196) hx hb dL_law_32 (by rw [ck0]; decide) (by rw [ck0]; decide) (by rw [ck0]; decide) (by decide) ?_
        exact case_0 hL C1 hK Inv ax am0 ad am imf shf hm0 hm1 hs0 hs1 hs2 hs3 hj5 cont x m H locs ls ho.1 hP hD hS hl
      by_cases ck1 : k = 1
      · refine lv_tableIn (tgt := 251) (off := 219) hx hb dL_law_32 (by rw [ck1]; decide) (by rw [ck1]; decide) (by rw [ck1]; decide) (by decide) ?_
        exact case_1 hL C1 hK Inv ax am0 ad am imf shf hm0 hm1 hs0 hs1 hs2 hs3 hj5 cont x m H locs ls ho.2.1 hP hD hS hl
      by_cases ck2 : k = 2
      · refine lv_tableIn (tgt := 274) (off := 242) hx hb dL_law_32 (by rw [ck2]; decide) (by rw [ck2]; decide) (by rw [ck2]; decide) (by decide) ?_
        exact case_2 hL C1 hK Inv ax am0 ad am imf shf hm0 hm1 hs0 hs1 hs2 hs3 hj5 cont x m H locs ls ho.2.2.1 hP hD hS hl
      by_cases ck3 : k = 3
      · refine lv_tableIn (tgt := 287) (off := 255) hx hb dL_law_32 (by rw [ck3]; decide) (by rw [ck3]; decide) (by rw [ck3]; decide) (by decide) ?_
        exact case_3 hL C1 hK Inv ax am0 ad am imf shf hm0 hm1 hs0 hs1 hs2 hs3 hj5 cont x m H locs ls ho.2.2.2.1 hP hD hS hl
      by_cases ck4 : k = 4
      · refine lv_tableIn (tgt := 300) (off := 268) hx hb dL_law_32 (by rw [ck4]; decide) (by rw [ck4]; decide) (by rw [ck4]; decide) (by decide) ?_
        exact case_4 hL C1 hK Inv ax am0 ad am imf shf hm0 hm1 hs0 hs1 hs2 hs3 hj5 cont x m H locs ls ho.2.2.2.2.1 hP hD hS hl
      by_cases ck5 : k = 5
      · refine lv_tableIn (tgt := 323) (off := 291) hx hb dL_law_32 (by rw [ck5]; decide) (by rw [ck5]; decide) (by rw [ck5]; decide) (by decide) ?_
        exact case_5 hL C1 hK Inv ax am0 ad am imf shf hm0 hm1 hs0 hs1 hs2 hs3 hj5 cont x m H locs ls ho.2.2.2.2.2.1 hP hD hS hl
      by_cases ck6 : k = 6
      · refine lv_tableIn (tgt := 346) (off := 314) hx hb dL_law_32 (by rw [ck6]; decide) (by rw [ck6]; decide) (by rw [ck6]; decide) (by decide) ?_
        exact case_6 hL C1 hK Inv ax am0 ad am imf shf hm0 hm1 hs0 hs1 hs2 hs3 hj5 cont x m H locs ls ho.2.2.2.2.2.2.1 hP hD hS hl
      by_cases ck7 : k = 7
      · refine lv_tableIn (tgt := 369) (off := 337) hx hb dL_law_32 (by rw [ck7]; decide) (by rw [ck7]; decide) (by rw [ck7]; decide) (by decide) ?_
        exact case_7 hL C1 hK Inv ax am0 ad am imf shf hm0 hm1 hs0 hs1 hs2 hs3 hj5 cont x m H locs ls ho.2.2.2.2.2.2.2.1 hP hD hS hl
      by_cases ck8 : k = 8
      · refine lv_tableIn (tgt := 402) (off := 370) hx hb dL_law_32 (by rw [ck8]; decide) (by rw [ck8]; decide) (by rw [ck8]; decide) (by decide) ?_
        exact case_8 hL C1 hK Inv ax am0 ad am imf shf hm0 hm1 hs0 hs1 hs2 hs3 hj5 cont x m H locs ls ho.2.2.2.2.2.2.2.2.1 hP hD hS hl
      by_cases ck9 : k = 9
      · refine lv_tableIn (tgt := 435) (off := 403) hx hb dL_law_32 (by rw [ck9]; decide) (by rw [ck9]; decide) (by rw [ck9]; decide) (by decide) ?_
        exact case_9 hL C1 hK Inv ax am0 ad am imf shf hm0 hm1 hs0 hs1 hs2 hs3 hj5 cont x m H locs ls ho.2.2.2.2.2.2.2.2.2.1 hP hD hS hl
      by_cases ck10 : k = 10
      · refine lv_tableIn (tgt := 468) (off := 436) hx hb dL_law_32 (by rw [ck10]; decide) (by rw [ck10]; decide) (by rw [ck10]; decide) (by decide) ?_
        exact case_10 hL C1 hK Inv ax am0 ad am imf shf hm0 hm1 hs0 hs1 hs2 hs3 hj5 cont x m H locs ls ho.2.2.2.2.2.2.2.2.2.2.1 hP hD hS hl
      by_cases ck11 : k = 11
      · refine lv_tableIn (tgt := 501) (off := 469) hx hb dL_law_32 (by rw [ck11]; decide) (by rw [ck11]; decide) (by rw [ck11]; decide) (by decide) ?_
        exact case_11 hL C1 hK Inv ax am0 ad am imf shf hm0 hm1 hs0 hs1 hs2 hs3 hj5 cont x m H locs ls ho.2.2.2.2.2.2.2.2.2.2.2.1 hP hD hS hl
      by_cases ck12 : k = 12
      · refine lv_tableIn (tgt := 524) (off := 492) hx hb dL_law_32 (by rw [ck12]; decide) (by rw [ck12]; decide) (by rw [ck12]; decide) (by decide) ?_
        exact case_12 hL C1 hK Inv ax am0 ad am imf shf hm0 hm1 hs0 hs1 hs2 hs3 hj5 cont x m H locs ls ho.2.2.2.2.2.2.2.2.2.2.2.2.1 hP hD hS hl
      by_cases ck13 : k = 13
      · refine lv_tableIn (tgt := 567) (off := 535) hx hb dL_law_32 (by rw [ck13]; decide) (by rw [ck13]; decide) (by rw [ck13]; decide) (by decide) ?_
        exact case_13 hL C1 hK Inv ax am0 ad am imf shf hm0 hm1 hs0 hs1 hs2 hs3 hj5 cont x m H locs ls ho.2.2.2.2.2.2.2.2.2.2.2.2.2.1 hP hD hS hl
      by_cases ck14 : k = 14
      · refine lv_tableIn (tgt := 600) (off := 568) hx hb dL_law_32 (by rw [ck14]; decide) (by rw [ck14]; decide) (by rw [ck14]; decide) (by decide) ?_
        exact case_14 hL C1 hK Inv ax am0 ad am imf shf hm0 hm1 hs0 hs1 hs2 hs3 hj5 cont x m H locs ls ho.2.2.2.2.2.2.2.2.2.2.2.2.2.2.1 hP hD hS hl
      by_cases ck15 : k = 15
      · refine lv_tableIn (tgt := 633) (off := 601) hx hb dL_law_32 (by rw [ck15]; decide) (by rw [ck15]; decide) (by rw [ck15]; decide) (by decide) ?_
        exact case_15 hL C1 hK Inv ax am0 ad am imf shf hm0 hm1 hs0 hs1 hs2 hs3 hj5 cont x m H locs ls ho.2.2.2.2.2.2.2.2.2.2.2.2.2.2.2.1 hP hD hS hl
      by_cases ck16 : k = 16
      · refine lv_tableIn (tgt := 666) (off := 634) hx hb dL_law_32 (by rw [ck16]; decide) (by rw [ck16]; decide) (by rw [ck16]; decide) (by decide) ?_
        exact case_16 hL C1 hK Inv ax am0 ad am imf shf hm0 hm1 hs0 hs1 hs2 hs3 hj5 cont x m H locs ls ho.2.2.2.2.2.2.2.2.2.2.2.2.2.2.2.2.1 hP hD hS hl
      by_cases ck17 : k = 17
      · refine lv_tableIn (tgt := 689) (off := 657) hx hb dL_law_32 (by rw [ck17]; decide) (by rw [ck17]; decide) (by rw [ck17]; decide) (by decide) ?_
        exact case_17 hL C1 hK Inv ax am0 ad am imf shf hm0 hm1 hs0 hs1 hs2 hs3 hj5 cont x m H locs ls ho.2.2.2.2.2.2.2.2.2.2.2.2.2.2.2.2.2.1 hP hD hS hl
      by_cases ck18 : k = 18
      · refine lv_tableIn (tgt := 722) (off := 690) hx hb dL_law_32 (by rw [ck18]; decide) (by rw [ck18]; decide) (by rw [ck18]; decide) (by decide) ?_
        exact case_18 hL C1 hK Inv ax am0 ad am imf shf hm0 hm1 hs0 hs1 hs2 hs3 hj5 cont x m H locs ls ho.2.2.2.2.2.2.2.2.2.2.2.2.2.2.2.2.2.2.1 hP hD hS hl
      by_cases ck19 : k = 19
      · refine lv_tableIn (tgt := 755) (off := 723) hx hb dL_law_32 (by rw [ck19]; decide) (by rw [ck19]; decide) (by rw [ck19]; decide) (by decide) ?_
        exact case_19 hL C1 hK Inv ax am0 ad am imf shf hm0 hm1 hs0 hs1 hs2 hs3 hj5 cont x m H locs ls ho.2.2.2.2.2.2.2.2.2.2.2.2.2.2.2.2.2.2.2.1 hP hD hS hl
      by_cases ck20 : k = 20
      · refine lv_tableIn (tgt := 788) (off := 756) hx hb dL_law_32 (by rw [ck20]; decide) (by rw [ck20]; decide) (by rw [ck20]; decide) (by decide) ?_
        exact case_20 hL C1 hK Inv ax am0 ad am imf shf hm0 hm1 hs0 hs1 hs2 hs3 hj5 cont x m H locs ls ho.2.2.2.2.2.2.2.2.2.2.2.2.2.2.2.2.2.2.2.2.1 hP hD hS hl
      by_cases ck21 : k = 21
      · refine lv_tableIn (tgt := 821) (off := 789) hx hb dL_law_32 (by rw [ck21]; decide) (by rw [ck21]; decide) (by rw [ck21]; decide) (by decide) ?_
        exact case_21 hL C1 hK Inv ax am0 ad am imf shf hm0 hm1 hs0 hs1 hs2 hs3 hj5 cont x m H locs ls ho.2.2.2.2.2.2.2.2.2.2.2.2.2.2.2.2.2.2.2.2.2.1 hP hD hS hl
      by_cases ck22 : k = 22
      · refine lv_tableIn (tgt := 854) (off := 822) hx hb dL_law_32 (by rw [ck22]; decide) (by rw [ck22]; decide) (by rw [ck22]; decide) (by decide) ?_
        exact case_22 hL C1 hK Inv ax am0 ad am imf shf hm0 hm1 hs0 hs1 hs2 hs3 hj5 cont x m H locs ls ho.2.2.2.2.2.2.2.2.2.2.2.2.2.2.2.2.2.2.2.2.2.2.1 hP hD hS hl
      by_cases ck23 : k = 23
      · refine lv_tableIn (tgt := 877) (off := 845) hx hb dL_law_32 (by rw [ck23]; decide) (by rw [ck23]; decide) (by rw [ck23]; decide) (by decide) ?_
        exact case_23 hL C1 hK Inv ax am0 ad am imf shf hm0 hm1 hs0 hs1 hs2 hs3 hj5 cont x m H locs ls ho.2.2.2.2.2.2.2.2.2.2.2.2.2.2.2.2.2.2.2.2.2.2.2.1 hP hD hS hl
      by_cases ck24 : k = 24
      · refine lv_tableIn (tgt := 910) (off := 878) hx hb dL_law_32 (by rw [ck24]; decide) (by rw [ck24]; decide) (by rw [ck24]; decide) (by decide) ?_
        exact case_24 hL C1 hK Inv ax am0 ad am imf shf hm0 hm1 hs0 hs1 hs2 hs3 hj5 cont x m H locs ls ho.2.2.2.2.2.2.2.2.2.2.2.2.2.2.2.2.2.2.2.2.2.2.2.2.1 hP hD hS hl
      by_cases ck25 : k = 25
      · refine lv_tableIn (tgt := 933) (off := 901) hx hb dL_law_32 (by rw [ck25]; decide) (by rw [ck25]; decide) (by rw [ck25]; decide) (by decide) ?_
        exact case_25 hL C1 hK Inv ax am0 ad am imf shf hm0 hm1 hs0 hs1 hs2 hs3 hj5 cont x m H locs ls ho.2.2.2.2.2.2.2.2.2.2.2.2.2.2.2.2.2.2.2.2.2.2.2.2.2.1 hP hD hS hl
      by_cases ck26 : k = 26
      · refine lv_tableIn (tgt := 966) (off := 934) hx hb dL_law_32 (by rw [ck26]; decide) (by rw [ck26]; decide) (by rw [ck26]; decide) (by decide) ?_
        exact case_26 hL C1 hK Inv ax am0 ad am imf shf hm0 hm1 hs0 hs1 hs2 hs3 hj5 cont x m H locs ls ho.2.2.2.2.2.2.2.2.2.2.2.2.2.2.2.2.2.2.2.2.2.2.2.2.2.2.1 hP hD hS hl
      by_cases ck27 : k = 27
      · refine lv_tableIn (tgt := 999) (off := 967) hx hb dL_law_32 (by rw [ck27]; decide) (by rw [ck27]; decide) (by rw [ck27]; decide) (by decide) ?_
        exact case_27 hL C1 hK Inv ax am0 ad am imf shf hm0 hm1 hs0 hs1 hs2 hs3 hj5 cont x m H locs ls ho.2.2.2.2.2.2.2.2.2.2.2.2.2.2.2.2.2.2.2.2.2.2.2.2.2.2.2.1 hP hD hS hl
      by_cases ck28 : k = 28
      · refine lv_tableIn (tgt := 1022) (off := 990) hx hb dL_law_32 (by rw [ck28]; decide) (by rw [ck28]; decide) (by rw [ck28]; decide) (by decide) ?_
        exact case_28 hL C1 hK Inv ax am0 ad am imf shf hm0 hm1 hs0 hs1 hs2 hs3 hj5 cont x m H locs ls ho.2.2.2.2.2.2.2.2.2.2.2.2.2.2.2.2.2.2.2.2.2.2.2.2.2.2.2.2.1 hP hD hS hl
      by_cases ck29 : k = 29
      · refine lv_tableIn (tgt := 1045) (off := 1013) hx hb dL_law_32 (by rw [ck29]; decide) (by rw [ck29]; decide) (by rw [ck29]; decide) (by decide) ?_
        exact case_29 hL C1 hK Inv ax am0 ad am imf shf hm0 hm1 hs0 hs1 hs2 hs3 hj5 cont x m H locs ls ho.2.2.2.2.2.2.2.2.2.2.2.2.2.2.2.2.2.2.2.2.2.2.2.2.2.2.2.2.2.1 hP hD hS hl
      by_cases ck30 : k = 30
      · refine lv_tableIn (tgt := 1088) (off := 1056) hx hb dL_law_32 (by rw [ck30]; decide) (by rw [ck30]; decide) (by rw [ck30]; decide) (by decide) ?_
        exact case_30 hL C1 hK Inv ax am0 ad am imf shf hm0 hm1 hs0 hs1 hs2 hs3 hj5 cont x m H locs ls ho.2.2.2.2.2.2.2.2.2.2.2.2.2.2.2.2.2.2.2.2.2.2.2.2.2.2.2.2.2.2.1 hP hD hS hl
      by_cases ck31 : k = 31
      · refine lv_tableIn (tgt := 1111) (off := 1079) hx hb dL_law_32 (by rw [ck31]; decide) (by rw [ck31]; decide) (by rw [ck31]; decide) (by decide) ?_
        exact case_31 hL C1 hK Inv ax am0 ad am imf shf hm0 hm1 hs0 hs1 hs2 hs3 hj5 cont x m H locs ls ho.2.2.2.2.2.2.2.2.2.2.2.2.2.2.2.2.2.2.2.2.2.2.2.2.2.2.2.2.2.2.2.1 hP hD hS hl
      by_cases ck32 : k = 32
      · refine lv_tableIn (tgt := 1134) (off := 1102) hx hb dL_law_32 (by rw [ck32]; decide) (by rw [ck32]; decide) (by rw [ck32]; decide) (by decide) ?_
        exact case_32 hL C1 hK Inv ax am0 ad am imf shf hm0 hm1 hs0 hs1 hs2 hs3 hj5 cont x m H locs ls ho.2.2.2.2.2.2.2.2.2.2.2.2.2.2.2.2.2.2.2.2.2.2.2.2.2.2.2.2.2.2.2.2.1 hP hD hS hl
      by_cases ck33 : k = 33
      · refine lv_tableIn (tgt := 1187) (off := 1155) hx hb dL_law_32 (by rw [ck33]; decide) (by rw [ck33]; decide) (by rw [ck33]; decide) (by decide) ?_
        exact case_33 hL C1 hK Inv ax am0 ad am imf shf hm0 hm1 hs0 hs1 hs2 hs3 hj5 cont x m H locs ls ho.2.2.2.2.2.2.2.2.2.2.2.2.2.2.2.2.2.2.2.2.2.2.2.2.2.2.2.2.2.2.2.2.2.1 hP hD hS hl
      by_cases ck34 : k = 34
      · refine lv_tableIn (tgt := 1210) (off := 1178) hx hb dL_law_32 (by rw [ck34]; decide) (by rw [ck34]; decide) (by rw [ck34]; decide) (by decide) ?_
        exact case_34 hL C1 hK Inv ax am0 ad am imf shf hm0 hm1 hs0 hs1 hs2 hs3 hj5 cont x m H locs ls ho.2.2.2.2.2.2.2.2.2.2.2.2.2.2.2.2.2.2.2.2.2.2.2.2.2.2.2.2.2.2.2.2.2.2.1 hP hD hS hl
      by_cases ck35 : k = 35
      · refine lv_tableIn (tgt := 1253) (off := 1221) hx hb dL_law_32 (by rw [ck35]; decide) (by rw [ck35]; decide) (by rw [ck35]; decide) (by decide) ?_
        exact case_35 hL C1 hK Inv ax am0 ad am imf shf hm0 hm1 hs0 hs1 hs2 hs3 hj5 cont x m H locs ls ho.2.2.2.2.2.2.2.2.2.2.2.2.2.2.2.2.2.2.2.2.2.2.2.2.2.2.2.2.2.2.2.2.2.2.2.1 hP hD hS hl
      by_cases ck36 : k = 36
      · refine lv_tableIn (tgt := 1286) (off := 1254) hx hb dL_law_32 (by rw [ck36]; decide) (by rw [ck36]; decide) (by rw [ck36]; decide) (by decide) ?_
        exact case_36 hL C1 hK Inv ax am0 ad am imf shf hm0 hm1 hs0 hs1 hs2 hs3 hj5 cont x m H locs ls ho.2.2.2.2.2.2.2.2.2.2.2.2.2.2.2.2.2.2.2.2.2.2.2.2.2.2.2.2.2.2.2.2.2.2.2.2.1 hP hD hS hl
      by_cases ck37 : k = 37
      · refine lv_tableIn (tgt := 1309) (off := 1277) hx hb dL_law_32 (by rw [ck37]; decide) (by rw [ck37]; decide) (by rw [ck37]; decide) (by decide) ?_
        exact case_37 hL C1 hK Inv ax am0 ad am imf shf hm0 hm1 hs0 hs1 hs2 hs3 hj5 cont x m H locs ls ho.2.2.2.2.2.2.2.2.2.2.2.2.2.2.2.2.2.2.2.2.2.2.2.2.2.2.2.2.2.2.2.2.2.2.2.2.2.1 hP hD hS hl
      by_cases ck38 : k = 38
      · refine lv_tableIn (tgt := 1332) (off := 1300) hx hb dL_law_32 (by rw [ck38]; decide) (by rw [ck38]; decide) (by rw [ck38]; decide) (by decide) ?_
        exact case_38 hL C1 hK Inv ax am0 ad am imf shf hm0 hm1 hs0 hs1 hs2 hs3 hj5 cont x m H locs ls ho.2.2.2.2.2.2.2.2.2.2.2.2.2.2.2.2.2.2.2.2.2.2.2.2.2.2.2.2.2.2.2.2.2.2.2.2.2.2.1 hP hD hS hl
      by_cases ck39 : k = 39
      · refine lv_tableIn (tgt := 1375) (off := 1343) hx hb dL_law_32 (by rw [ck39]; decide) (by rw [ck39]; decide) (by rw [ck39]; decide) (by decide) ?_
        exact case_39 hL C1 hK Inv ax am0 ad am imf shf hm0 hm1 hs0 hs1 hs2 hs3 hj5 cont x m H locs ls ho.2.2.2.2.2.2.2.2.2.2.2.2.2.2.2.2.2.2.2.2.2.2.2.2.2.2.2.2.2.2.2.2.2.2.2.2.2.2.2.1 hP hD hS hl
      by_cases ck40 : k = 40
      · refine lv_tableIn (tgt := 1448) (off := 1416) hx hb dL_law_32 (by rw [ck40]; decide) (by rw [ck40]; decide) (by rw [ck40]; decide) (by decide) ?_
        exact case_40 hL C1 hK Inv ax am0 ad am imf shf hm0 hm1 hs0 hs1 hs2 hs3 hj5 cont x m H locs ls ho.2.2.2.2.2.2.2.2.2.2.2.2.2.2.2.2.2.2.2.2.2.2.2.2.2.2.2.2.2.2.2.2.2.2.2.2.2.2.2.2.1 hP hD hS hl
      by_cases ck41 : k = 41
      · refine lv_tableIn (tgt := 1482) (off := 1450) hx hb dL_law_32 (by rw [ck41]; decide) (by rw [ck41]; decide) (by rw [ck41]; decide) (by decide) ?_
        exact case_41 hL C1 hK Inv ax am0 ad am imf shf hm0 hm1 hs0 hs1 hs2 hs3 hj5 cont x m H locs ls ho.2.2.2.2.2.2.2.2.2.2.2.2.2.2.2.2.2.2.2.2.2.2.2.2.2.2.2.2.2.2.2.2.2.2.2.2.2.2.2.2.2.1 hP hD hS hl
      by_cases ck42 : k = 42
      · refine lv_tableIn (tgt := 1535) (off := 1503) hx hb dL_law_32 (by rw [ck42]; decide) (by rw [ck42]; decide) (by rw [ck42]; decide) (by decide) ?_
        exact case_42 hL C1 hK Inv ax am0 ad am imf shf hm0 hm1 hs0 hs1 hs2 hs3 hj5 cont x m H locs ls ho.2.2.2.2.2.2.2.2.2.2.2.2.2.2.2.2.2.2.2.2.2.2.2.2.2.2.2.2.2.2.2.2.2.2.2.2.2.2.2.2.2.2.1 hP hD hS hl
      by_cases ck43 : k = 43
      · refine lv_tableIn (tgt := 1578) (off := 1546) hx hb dL_law_32 (by rw [ck43]; decide) (by rw [ck43]; decide) (by rw [ck43]; decide) (by decide) ?_
        exact case_43 hL C1 hK Inv ax am0 ad am imf shf hm0 hm1 hs0 hs1 hs2 hs3 hj5 cont x m H locs ls ho.2.2.2.2.2.2.2.2.2.2.2.2.2.2.2.2.2.2.2.2.2.2.2.2.2.2.2.2.2.2.2.2.2.2.2.2.2.2.2.2.2.2.2.1 hP hD hS hl
      by_cases ck44 : k = 44
      · refine lv_tableIn (tgt := 1591) (off := 1559) hx hb dL_law_32 (by rw [ck44]; decide) (by rw [ck44]; decide) (by rw [ck44]; decide) (by decide) ?_
        exact case_44 hL C1 hK Inv ax am0 ad am imf shf hm0 hm1 hs0 hs1 hs2 hs3 hj5 cont x m H locs ls ho.2.2.2.2.2.2.2.2.2.2.2.2.2.2.2.2.2.2.2.2.2.2.2.2.2.2.2.2.2.2.2.2.2.2.2.2.2.2.2.2.2.2.2.2 hP hD hS hl
      refine lv_tableOut (tgt := 1614) hx hb dL_law_32 (by have q0 := lv_neT ck0 (a := 0) (by decide); have q1 := lv_neT ck1 (a := 1) (by decide); have q2 := lv_neT ck2 (a := 2) (by decide); have q3 := lv_neT ck3 (a := 3) (by decide); have q4 := lv_neT ck4 (a := 4) (by decide); have q5 := lv_neT ck5 (a := 5) (by decide); have q6 := lv_neT ck6 (a := 6) (by decide); have q7 := lv_neT ck7 (a := 7) (by decide); have q8 := lv_neT ck8 (a := 8) (by decide); have q9 := lv_neT ck9 (a := 9) (by decide); have q10 := lv_neT ck10 (a := 10) (by decide); have q11 := lv_neT ck11 (a := 11) (by decide); have q12 := lv_neT ck12 (a := 12) (by decide); have q13 := lv_neT ck13 (a := 13) (by decide); have q14 := lv_neT ck14 (a := 14) (by decide); have q15 := lv_neT ck15 (a := 15) (by decide); have q16 := lv_neT ck16 (a := 16) (by decide); have q17 := lv_neT ck17 (a := 17) (by decide); have q18 := lv_neT ck18 (a := 18) (by decide); have q19 := lv_neT ck19 (a := 19) (by decide); have q20 := lv_neT ck20 (a := 20) (by decide); have q21 := lv_neT ck21 (a := 21) (by decide); have q22 := lv_neT ck22 (a := 22) (by decide); have q23 := lv_neT ck23 (a := 23) (by decide); have q24 := lv_neT ck24 (a := 24) (by decide); have q25 := lv_neT ck25 (a := 25) (by decide); have q26 := lv_neT ck26 (a := 26) (by decide); have q27 := lv_neT ck27 (a := 27) (by decide); have q28 := lv_neT ck28 (a := 28) (by decide); have q29 := lv_neT ck29 (a := 29) (by decide); have q30 := lv_neT ck30 (a := 30) (by decide); have q31 := lv_neT ck31 (a := 31) (by decide); have q32 := lv_neT ck32 (a := 32) (by decide); have q33 := lv_neT ck33 (a := 33) (by decide); have q34 := lv_neT ck34 (a := 34) (by decide); have q35 := lv_neT ck35 (a := 35) (by decide); have q36 := lv_neT ck36 (a := 36) (by decide); have q37 := lv_neT ck37 (a := 37) (by decide); have q38 := lv_neT ck38 (a := 38) (by decide); have q39 := lv_neT ck39 (a := 39) (by decide); have q40 := lv_neT ck40 (a := 40) (by decide); have q41 := lv_neT ck41 (a := 41) (by decide); have q42 := lv_neT ck42 (a := 42) (by decide); have q43 := lv_neT ck43 (a := 43) (by decide); have q44 := lv_neT ck44 (a := 44) (by decide); omega) (by decide) ?_
      exact cont x m _ _ ls hI hP hD hS hl
