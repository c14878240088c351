/-! written by wip/whole/gen.py -/
def wX6_sum (f_state : Nat → Int32) (p1 : Int32) (p2 : Int32) (post : Int32 → Prop) : Prop := (wX6_isNode f_state p1 (fun r_1 : Int32 => (((r_1 = 0 → post (-1 : Int32)) ∧ (¬ r_1 = 0 → (wX6_in ((p2).toInt64) (0 : Int64) (1 : Int64) (fun r_3 : Int32 => (((¬ r_3 = 0 → (∃ (I_5 : Int64 → Int32 → Prop) (mu_5 : Int64 → Int32 → Nat), I_5 (0 : Int64) (0 : Int32) ∧ ∀ (x_6 : Int64) (x_7 : Int32), I_5 x_6 x_7 → (wX6_many f_state (fun r_8 : Int32 => (((r_8 ≤ x_7 → (((lg_cmp x_6 (2147483647 : Int64)) ≤ 0 → post ((x_6).toInt32)) ∧ (¬ (lg_cmp x_6 (2147483647 : Int64)) ≤ 0 → post (-5 : Int32)))) ∧ (¬ r_8 ≤ x_7 → ((¬ p2 = 0 → (wX6_isAbove f_state x_7 p1 (fun r_12 : Int32 => (((r_12 = 0 → (∀ x_14 : Int64, x_14 = (x_6 + (0 : Int64)) → (∀ x_15 : Int32, x_15 = x_7 + (1) → (I_5 x_14 x_15 ∧ mu_5 x_14 x_15 < mu_5 x_6 x_7)))) ∧ (¬ r_12 = 0 → (vp_in ((128 : Int32) + x_7) 579 ∧ (∀ x_16 : Int64, x_16 = (x_6 + (((f_state ((128 : Int32) + x_7).toNatClampNeg)).toInt64)) → (∀ x_17 : Int32, x_17 = x_7 + (1) → (I_5 x_16 x_17 ∧ mu_5 x_16 x_17 < mu_5 x_6 x_7)))))))))) ∧ (p2 = 0 → (wX6_isAbove f_state p1 x_7 (fun r_18 : Int32 => (((r_18 = 0 → (∀ x_20 : Int64, x_20 = (x_6 + (0 : Int64)) → (∀ x_21 : Int32, x_21 = x_7 + (1) → (I_5 x_20 x_21 ∧ mu_5 x_20 x_21 < mu_5 x_6 x_7)))) ∧ (¬ r_18 = 0 → (vp_in ((128 : Int32) + x_7) 579 ∧ (∀ x_22 : Int64, x_22 = (x_6 + (((f_state ((128 : Int32) + x_7).toNatClampNeg)).toInt64)) → (∀ x_23 : Int32, x_23 = x_7 + (1) → (I_5 x_22 x_23 ∧ mu_5 x_22 x_23 < mu_5 x_6 x_7)))))))))))))))))) ∧ (r_3 = 0 → post (-1 : Int32)))))))))))
abbrev rX6_sum : Room := { frames := 3, cells := 0, slots := 0, locals := 67 }
theorem vX6_sum : yX6_sum.cls = RX6 ∧ yX6_sum.cls ≠ "java/lang/invoke/MethodHandle" ∧ yX6_sum.cls ≠ "java/lang/invoke/VarHandle" ∧ (parseMethodDescriptor yX6_sum.desc).map (fun d => d.parameters.length) = some 2 := by decide +kernel
set_option maxHeartbeats 4000000 in
set_option maxRecDepth 100000 in
theorem kX6_sum (l : Launch) (D : va_G) (cA : Nat → ClassId) (a0 a_state a_readPage a_tape a_cutRow a_cutWeights a_isKept a_lanes a_lengths a_cells : Nat) (f_taped : Int32) (f_fault : Int32) (f_broken : Int32) (f_brokenAt : Int32) (f_spot : Int32) (f_here : Int32) (f_token : Int32) (f_value : Int32) (f_torn : Int32) (f_state : Nat → Int32) (f_readPage : Nat → Int32) (f_tape : Nat → Int32) (f_cutRow : Nat → Int32) (f_cutWeights : Nat → Int32) (f_isKept : Nat → Int32) (f_lanes : Nat → Int32) (f_lengths : Nat → Int32) (f_cells : Nat → Int64) (p1 : Int32) (p2 : Int32) (post : Int32 → Prop) (h : wX6_sum f_state p1 p2 post) : Met l yX6_sum wsX6_sum rX6_sum (zPr D cA [.ref a0, .int p1, .int p2] [(a0, .inr (5, [.ref a_state, .ref a_readPage, .ref a_tape, .int f_taped, .int f_fault, .int f_broken, .int f_brokenAt, .int f_spot, .int f_here, .int f_token, .int f_value, .ref a_cutRow, .ref a_cutWeights, .ref a_isKept, .ref a_lanes, .ref a_lengths, .ref a_cells, .int f_torn])), (a_state, .inl (cA 0, 579, .inl f_state)), (a_readPage, .inl (cA 0, 193, .inl f_readPage)), (a_tape, .inl (cA 0, 160, .inl f_tape)), (a_cutRow, .inl (cA 0, 128, .inl f_cutRow)), (a_cutWeights, .inl (cA 0, 64, .inl f_cutWeights)), (a_isKept, .inl (cA 3, 2, .inl f_isKept)), (a_lanes, .inl (cA 0, 4, .inl f_lanes)), (a_lengths, .inl (cA 0, 4, .inl f_lengths)), (a_cells, .inl (cA 1, 160, .inr (.inl f_cells)))]) (vp_Si post) 0 0 (fun _ => False) := by
  refine z_ro (cc := cX6_sum) (maxL := 7) (ret := (some .int)) (by decide) rfl (Nat.le_of_ble_eq_true rfl) ?_
  intro p e s m args below meth c ls hx hb hr hlk hml hown hts hK hP hl
  have hown : s.vm.findClass RX6 = some m.cls := hown
  have hl : lv_has ls 7 [(0, .ref a0), (1, .int p1), (2, .int p2)] := hl
  have hw := h
  unfold wX6_sum at hw
  have kl167 := hts (.constantLong RX6 167 (2147483647)) (by decide +kernel)
  have iwX6 : ∀ w ∈ wsX60, w ∈ wsX6_sum := fun w h9 => List.mem_cons_of_mem _ (List.mem_append_right _ h9)
  have kf7 := hts (.fieldLink RX6 7 "ExcessTreeModel" "state" "[I") (by decide +kernel)
  refine lv_aload_n hx hb dX6_sum_0 rfl (lv_at hl 0 rfl) ?_
  refine lv_iload_n hx hb dX6_sum_1 rfl (lv_at hl 1 rfl) ?_
  refine z_ri [.int p1] [] ⟨hx, hb, hml, hown, hts⟩ (kX6_isNode l D cA a0 a_state a_readPage a_tape a_cutRow a_cutWeights a_isKept a_lanes a_lengths a_cells f_taped f_fault f_broken f_brokenAt f_spot f_here f_token f_value f_torn f_state f_readPage f_tape f_cutRow f_cutWeights f_isKept f_lanes f_lengths f_cells p1 _ hw) (cwV 1 hts gX6_sum_X6_isNode rfl rfl rfl vX6_isNode ⟨Nat.le_of_ble_eq_true rfl, Nat.le_of_ble_eq_true rfl⟩) hK (hP.sub [0, 1, 2, 3, 4, 5, 6, 7, 8, 9] rfl) (va_recv hK.1 (hP.sub (ws' := [(a0, .inr (5, [.ref a_state, .ref a_readPage, .ref a_tape, .int f_taped, .int f_fault, .int f_broken, .int f_brokenAt, .int f_spot, .int f_here, .int f_token, .int f_value, .ref a_cutRow, .ref a_cutWeights, .ref a_isKept, .ref a_lanes, .ref a_lengths, .ref a_cells, .int f_torn]))]) [0] rfl) (ci := 5) (q0 := 0) rfl rfl) rfl hl.1 rfl (Nat.le_of_ble_eq_true rfl) dX6_sum_2 ⟨Nat.zero_le _, Nat.zero_le _⟩ (fun r_1 hw => ?_)
  refine lv_if_eq (tgt := 18) hx hb dX6_sum_5 (by decide) (fun c_2 => ?_) (fun c_2 => ?_)
  · have hw := hw.1 c_2
    refine lv_iconst (v := -1) hx hb dX6_sum_18 (by decide) ?_
    exact z_iret hx hb hr hlk hw dX6_sum_19
  · have hw := hw.2 c_2
    refine lv_iload_n hx hb dX6_sum_8 rfl (lv_at hl 2 rfl) ?_
    refine lv_i2l (v := ((p2).toInt64)) hx hb dX6_sum_9 rfl ?_
    refine lv_lconst (v := 0) hx hb dX6_sum_10 (by decide) ?_
    refine lv_lconst (v := 1) hx hb dX6_sum_11 (by decide) ?_
    refine z_si [.long ((p2).toInt64), .long (0 : Int64), .long (1 : Int64)] [] ⟨hx, hb, hml, hown, hts⟩ (kX6_in l D cA ((p2).toInt64) (0 : Int64) (1 : Int64) _ hw) (va_cwS 3 hts gX6_sum_X6_in rfl rfl rfl vX6_in ⟨Nat.le_of_ble_eq_true rfl, Nat.le_of_ble_eq_true rfl⟩) hK z_p0 rfl hl.1 rfl (Nat.le_of_ble_eq_true rfl) dX6_sum_12 ⟨Nat.zero_le _, Nat.zero_le _⟩ (fun r_3 hw => ?_)
    refine lv_if_ne (tgt := 20) hx hb dX6_sum_15 (by decide) (fun c_4 => ?_) (fun c_4 => ?_)
    · have hw := hw.1 c_4
      refine lv_lconst (v := 0) hx hb dX6_sum_20 (by decide) ?_
      refine lv_lstore_n (lv' := [(3, .long (0 : Int64)), (0, .ref a0), (1, .int p1), (2, .int p2)]) hx hb dX6_sum_21 rfl hl (by decide) rfl (fun ls hl => ?_)
      refine lv_iconst (v := 0) hx hb dX6_sum_22 (by decide) ?_
      refine lv_istore (lv' := [(5, .int (0 : Int32)), (3, .long (0 : Int64)), (0, .ref a0), (1, .int p1), (2, .int p2)]) hx hb dX6_sum_23 hl (by decide) rfl (fun ls hl => ?_)
      obtain ⟨I_5, mu_5, hI_5, hw⟩ := hw
      have lp_5 : ∀ (nn : Nat) (x_6 : Int64) (x_7 : Int32) (ls : Array Slot), mu_5 x_6 x_7 < nn → I_5 x_6 x_7 → lv_has ls 7 [(0, .ref a0), (1, .int p1), (2, .int p2), (3, .long x_6), (5, .int x_7)] → W p l e rX6_sum s m args below meth c s.heap [] 0 0 (MQ below (vp_Si post) args s 0 0 (fun _ => False)) (F0 m 25 ls []) := by
        intro nn
        induction nn with
        | zero => exact fun _ _ _ h0 => absurd h0 (Nat.not_lt_zero _)
        | succ nn ih_5 =>
          intro x_6 x_7 ls hmu_5 hI_5 hl
          have hw := hw x_6 x_7 hI_5
          refine lv_iload hx hb dX6_sum_25 (lv_at hl 4 rfl) ?_
          refine lv_aload_n hx hb dX6_sum_27 rfl (lv_at hl 0 rfl) ?_
          refine z_ri [] [.int x_7] ⟨hx, hb, hml, hown, hts⟩ (kX6_many l D cA a0 a_state a_readPage a_tape a_cutRow a_cutWeights a_isKept a_lanes a_lengths a_cells f_taped f_fault f_broken f_brokenAt f_spot f_here f_token f_value f_torn f_state f_readPage f_tape f_cutRow f_cutWeights f_isKept f_lanes f_lengths f_cells _ hw) (cwV 0 hts gX6_sum_X6_many rfl rfl rfl vX6_many ⟨Nat.le_of_ble_eq_true rfl, Nat.le_of_ble_eq_true rfl⟩) hK (hP.sub [0, 1, 2, 3, 4, 5, 6, 7, 8, 9] rfl) (va_recv hK.1 (hP.sub (ws' := [(a0, .inr (5, [.ref a_state, .ref a_readPage, .ref a_tape, .int f_taped, .int f_fault, .int f_broken, .int f_brokenAt, .int f_spot, .int f_here, .int f_token, .int f_value, .ref a_cutRow, .ref a_cutWeights, .ref a_isKept, .ref a_lanes, .ref a_lengths, .ref a_cells, .int f_torn]))]) [0] rfl) (ci := 5) (q0 := 0) rfl rfl) rfl hl.1 rfl (Nat.le_of_ble_eq_true rfl) dX6_sum_28 ⟨Nat.zero_le _, Nat.zero_le _⟩ (fun r_8 hw => ?_)
          refine lv_icmp_ge (tgt := 87) hx hb dX6_sum_31 (by decide) (fun c_9 => ?_) (fun c_9 => ?_)
          · have hw := hw.1 c_9
            refine lv_lload_n hx hb dX6_sum_87 rfl (lv_at hl 3 rfl) ?_
            refine lv_ldc2 (v := 2147483647) hx hb hown kl167 dX6_sum_88 ?_
            refine W.lcmp hx hb dX6_sum_91 ?_
            refine lv_if_le (tgt := 100) hx hb dX6_sum_92 (by decide) (fun c_10 => ?_) (fun c_10 => ?_)
            · have hw := hw.1 c_10
              refine lv_lload_n hx hb dX6_sum_100 rfl (lv_at hl 3 rfl) ?_
              refine lv_l2i (v := ((x_6).toInt32)) hx hb dX6_sum_101 rfl ?_
              exact z_iret hx hb hr hlk hw dX6_sum_102
            · have hw := hw.2 c_10
              refine lv_bipush (v := -5) hx hb dX6_sum_95 (by decide) ?_
              refine lv_goto (tgt := 102) hx hb dX6_sum_97 (by decide) ?_
              exact z_iret hx hb hr hlk hw dX6_sum_102
          · have hw := hw.2 c_9
            refine lv_iload_n hx hb dX6_sum_34 rfl (lv_at hl 2 rfl) ?_
            refine lv_if_ne (tgt := 48) hx hb dX6_sum_35 (by decide) (fun c_11 => ?_) (fun c_11 => ?_)
            · have hw := hw.1 c_11
              refine lv_aload_n hx hb dX6_sum_48 rfl (lv_at hl 0 rfl) ?_
              refine lv_iload hx hb dX6_sum_49 (lv_at hl 4 rfl) ?_
              refine lv_iload_n hx hb dX6_sum_51 rfl (lv_at hl 1 rfl) ?_
              refine z_ri [.int x_7, .int p1] [] ⟨hx, hb, hml, hown, hts⟩ (kX6_isAbove l D cA a0 a_state a_readPage a_tape a_cutRow a_cutWeights a_isKept a_lanes a_lengths a_cells f_taped f_fault f_broken f_brokenAt f_spot f_here f_token f_value f_torn f_state f_readPage f_tape f_cutRow f_cutWeights f_isKept f_lanes f_lengths f_cells x_7 p1 _ hw) (cwV 2 hts gX6_sum_X6_isAbove rfl rfl rfl vX6_isAbove ⟨Nat.le_of_ble_eq_true rfl, Nat.le_of_ble_eq_true rfl⟩) hK (hP.sub [0, 1, 2, 3, 4, 5, 6, 7, 8, 9] rfl) (va_recv hK.1 (hP.sub (ws' := [(a0, .inr (5, [.ref a_state, .ref a_readPage, .ref a_tape, .int f_taped, .int f_fault, .int f_broken, .int f_brokenAt, .int f_spot, .int f_here, .int f_token, .int f_value, .ref a_cutRow, .ref a_cutWeights, .ref a_isKept, .ref a_lanes, .ref a_lengths, .ref a_cells, .int f_torn]))]) [0] rfl) (ci := 5) (q0 := 0) rfl rfl) rfl hl.1 rfl (Nat.le_of_ble_eq_true rfl) dX6_sum_52 ⟨Nat.zero_le _, Nat.zero_le _⟩ (fun r_12 hw => ?_)
              refine lv_istore (lv' := [(6, .int r_12), (0, .ref a0), (1, .int p1), (2, .int p2), (3, .long x_6), (5, .int x_7)]) hx hb dX6_sum_55 hl (by decide) rfl (fun ls hl => ?_)
              refine lv_lload_n hx hb dX6_sum_57 rfl (lv_at hl 4 rfl) ?_
              refine lv_iload hx hb dX6_sum_58 (lv_at hl 0 rfl) ?_
              refine lv_if_eq (tgt := 78) hx hb dX6_sum_60 (by decide) (fun c_13 => ?_) (fun c_13 => ?_)
              · have hw := hw.1 c_13
                refine lv_lconst (v := 0) hx hb dX6_sum_78 (by decide) ?_
                refine lv_ladd hx hb dX6_sum_79 ?_
                refine lv_topl (fun x_14 ex_14 => ?_)
                have hw := hw x_14 ex_14
                refine lv_lstore_n (lv' := [(3, .long x_14), (6, .int r_12), (0, .ref a0), (1, .int p1), (2, .int p2), (5, .int x_7)]) hx hb dX6_sum_80 rfl hl (by decide) rfl (fun ls hl => ?_)
                obtain ⟨x_15, ex_15⟩ : ∃ y : Int32, y = x_7 + (1) := ⟨_, rfl⟩
                have hw := hw x_15 ex_15
                refine lv_iinc (v := x_15) (lv' := [(5, .int x_15), (3, .long x_14), (6, .int r_12), (0, .ref a0), (1, .int p1), (2, .int p2)]) hx hb dX6_sum_81 hl (k := 5) rfl (by rw [ex_15]; rfl) (by decide) rfl (fun ls hl => ?_)
                refine lv_goto (tgt := 25) hx hb dX6_sum_84 (by decide) ?_
                exact ih_5 x_14 x_15 ls (Nat.lt_of_lt_of_le hw.2 (Nat.le_of_lt_succ hmu_5)) hw.1 (lv_sub hl [3, 4, 5, 1, 0] rfl)
              · have hw := hw.2 c_13
                refine lv_aload_n hx hb dX6_sum_63 rfl (lv_at hl 1 rfl) ?_
                refine va_get (D := D) (ci := 5) (v := .ref a_state) (C := RX6) (T := TX6) (N := 18) hx hb hts iwX6 hown hK.1 hP 0 rfl rfl 0 (by decide) kf7 (fun _ h9 => h9) rfl dX6_sum_64 ?_
                refine lv_sipush (v := 128) hx hb dX6_sum_67 (by decide) ?_
                refine lv_iload hx hb dX6_sum_70 (lv_at hl 5 rfl) ?_
                refine lv_iadd hx hb dX6_sum_72 ?_
                have hq := hw.1
                have hw := hw.2
                refine va_iald hx hb hK.1 hP 1 0 rfl rfl hq dX6_sum_73 ?_
                refine lv_i2l (v := (((f_state ((128 : Int32) + x_7).toNatClampNeg)).toInt64)) hx hb dX6_sum_74 rfl ?_
                refine lv_goto (tgt := 79) hx hb dX6_sum_75 (by decide) ?_
                refine lv_ladd hx hb dX6_sum_79 ?_
                refine lv_topl (fun x_16 ex_16 => ?_)
                have hw := hw x_16 ex_16
                refine lv_lstore_n (lv' := [(3, .long x_16), (6, .int r_12), (0, .ref a0), (1, .int p1), (2, .int p2), (5, .int x_7)]) hx hb dX6_sum_80 rfl hl (by decide) rfl (fun ls hl => ?_)
                obtain ⟨x_17, ex_17⟩ : ∃ y : Int32, y = x_7 + (1) := ⟨_, rfl⟩
                have hw := hw x_17 ex_17
                refine lv_iinc (v := x_17) (lv' := [(5, .int x_17), (3, .long x_16), (6, .int r_12), (0, .ref a0), (1, .int p1), (2, .int p2)]) hx hb dX6_sum_81 hl (k := 5) rfl (by rw [ex_17]; rfl) (by decide) rfl (fun ls hl => ?_)
                refine lv_goto (tgt := 25) hx hb dX6_sum_84 (by decide) ?_
                exact ih_5 x_16 x_17 ls (Nat.lt_of_lt_of_le hw.2 (Nat.le_of_lt_succ hmu_5)) hw.1 (lv_sub hl [3, 4, 5, 1, 0] rfl)
            · have hw := hw.2 c_11
              refine lv_aload_n hx hb dX6_sum_38 rfl (lv_at hl 0 rfl) ?_
              refine lv_iload_n hx hb dX6_sum_39 rfl (lv_at hl 1 rfl) ?_
              refine lv_iload hx hb dX6_sum_40 (lv_at hl 4 rfl) ?_
              refine z_ri [.int p1, .int x_7] [] ⟨hx, hb, hml, hown, hts⟩ (kX6_isAbove l D cA a0 a_state a_readPage a_tape a_cutRow a_cutWeights a_isKept a_lanes a_lengths a_cells f_taped f_fault f_broken f_brokenAt f_spot f_here f_token f_value f_torn f_state f_readPage f_tape f_cutRow f_cutWeights f_isKept f_lanes f_lengths f_cells p1 x_7 _ hw) (cwV 2 hts gX6_sum_X6_isAbove rfl rfl rfl vX6_isAbove ⟨Nat.le_of_ble_eq_true rfl, Nat.le_of_ble_eq_true rfl⟩) hK (hP.sub [0, 1, 2, 3, 4, 5, 6, 7, 8, 9] rfl) (va_recv hK.1 (hP.sub (ws' := [(a0, .inr (5, [.ref a_state, .ref a_readPage, .ref a_tape, .int f_taped, .int f_fault, .int f_broken, .int f_brokenAt, .int f_spot, .int f_here, .int f_token, .int f_value, .ref a_cutRow, .ref a_cutWeights, .ref a_isKept, .ref a_lanes, .ref a_lengths, .ref a_cells, .int f_torn]))]) [0] rfl) (ci := 5) (q0 := 0) rfl rfl) rfl hl.1 rfl (Nat.le_of_ble_eq_true rfl) dX6_sum_42 ⟨Nat.zero_le _, Nat.zero_le _⟩ (fun r_18 hw => ?_)
              refine lv_goto (tgt := 55) hx hb dX6_sum_45 (by decide) ?_
              refine lv_istore (lv' := [(6, .int r_18), (0, .ref a0), (1, .int p1), (2, .int p2), (3, .long x_6), (5, .int x_7)]) hx hb dX6_sum_55 hl (by decide) rfl (fun ls hl => ?_)
              refine lv_lload_n hx hb dX6_sum_57 rfl (lv_at hl 4 rfl) ?_
              refine lv_iload hx hb dX6_sum_58 (lv_at hl 0 rfl) ?_
              refine lv_if_eq (tgt := 78) hx hb dX6_sum_60 (by decide) (fun c_19 => ?_) (fun c_19 => ?_)
              · have hw := hw.1 c_19
                refine lv_lconst (v := 0) hx hb dX6_sum_78 (by decide) ?_
                refine lv_ladd hx hb dX6_sum_79 ?_
                refine lv_topl (fun x_20 ex_20 => ?_)
                have hw := hw x_20 ex_20
                refine lv_lstore_n (lv' := [(3, .long x_20), (6, .int r_18), (0, .ref a0), (1, .int p1), (2, .int p2), (5, .int x_7)]) hx hb dX6_sum_80 rfl hl (by decide) rfl (fun ls hl => ?_)
                obtain ⟨x_21, ex_21⟩ : ∃ y : Int32, y = x_7 + (1) := ⟨_, rfl⟩
                have hw := hw x_21 ex_21
                refine lv_iinc (v := x_21) (lv' := [(5, .int x_21), (3, .long x_20), (6, .int r_18), (0, .ref a0), (1, .int p1), (2, .int p2)]) hx hb dX6_sum_81 hl (k := 5) rfl (by rw [ex_21]; rfl) (by decide) rfl (fun ls hl => ?_)
                refine lv_goto (tgt := 25) hx hb dX6_sum_84 (by decide) ?_
                exact ih_5 x_20 x_21 ls (Nat.lt_of_lt_of_le hw.2 (Nat.le_of_lt_succ hmu_5)) hw.1 (lv_sub hl [3, 4, 5, 1, 0] rfl)
              · have hw := hw.2 c_19
                refine lv_aload_n hx hb dX6_sum_63 rfl (lv_at hl 1 rfl) ?_
                refine va_get (D := D) (ci := 5) (v := .ref a_state) (C := RX6) (T := TX6) (N := 18) hx hb hts iwX6 hown hK.1 hP 0 rfl rfl 0 (by decide) kf7 (fun _ h9 => h9) rfl dX6_sum_64 ?_
                refine lv_sipush (v := 128) hx hb dX6_sum_67 (by decide) ?_
                refine lv_iload hx hb dX6_sum_70 (lv_at hl 5 rfl) ?_
                refine lv_iadd hx hb dX6_sum_72 ?_
                have hq := hw.1
                have hw := hw.2
                refine va_iald hx hb hK.1 hP 1 0 rfl rfl hq dX6_sum_73 ?_
                refine lv_i2l (v := (((f_state ((128 : Int32) + x_7).toNatClampNeg)).toInt64)) hx hb dX6_sum_74 rfl ?_
                refine lv_goto (tgt := 79) hx hb dX6_sum_75 (by decide) ?_
                refine lv_ladd hx hb dX6_sum_79 ?_
                refine lv_topl (fun x_22 ex_22 => ?_)
                have hw := hw x_22 ex_22
                refine lv_lstore_n (lv' := [(3, .long x_22), (6, .int r_18), (0, .ref a0), (1, .int p1), (2, .int p2), (5, .int x_7)]) hx hb dX6_sum_80 rfl hl (by decide) rfl (fun ls hl => ?_)
                obtain ⟨x_23, ex_23⟩ : ∃ y : Int32, y = x_7 + (1) := ⟨_, rfl⟩
                have hw := hw x_23 ex_23
                refine lv_iinc (v := x_23) (lv' := [(5, .int x_23), (3, .long x_22), (6, .int r_18), (0, .ref a0), (1, .int p1), (2, .int p2)]) hx hb dX6_sum_81 hl (k := 5) rfl (by rw [ex_23]; rfl) (by decide) rfl (fun ls hl => ?_)
                refine lv_goto (tgt := 25) hx hb dX6_sum_84 (by decide) ?_
                exact ih_5 x_22 x_23 ls (Nat.lt_of_lt_of_le hw.2 (Nat.le_of_lt_succ hmu_5)) hw.1 (lv_sub hl [3, 4, 5, 1, 0] rfl)
      exact lp_5 (mu_5 (0 : Int64) (0 : Int32) + 1) (0 : Int64) (0 : Int32) ls (Nat.lt_succ_self _) hI_5 (lv_sub hl [2, 3, 4, 1, 0] rfl)
    · have hw := hw.2 c_4
      refine lv_iconst (v := -1) hx hb dX6_sum_18 (by decide) ?_
      exact z_iret hx hb hr hlk hw dX6_sum_19
def wX6_heaviest (f_state : Nat → Int32) (p1 : Int32) (post : Int32 → Prop) : Prop := (wX6_isNode f_state p1 (fun r_1 : Int32 => (((¬ r_1 = 0 → (∃ (I_3 : Int32 → Int32 → Prop) (mu_3 : Int32 → Int32 → Nat), I_3 p1 p1 ∧ ∀ (x_4 : Int32) (x_5 : Int32), I_3 x_4 x_5 → (wX6_sizeOf f_state p1 (fun r_6 : Int32 => ((((p1 + r_6) ≤ x_5 → post x_4) ∧ (¬ (p1 + r_6) ≤ x_5 → (vp_in ((128 : Int32) + x_5) 579 ∧ (vp_in ((128 : Int32) + x_4) 579 ∧ (((f_state ((128 : Int32) + x_5).toNatClampNeg) ≤ (f_state ((128 : Int32) + x_4).toNatClampNeg) → (∀ x_9 : Int32, x_9 = x_5 + (1) → (I_3 x_4 x_9 ∧ mu_3 x_4 x_9 < mu_3 x_4 x_5))) ∧ (¬ (f_state ((128 : Int32) + x_5).toNatClampNeg) ≤ (f_state ((128 : Int32) + x_4).toNatClampNeg) → (∀ x_10 : Int32, x_10 = x_5 + (1) → (I_3 x_5 x_10 ∧ mu_3 x_5 x_10 < mu_3 x_4 x_5))))))))))))) ∧ (r_1 = 0 → post (-1 : Int32))))))
abbrev rX6_heaviest : Room := { frames := 2, cells := 0, slots := 0, locals := 46 }
theorem vX6_heaviest : yX6_heaviest.cls = RX6 ∧ yX6_heaviest.cls ≠ "java/lang/invoke/MethodHandle" ∧ yX6_heaviest.cls ≠ "java/lang/invoke/VarHandle" ∧ (parseMethodDescriptor yX6_heaviest.desc).map (fun d => d.parameters.length) = some 1 := by decide +kernel
set_option maxHeartbeats 4000000 in
set_option maxRecDepth 100000 in
theorem kX6_heaviest (l : Launch) (D : va_G) (cA : Nat → ClassId) (a0 a_state a_readPage a_tape a_cutRow a_cutWeights a_isKept a_lanes a_lengths a_cells : Nat) (f_taped : Int32) (f_fault : Int32) (f_broken : Int32) (f_brokenAt : Int32) (f_spot : Int32) (f_here : Int32) (f_token : Int32) (f_value : Int32) (f_torn : Int32) (f_state : Nat → Int32) (f_readPage : Nat → Int32) (f_tape : Nat → Int32) (f_cutRow : Nat → Int32) (f_cutWeights : Nat → Int32) (f_isKept : Nat → Int32) (f_lanes : Nat → Int32) (f_lengths : Nat → Int32) (f_cells : Nat → Int64) (p1 : Int32) (post : Int32 → Prop) (h : wX6_heaviest f_state p1 post) : Met l yX6_heaviest wsX6_heaviest rX6_heaviest (zPr D cA [.ref a0, .int p1] [(a0, .inr (5, [.ref a_state, .ref a_readPage, .ref a_tape, .int f_taped, .int f_fault, .int f_broken, .int f_brokenAt, .int f_spot, .int f_here, .int f_token, .int f_value, .ref a_cutRow, .ref a_cutWeights, .ref a_isKept, .ref a_lanes, .ref a_lengths, .ref a_cells, .int f_torn])), (a_state, .inl (cA 0, 579, .inl f_state)), (a_readPage, .inl (cA 0, 193, .inl f_readPage)), (a_tape, .inl (cA 0, 160, .inl f_tape)), (a_cutRow, .inl (cA 0, 128, .inl f_cutRow)), (a_cutWeights, .inl (cA 0, 64, .inl f_cutWeights)), (a_isKept, .inl (cA 3, 2, .inl f_isKept)), (a_lanes, .inl (cA 0, 4, .inl f_lanes)), (a_lengths, .inl (cA 0, 4, .inl f_lengths)), (a_cells, .inl (cA 1, 160, .inr (.inl f_cells)))]) (vp_Si post) 0 0 (fun _ => False) := by
  refine z_ro (cc := cX6_heaviest) (maxL := 4) (ret := (some .int)) (by decide) rfl (Nat.le_of_ble_eq_true rfl) ?_
  intro p e s m args below meth c ls hx hb hr hlk hml hown hts hK hP hl
  have hown : s.vm.findClass RX6 = some m.cls := hown
  have hl : lv_has ls 4 [(0, .ref a0), (1, .int p1)] := hl
  have hw := h
  unfold wX6_heaviest at hw
  have iwX6 : ∀ w ∈ wsX60, w ∈ wsX6_heaviest := fun w h9 => List.mem_cons_of_mem _ (List.mem_append_right _ h9)
  have kf7 := hts (.fieldLink RX6 7 "ExcessTreeModel" "state" "[I") (by decide +kernel)
  refine lv_aload_n hx hb dX6_heaviest_0 rfl (lv_at hl 0 rfl) ?_
  refine lv_iload_n hx hb dX6_heaviest_1 rfl (lv_at hl 1 rfl) ?_
  refine z_ri [.int p1] [] ⟨hx, hb, hml, hown, hts⟩ (kX6_isNode l D cA a0 a_state a_readPage a_tape a_cutRow a_cutWeights a_isKept a_lanes a_lengths a_cells f_taped f_fault f_broken f_brokenAt f_spot f_here f_token f_value f_torn f_state f_readPage f_tape f_cutRow f_cutWeights f_isKept f_lanes f_lengths f_cells p1 _ hw) (cwV 1 hts gX6_heaviest_X6_isNode rfl rfl rfl vX6_isNode ⟨Nat.le_of_ble_eq_true rfl, Nat.le_of_ble_eq_true rfl⟩) hK (hP.sub [0, 1, 2, 3, 4, 5, 6, 7, 8, 9] rfl) (va_recv hK.1 (hP.sub (ws' := [(a0, .inr (5, [.ref a_state, .ref a_readPage, .ref a_tape, .int f_taped, .int f_fault, .int f_broken, .int f_brokenAt, .int f_spot, .int f_here, .int f_token, .int f_value, .ref a_cutRow, .ref a_cutWeights, .ref a_isKept, .ref a_lanes, .ref a_lengths, .ref a_cells, .int f_torn]))]) [0] rfl) (ci := 5) (q0 := 0) rfl rfl) rfl hl.1 rfl (Nat.le_of_ble_eq_true rfl) dX6_heaviest_2 ⟨Nat.zero_le _, Nat.zero_le _⟩ (fun r_1 hw => ?_)
  refine lv_if_ne (tgt := 10) hx hb dX6_heaviest_5 (by decide) (fun c_2 => ?_) (fun c_2 => ?_)
  · have hw := hw.1 c_2
    refine lv_iload_n hx hb dX6_heaviest_10 rfl (lv_at hl 1 rfl) ?_
    refine lv_istore_n (lv' := [(2, .int p1), (0, .ref a0), (1, .int p1)]) hx hb dX6_heaviest_11 rfl hl (by decide) rfl (fun ls hl => ?_)
    refine lv_iload_n hx hb dX6_heaviest_12 rfl (lv_at hl 2 rfl) ?_
    refine lv_istore_n (lv' := [(3, .int p1), (2, .int p1), (0, .ref a0), (1, .int p1)]) hx hb dX6_heaviest_13 rfl hl (by decide) rfl (fun ls hl => ?_)
    obtain ⟨I_3, mu_3, hI_3, hw⟩ := hw
    have lp_3 : ∀ (nn : Nat) (x_4 : Int32) (x_5 : Int32) (ls : Array Slot), mu_3 x_4 x_5 < nn → I_3 x_4 x_5 → lv_has ls 4 [(0, .ref a0), (1, .int p1), (2, .int x_4), (3, .int x_5)] → W p l e rX6_heaviest s m args below meth c s.heap [] 0 0 (MQ below (vp_Si post) args s 0 0 (fun _ => False)) (F0 m 14 ls []) := by
      intro nn
      induction nn with
      | zero => exact fun _ _ _ h0 => absurd h0 (Nat.not_lt_zero _)
      | succ nn ih_3 =>
        intro x_4 x_5 ls hmu_3 hI_3 hl
        have hw := hw x_4 x_5 hI_3
        refine lv_iload_n hx hb dX6_heaviest_14 rfl (lv_at hl 3 rfl) ?_
        refine lv_iload_n hx hb dX6_heaviest_15 rfl (lv_at hl 1 rfl) ?_
        refine lv_aload_n hx hb dX6_heaviest_16 rfl (lv_at hl 0 rfl) ?_
        refine lv_iload_n hx hb dX6_heaviest_17 rfl (lv_at hl 1 rfl) ?_
        refine z_ri [.int p1] [.int p1, .int x_5] ⟨hx, hb, hml, hown, hts⟩ (kX6_sizeOf l D cA a0 a_state a_readPage a_tape a_cutRow a_cutWeights a_isKept a_lanes a_lengths a_cells f_taped f_fault f_broken f_brokenAt f_spot f_here f_token f_value f_torn f_state f_readPage f_tape f_cutRow f_cutWeights f_isKept f_lanes f_lengths f_cells p1 _ hw) (cwV 1 hts gX6_heaviest_X6_sizeOf rfl rfl rfl vX6_sizeOf ⟨Nat.le_of_ble_eq_true rfl, Nat.le_of_ble_eq_true rfl⟩) hK (hP.sub [0, 1, 2, 3, 4, 5, 6, 7, 8, 9] rfl) (va_recv hK.1 (hP.sub (ws' := [(a0, .inr (5, [.ref a_state, .ref a_readPage, .ref a_tape, .int f_taped, .int f_fault, .int f_broken, .int f_brokenAt, .int f_spot, .int f_here, .int f_token, .int f_value, .ref a_cutRow, .ref a_cutWeights, .ref a_isKept, .ref a_lanes, .ref a_lengths, .ref a_cells, .int f_torn]))]) [0] rfl) (ci := 5) (q0 := 0) rfl rfl) rfl hl.1 rfl (Nat.le_of_ble_eq_true rfl) dX6_heaviest_18 ⟨Nat.zero_le _, Nat.zero_le _⟩ (fun r_6 hw => ?_)
        refine lv_iadd hx hb dX6_heaviest_21 ?_
        refine lv_icmp_ge (tgt := 60) hx hb dX6_heaviest_22 (by decide) (fun c_7 => ?_) (fun c_7 => ?_)
        · have hw := hw.1 c_7
          refine lv_iload_n hx hb dX6_heaviest_60 rfl (lv_at hl 2 rfl) ?_
          exact z_iret hx hb hr hlk hw dX6_heaviest_61
        · have hw := hw.2 c_7
          refine lv_aload_n hx hb dX6_heaviest_25 rfl (lv_at hl 0 rfl) ?_
          refine va_get (D := D) (ci := 5) (v := .ref a_state) (C := RX6) (T := TX6) (N := 18) hx hb hts iwX6 hown hK.1 hP 0 rfl rfl 0 (by decide) kf7 (fun _ h9 => h9) rfl dX6_heaviest_26 ?_
          refine lv_sipush (v := 128) hx hb dX6_heaviest_29 (by decide) ?_
          refine lv_iload_n hx hb dX6_heaviest_32 rfl (lv_at hl 3 rfl) ?_
          refine lv_iadd hx hb dX6_heaviest_33 ?_
          have hq := hw.1
          have hw := hw.2
          refine va_iald hx hb hK.1 hP 1 0 rfl rfl hq dX6_heaviest_34 ?_
          refine lv_aload_n hx hb dX6_heaviest_35 rfl (lv_at hl 0 rfl) ?_
          refine va_get (D := D) (ci := 5) (v := .ref a_state) (C := RX6) (T := TX6) (N := 18) hx hb hts iwX6 hown hK.1 hP 0 rfl rfl 0 (by decide) kf7 (fun _ h9 => h9) rfl dX6_heaviest_36 ?_
          refine lv_sipush (v := 128) hx hb dX6_heaviest_39 (by decide) ?_
          refine lv_iload_n hx hb dX6_heaviest_42 rfl (lv_at hl 2 rfl) ?_
          refine lv_iadd hx hb dX6_heaviest_43 ?_
          have hq := hw.1
          have hw := hw.2
          refine va_iald hx hb hK.1 hP 1 0 rfl rfl hq dX6_heaviest_44 ?_
          refine lv_icmp_le (tgt := 52) hx hb dX6_heaviest_45 (by decide) (fun c_8 => ?_) (fun c_8 => ?_)
          · have hw := hw.1 c_8
            refine lv_iload_n hx hb dX6_heaviest_52 rfl (lv_at hl 2 rfl) ?_
            refine lv_istore_n (lv' := [(2, .int x_4), (0, .ref a0), (1, .int p1), (3, .int x_5)]) hx hb dX6_heaviest_53 rfl hl (by decide) rfl (fun ls hl => ?_)
            obtain ⟨x_9, ex_9⟩ : ∃ y : Int32, y = x_5 + (1) := ⟨_, rfl⟩
            have hw := hw x_9 ex_9
            refine lv_iinc (v := x_9) (lv' := [(3, .int x_9), (2, .int x_4), (0, .ref a0), (1, .int p1)]) hx hb dX6_heaviest_54 hl (k := 3) rfl (by rw [ex_9]; rfl) (by decide) rfl (fun ls hl => ?_)
            refine lv_goto (tgt := 14) hx hb dX6_heaviest_57 (by decide) ?_
            exact ih_3 x_4 x_9 ls (Nat.lt_of_lt_of_le hw.2 (Nat.le_of_lt_succ hmu_3)) hw.1 (lv_sub hl [2, 3, 1, 0] rfl)
          · have hw := hw.2 c_8
            refine lv_iload_n hx hb dX6_heaviest_48 rfl (lv_at hl 3 rfl) ?_
            refine lv_goto (tgt := 53) hx hb dX6_heaviest_49 (by decide) ?_
            refine lv_istore_n (lv' := [(2, .int x_5), (0, .ref a0), (1, .int p1), (3, .int x_5)]) hx hb dX6_heaviest_53 rfl hl (by decide) rfl (fun ls hl => ?_)
            obtain ⟨x_10, ex_10⟩ : ∃ y : Int32, y = x_5 + (1) := ⟨_, rfl⟩
            have hw := hw x_10 ex_10
            refine lv_iinc (v := x_10) (lv' := [(3, .int x_10), (2, .int x_5), (0, .ref a0), (1, .int p1)]) hx hb dX6_heaviest_54 hl (k := 3) rfl (by rw [ex_10]; rfl) (by decide) rfl (fun ls hl => ?_)
            refine lv_goto (tgt := 14) hx hb dX6_heaviest_57 (by decide) ?_
            exact ih_3 x_5 x_10 ls (Nat.lt_of_lt_of_le hw.2 (Nat.le_of_lt_succ hmu_3)) hw.1 (lv_sub hl [2, 3, 1, 0] rfl)
    exact lp_3 (mu_3 p1 p1 + 1) p1 p1 ls (Nat.lt_succ_self _) hI_3 (lv_sub hl [2, 3, 1, 0] rfl)
  · have hw := hw.2 c_2
    refine lv_iconst (v := -1) hx hb dX6_heaviest_8 (by decide) ?_
    exact z_iret hx hb hr hlk hw dX6_heaviest_9
def wX6_opensPlace (f_state : Nat → Int32) (p1 : Int32) (p2 : Int32) (post : (Nat → Int32) → Prop) : Prop := (∃ (I_1 : Int32 → (Nat → Int32) → Prop) (mu_1 : Int32 → (Nat → Int32) → Nat), I_1 (127 : Int32) f_state ∧ ∀ (x_2 : Int32) (f_state_3 : Nat → Int32), I_1 x_2 f_state_3 → ((x_2 ≤ p1 → (vp_in p1 579 ∧ post (upd f_state_3 p1.toNatClampNeg p2))) ∧ (¬ x_2 ≤ p1 → (vp_in (x_2 - (1 : Int32)) 579 ∧ (∀ x_5 : Int32, x_5 = (f_state_3 (x_2 - (1 : Int32)).toNatClampNeg) → (vp_in x_2 579 ∧ (∀ x_6 : Int32, x_6 = x_2 + (-1) → (I_1 x_6 (upd f_state_3 x_2.toNatClampNeg x_5) ∧ mu_1 x_6 (upd f_state_3 x_2.toNatClampNeg x_5) < mu_1 x_2 f_state_3))))))))
abbrev rX6_opensPlace : Room := { frames := 0, cells := 0, slots := 0, locals := 0 }
theorem vX6_opensPlace : yX6_opensPlace.cls = RX6 ∧ yX6_opensPlace.cls ≠ "java/lang/invoke/MethodHandle" ∧ yX6_opensPlace.cls ≠ "java/lang/invoke/VarHandle" ∧ (parseMethodDescriptor yX6_opensPlace.desc).map (fun d => d.parameters.length) = some 2 := by decide +kernel
set_option maxHeartbeats 4000000 in
set_option maxRecDepth 100000 in
theorem kX6_opensPlace (l : Launch) (D : va_G) (cA : Nat → ClassId) (a0 a_state a_readPage a_tape a_cutRow a_cutWeights a_isKept a_lanes a_lengths a_cells : Nat) (f_taped : Int32) (f_fault : Int32) (f_broken : Int32) (f_brokenAt : Int32) (f_spot : Int32) (f_here : Int32) (f_token : Int32) (f_value : Int32) (f_torn : Int32) (f_state : Nat → Int32) (f_readPage : Nat → Int32) (f_tape : Nat → Int32) (f_cutRow : Nat → Int32) (f_cutWeights : Nat → Int32) (f_isKept : Nat → Int32) (f_lanes : Nat → Int32) (f_lengths : Nat → Int32) (f_cells : Nat → Int64) (sz : Nat) (p1 : Int32) (p2 : Int32) (post : (Nat → Int32) → Prop) (h : wX6_opensPlace f_state p1 p2 post) : Met l yX6_opensPlace wsX6_opensPlace rX6_opensPlace (zPw D cA [.ref a0, .int p1, .int p2] [(a0, .inr (5, [.ref a_state, .ref a_readPage, .ref a_tape, .int f_taped, .int f_fault, .int f_broken, .int f_brokenAt, .int f_spot, .int f_here, .int f_token, .int f_value, .ref a_cutRow, .ref a_cutWeights, .ref a_isKept, .ref a_lanes, .ref a_lengths, .ref a_cells, .int f_torn])), (a_state, .inl (cA 0, 579, .inl f_state)), (a_readPage, .inl (cA 0, 193, .inl f_readPage)), (a_tape, .inl (cA 0, 160, .inl f_tape)), (a_cutRow, .inl (cA 0, 128, .inl f_cutRow)), (a_cutWeights, .inl (cA 0, 64, .inl f_cutWeights)), (a_isKept, .inl (cA 3, 2, .inl f_isKept)), (a_lanes, .inl (cA 0, 4, .inl f_lanes)), (a_lengths, .inl (cA 0, 4, .inl f_lengths)), (a_cells, .inl (cA 1, 160, .inr (.inl f_cells)))] sz) (va_Qv post (zB D (va_A [(a0, .inr (5, [.ref a_state, .ref a_readPage, .ref a_tape, .int f_taped, .int f_fault, .int f_broken, .int f_brokenAt, .int f_spot, .int f_here, .int f_token, .int f_value, .ref a_cutRow, .ref a_cutWeights, .ref a_isKept, .ref a_lanes, .ref a_lengths, .ref a_cells, .int f_torn])), (a_state, .inl (cA 0, 579, .inl f_state)), (a_readPage, .inl (cA 0, 193, .inl f_readPage)), (a_tape, .inl (cA 0, 160, .inl f_tape)), (a_cutRow, .inl (cA 0, 128, .inl f_cutRow)), (a_cutWeights, .inl (cA 0, 64, .inl f_cutWeights)), (a_isKept, .inl (cA 3, 2, .inl f_isKept)), (a_lanes, .inl (cA 0, 4, .inl f_lanes)), (a_lengths, .inl (cA 0, 4, .inl f_lengths)), (a_cells, .inl (cA 1, 160, .inr (.inl f_cells)))] sz) (fun u : (Nat → Int32) => [(a0, .inr (5, [.ref a_state, .ref a_readPage, .ref a_tape, .int f_taped, .int f_fault, .int f_broken, .int f_brokenAt, .int f_spot, .int f_here, .int f_token, .int f_value, .ref a_cutRow, .ref a_cutWeights, .ref a_isKept, .ref a_lanes, .ref a_lengths, .ref a_cells, .int f_torn])), (a_state, .inl (cA 0, 579, .inl u)), (a_readPage, .inl (cA 0, 193, .inl f_readPage)), (a_tape, .inl (cA 0, 160, .inl f_tape)), (a_cutRow, .inl (cA 0, 128, .inl f_cutRow)), (a_cutWeights, .inl (cA 0, 64, .inl f_cutWeights)), (a_isKept, .inl (cA 3, 2, .inl f_isKept)), (a_lanes, .inl (cA 0, 4, .inl f_lanes)), (a_lengths, .inl (cA 0, 4, .inl f_lengths)), (a_cells, .inl (cA 1, 160, .inr (.inl f_cells)))])) (va_A [(a0, .inr (5, [.ref a_state, .ref a_readPage, .ref a_tape, .int f_taped, .int f_fault, .int f_broken, .int f_brokenAt, .int f_spot, .int f_here, .int f_token, .int f_value, .ref a_cutRow, .ref a_cutWeights, .ref a_isKept, .ref a_lanes, .ref a_lengths, .ref a_cells, .int f_torn])), (a_state, .inl (cA 0, 579, .inl f_state)), (a_readPage, .inl (cA 0, 193, .inl f_readPage)), (a_tape, .inl (cA 0, 160, .inl f_tape)), (a_cutRow, .inl (cA 0, 128, .inl f_cutRow)), (a_cutWeights, .inl (cA 0, 64, .inl f_cutWeights)), (a_isKept, .inl (cA 3, 2, .inl f_isKept)), (a_lanes, .inl (cA 0, 4, .inl f_lanes)), (a_lengths, .inl (cA 0, 4, .inl f_lengths)), (a_cells, .inl (cA 1, 160, .inr (.inl f_cells)))] sz)) 0 0 (va_A [(a0, .inr (5, [.ref a_state, .ref a_readPage, .ref a_tape, .int f_taped, .int f_fault, .int f_broken, .int f_brokenAt, .int f_spot, .int f_here, .int f_token, .int f_value, .ref a_cutRow, .ref a_cutWeights, .ref a_isKept, .ref a_lanes, .ref a_lengths, .ref a_cells, .int f_torn])), (a_state, .inl (cA 0, 579, .inl f_state)), (a_readPage, .inl (cA 0, 193, .inl f_readPage)), (a_tape, .inl (cA 0, 160, .inl f_tape)), (a_cutRow, .inl (cA 0, 128, .inl f_cutRow)), (a_cutWeights, .inl (cA 0, 64, .inl f_cutWeights)), (a_isKept, .inl (cA 3, 2, .inl f_isKept)), (a_lanes, .inl (cA 0, 4, .inl f_lanes)), (a_lengths, .inl (cA 0, 4, .inl f_lengths)), (a_cells, .inl (cA 1, 160, .inr (.inl f_cells)))] sz) := by
  refine z_rw (Qc := fun A => va_Qv post (zB D A (fun u : (Nat → Int32) => [(a0, .inr (5, [.ref a_state, .ref a_readPage, .ref a_tape, .int f_taped, .int f_fault, .int f_broken, .int f_brokenAt, .int f_spot, .int f_here, .int f_token, .int f_value, .ref a_cutRow, .ref a_cutWeights, .ref a_isKept, .ref a_lanes, .ref a_lengths, .ref a_cells, .int f_torn])), (a_state, .inl (cA 0, 579, .inl u)), (a_readPage, .inl (cA 0, 193, .inl f_readPage)), (a_tape, .inl (cA 0, 160, .inl f_tape)), (a_cutRow, .inl (cA 0, 128, .inl f_cutRow)), (a_cutWeights, .inl (cA 0, 64, .inl f_cutWeights)), (a_isKept, .inl (cA 3, 2, .inl f_isKept)), (a_lanes, .inl (cA 0, 4, .inl f_lanes)), (a_lengths, .inl (cA 0, 4, .inl f_lengths)), (a_cells, .inl (cA 1, 160, .inr (.inl f_cells)))])) A) (cc := cX6_opensPlace) (maxL := 4) (ret := none) (by decide) rfl (Nat.le_of_ble_eq_true rfl) ?_
  intro p e s m args below meth c ls A hx hb hr hlk hml hown hts hK hP hD hS hA hl
  have hown : s.vm.findClass RX6 = some m.cls := hown
  have hl : lv_has ls 4 [(0, .ref a0), (1, .int p1), (2, .int p2)] := hl
  have hw := h
  unfold wX6_opensPlace at hw
  have iwX6 : ∀ w ∈ wsX60, w ∈ wsX6_opensPlace := fun w h9 => List.mem_cons_of_mem _ (List.mem_append_right _ h9)
  have kf7 := hts (.fieldLink RX6 7 "ExcessTreeModel" "state" "[I") (by decide +kernel)
  refine lv_bipush (v := 127) hx hb dX6_opensPlace_0 (by decide) ?_
  refine lv_istore_n (lv' := [(3, .int (127 : Int32)), (0, .ref a0), (1, .int p1), (2, .int p2)]) hx hb dX6_opensPlace_2 rfl hl (by decide) rfl (fun ls hl => ?_)
  obtain ⟨I_1, mu_1, hI_1, hw⟩ := hw
  have lp_1 : ∀ (nn : Nat) (x_2 : Int32) (f_state_3 : Nat → Int32) (H : Heap) (locs : List Loc) (ls : Array Slot), mu_1 x_2 f_state_3 < nn → I_1 x_2 f_state_3 → va_P D vwCl [(a0, .inr (5, [.ref a_state, .ref a_readPage, .ref a_tape, .int f_taped, .int f_fault, .int f_broken, .int f_brokenAt, .int f_spot, .int f_here, .int f_token, .int f_value, .ref a_cutRow, .ref a_cutWeights, .ref a_isKept, .ref a_lanes, .ref a_lengths, .ref a_cells, .int f_torn])), (a_state, .inl (cA 0, 579, .inl f_state_3)), (a_readPage, .inl (cA 0, 193, .inl f_readPage)), (a_tape, .inl (cA 0, 160, .inl f_tape)), (a_cutRow, .inl (cA 0, 128, .inl f_cutRow)), (a_cutWeights, .inl (cA 0, 64, .inl f_cutWeights)), (a_isKept, .inl (cA 3, 2, .inl f_isKept)), (a_lanes, .inl (cA 0, 4, .inl f_lanes)), (a_lengths, .inl (cA 0, 4, .inl f_lengths)), (a_cells, .inl (cA 1, 160, .inr (.inl f_cells)))] H → va_D A [(a0, .inr (5, [.ref a_state, .ref a_readPage, .ref a_tape, .int f_taped, .int f_fault, .int f_broken, .int f_brokenAt, .int f_spot, .int f_here, .int f_token, .int f_value, .ref a_cutRow, .ref a_cutWeights, .ref a_isKept, .ref a_lanes, .ref a_lengths, .ref a_cells, .int f_torn])), (a_state, .inl (cA 0, 579, .inl f_state_3)), (a_readPage, .inl (cA 0, 193, .inl f_readPage)), (a_tape, .inl (cA 0, 160, .inl f_tape)), (a_cutRow, .inl (cA 0, 128, .inl f_cutRow)), (a_cutWeights, .inl (cA 0, 64, .inl f_cutWeights)), (a_isKept, .inl (cA 3, 2, .inl f_isKept)), (a_lanes, .inl (cA 0, 4, .inl f_lanes)), (a_lengths, .inl (cA 0, 4, .inl f_lengths)), (a_cells, .inl (cA 1, 160, .inr (.inl f_cells)))] → va_S A s.heap H locs → lv_has ls 4 [(0, .ref a0), (1, .int p1), (2, .int p2), (3, .int x_2)] → W p l e rX6_opensPlace s m args below meth c H locs 0 0 (MQ below (va_Qv post (zB D A (fun u : (Nat → Int32) => [(a0, .inr (5, [.ref a_state, .ref a_readPage, .ref a_tape, .int f_taped, .int f_fault, .int f_broken, .int f_brokenAt, .int f_spot, .int f_here, .int f_token, .int f_value, .ref a_cutRow, .ref a_cutWeights, .ref a_isKept, .ref a_lanes, .ref a_lengths, .ref a_cells, .int f_torn])), (a_state, .inl (cA 0, 579, .inl u)), (a_readPage, .inl (cA 0, 193, .inl f_readPage)), (a_tape, .inl (cA 0, 160, .inl f_tape)), (a_cutRow, .inl (cA 0, 128, .inl f_cutRow)), (a_cutWeights, .inl (cA 0, 64, .inl f_cutWeights)), (a_isKept, .inl (cA 3, 2, .inl f_isKept)), (a_lanes, .inl (cA 0, 4, .inl f_lanes)), (a_lengths, .inl (cA 0, 4, .inl f_lengths)), (a_cells, .inl (cA 1, 160, .inr (.inl f_cells)))])) A) args s 0 0 A) (F0 m 3 ls []) := by
    intro nn
    induction nn with
    | zero => exact fun _ _ _ _ _ h0 => absurd h0 (Nat.not_lt_zero _)
    | succ nn ih_1 =>
      intro x_2 f_state_3 H locs ls hmu_1 hI_1 hP hD hS hl
      have hw := hw x_2 f_state_3 hI_1
      refine lv_iload_n hx hb dX6_opensPlace_3 rfl (lv_at hl 3 rfl) ?_
      refine lv_iload_n hx hb dX6_opensPlace_4 rfl (lv_at hl 1 rfl) ?_
      refine lv_icmp_le (tgt := 28) hx hb dX6_opensPlace_5 (by decide) (fun c_4 => ?_) (fun c_4 => ?_)
      · have hw := hw.1 c_4
        refine lv_aload_n hx hb dX6_opensPlace_28 rfl (lv_at hl 0 rfl) ?_
        refine va_get (D := D) (ci := 5) (v := .ref a_state) (C := RX6) (T := TX6) (N := 18) hx hb hts iwX6 hown hK.1 hP 0 rfl rfl 0 (by decide) kf7 (fun _ h9 => h9) rfl dX6_opensPlace_29 ?_
        refine lv_iload_n hx hb dX6_opensPlace_32 rfl (lv_at hl 1 rfl) ?_
        refine lv_iload_n hx hb dX6_opensPlace_33 rfl (lv_at hl 2 rfl) ?_
        have hq := hw.1
        have hw := hw.2
        refine va_iast hx hb hK.1 hP hD hS 1 0 rfl rfl hq dX6_opensPlace_34 (fun H locs hP hD hS => ?_)
        have hP : va_P D vwCl [(a0, .inr (5, [.ref a_state, .ref a_readPage, .ref a_tape, .int f_taped, .int f_fault, .int f_broken, .int f_brokenAt, .int f_spot, .int f_here, .int f_token, .int f_value, .ref a_cutRow, .ref a_cutWeights, .ref a_isKept, .ref a_lanes, .ref a_lengths, .ref a_cells, .int f_torn])), (a_state, .inl (cA 0, 579, .inl (upd f_state_3 p1.toNatClampNeg p2))), (a_readPage, .inl (cA 0, 193, .inl f_readPage)), (a_tape, .inl (cA 0, 160, .inl f_tape)), (a_cutRow, .inl (cA 0, 128, .inl f_cutRow)), (a_cutWeights, .inl (cA 0, 64, .inl f_cutWeights)), (a_isKept, .inl (cA 3, 2, .inl f_isKept)), (a_lanes, .inl (cA 0, 4, .inl f_lanes)), (a_lengths, .inl (cA 0, 4, .inl f_lengths)), (a_cells, .inl (cA 1, 160, .inr (.inl f_cells)))] H := hP
        have hD : va_D A [(a0, .inr (5, [.ref a_state, .ref a_readPage, .ref a_tape, .int f_taped, .int f_fault, .int f_broken, .int f_brokenAt, .int f_spot, .int f_here, .int f_token, .int f_value, .ref a_cutRow, .ref a_cutWeights, .ref a_isKept, .ref a_lanes, .ref a_lengths, .ref a_cells, .int f_torn])), (a_state, .inl (cA 0, 579, .inl (upd f_state_3 p1.toNatClampNeg p2))), (a_readPage, .inl (cA 0, 193, .inl f_readPage)), (a_tape, .inl (cA 0, 160, .inl f_tape)), (a_cutRow, .inl (cA 0, 128, .inl f_cutRow)), (a_cutWeights, .inl (cA 0, 64, .inl f_cutWeights)), (a_isKept, .inl (cA 3, 2, .inl f_isKept)), (a_lanes, .inl (cA 0, 4, .inl f_lanes)), (a_lengths, .inl (cA 0, 4, .inl f_lengths)), (a_cells, .inl (cA 1, 160, .inr (.inl f_cells)))] := hD
        exact z_vretw (upd f_state_3 p1.toNatClampNeg p2) hx hb hr hlk hw hP hD hS dX6_opensPlace_35
      · have hw := hw.2 c_4
        refine lv_aload_n hx hb dX6_opensPlace_8 rfl (lv_at hl 0 rfl) ?_
        refine va_get (D := D) (ci := 5) (v := .ref a_state) (C := RX6) (T := TX6) (N := 18) hx hb hts iwX6 hown hK.1 hP 0 rfl rfl 0 (by decide) kf7 (fun _ h9 => h9) rfl dX6_opensPlace_9 ?_
        refine lv_iload_n hx hb dX6_opensPlace_12 rfl (lv_at hl 3 rfl) ?_
        refine lv_aload_n hx hb dX6_opensPlace_13 rfl (lv_at hl 0 rfl) ?_
        refine va_get (D := D) (ci := 5) (v := .ref a_state) (C := RX6) (T := TX6) (N := 18) hx hb hts iwX6 hown hK.1 hP 0 rfl rfl 0 (by decide) kf7 (fun _ h9 => h9) rfl dX6_opensPlace_14 ?_
        refine lv_iload_n hx hb dX6_opensPlace_17 rfl (lv_at hl 3 rfl) ?_
        refine lv_iconst (v := 1) hx hb dX6_opensPlace_18 (by decide) ?_
        refine lv_isub hx hb dX6_opensPlace_19 ?_
        have hq := hw.1
        have hw := hw.2
        refine va_iald hx hb hK.1 hP 1 0 rfl rfl hq dX6_opensPlace_20 ?_
        refine lv_topi (fun x_5 ex_5 => ?_)
        have hw := hw x_5 ex_5
        have hq := hw.1
        have hw := hw.2
        refine va_iast hx hb hK.1 hP hD hS 1 0 rfl rfl hq dX6_opensPlace_21 (fun H locs hP hD hS => ?_)
        have hP : va_P D vwCl [(a0, .inr (5, [.ref a_state, .ref a_readPage, .ref a_tape, .int f_taped, .int f_fault, .int f_broken, .int f_brokenAt, .int f_spot, .int f_here, .int f_token, .int f_value, .ref a_cutRow, .ref a_cutWeights, .ref a_isKept, .ref a_lanes, .ref a_lengths, .ref a_cells, .int f_torn])), (a_state, .inl (cA 0, 579, .inl (upd f_state_3 x_2.toNatClampNeg x_5))), (a_readPage, .inl (cA 0, 193, .inl f_readPage)), (a_tape, .inl (cA 0, 160, .inl f_tape)), (a_cutRow, .inl (cA 0, 128, .inl f_cutRow)), (a_cutWeights, .inl (cA 0, 64, .inl f_cutWeights)), (a_isKept, .inl (cA 3, 2, .inl f_isKept)), (a_lanes, .inl (cA 0, 4, .inl f_lanes)), (a_lengths, .inl (cA 0, 4, .inl f_lengths)), (a_cells, .inl (cA 1, 160, .inr (.inl f_cells)))] H := hP
        have hD : va_D A [(a0, .inr (5, [.ref a_state, .ref a_readPage, .ref a_tape, .int f_taped, .int f_fault, .int f_broken, .int f_brokenAt, .int f_spot, .int f_here, .int f_token, .int f_value, .ref a_cutRow, .ref a_cutWeights, .ref a_isKept, .ref a_lanes, .ref a_lengths, .ref a_cells, .int f_torn])), (a_state, .inl (cA 0, 579, .inl (upd f_state_3 x_2.toNatClampNeg x_5))), (a_readPage, .inl (cA 0, 193, .inl f_readPage)), (a_tape, .inl (cA 0, 160, .inl f_tape)), (a_cutRow, .inl (cA 0, 128, .inl f_cutRow)), (a_cutWeights, .inl (cA 0, 64, .inl f_cutWeights)), (a_isKept, .inl (cA 3, 2, .inl f_isKept)), (a_lanes, .inl (cA 0, 4, .inl f_lanes)), (a_lengths, .inl (cA 0, 4, .inl f_lengths)), (a_cells, .inl (cA 1, 160, .inr (.inl f_cells)))] := hD
        obtain ⟨x_6, ex_6⟩ : ∃ y : Int32, y = x_2 + (-1) := ⟨_, rfl⟩
        have hw := hw x_6 ex_6
        refine lv_iinc (v := x_6) (lv' := [(3, .int x_6), (0, .ref a0), (1, .int p1), (2, .int p2)]) hx hb dX6_opensPlace_22 hl (k := 3) rfl (by rw [ex_6]; rfl) (by decide) rfl (fun ls hl => ?_)
        refine lv_goto (tgt := 3) hx hb dX6_opensPlace_25 (by decide) ?_
        exact ih_1 x_6 (upd f_state_3 x_2.toNatClampNeg x_5) _ _ ls (Nat.lt_of_lt_of_le hw.2 (Nat.le_of_lt_succ hmu_1)) hw.1 hP hD hS (lv_sub hl [1, 2, 3, 0] rfl)
  exact lp_1 (mu_1 (127 : Int32) f_state + 1) (127 : Int32) f_state _ _ ls (Nat.lt_succ_self _) hI_1 hP hD hS (lv_sub hl [1, 2, 3, 0] rfl)
def wX6_shutsPlace (f_state : Nat → Int32) (p1 : Int32) (post : (Nat → Int32) → Prop) : Prop := (∃ (I_1 : Int32 → (Nat → Int32) → Prop) (mu_1 : Int32 → (Nat → Int32) → Nat), I_1 p1 f_state ∧ ∀ (x_2 : Int32) (f_state_3 : Nat → Int32), I_1 x_2 f_state_3 → (((128 : Int32) ≤ (x_2 + (1 : Int32)) → post f_state_3) ∧ (¬ (128 : Int32) ≤ (x_2 + (1 : Int32)) → (vp_in (x_2 + (1 : Int32)) 579 ∧ (∀ x_5 : Int32, x_5 = (f_state_3 (x_2 + (1 : Int32)).toNatClampNeg) → (vp_in x_2 579 ∧ (∀ x_6 : Int32, x_6 = x_2 + (1) → (I_1 x_6 (upd f_state_3 x_2.toNatClampNeg x_5) ∧ mu_1 x_6 (upd f_state_3 x_2.toNatClampNeg x_5) < mu_1 x_2 f_state_3))))))))
abbrev rX6_shutsPlace : Room := { frames := 0, cells := 0, slots := 0, locals := 0 }
theorem vX6_shutsPlace : yX6_shutsPlace.cls = RX6 ∧ yX6_shutsPlace.cls ≠ "java/lang/invoke/MethodHandle" ∧ yX6_shutsPlace.cls ≠ "java/lang/invoke/VarHandle" ∧ (parseMethodDescriptor yX6_shutsPlace.desc).map (fun d => d.parameters.length) = some 1 := by decide +kernel
set_option maxHeartbeats 4000000 in
set_option maxRecDepth 100000 in
theorem kX6_shutsPlace (l : Launch) (D : va_G) (cA : Nat → ClassId) (a0 a_state a_readPage a_tape a_cutRow a_cutWeights a_isKept a_lanes a_lengths a_cells : Nat) (f_taped : Int32) (f_fault : Int32) (f_broken : Int32) (f_brokenAt : Int32) (f_spot : Int32) (f_here : Int32) (f_token : Int32) (f_value : Int32) (f_torn : Int32) (f_state : Nat → Int32) (f_readPage : Nat → Int32) (f_tape : Nat → Int32) (f_cutRow : Nat → Int32) (f_cutWeights : Nat → Int32) (f_isKept : Nat → Int32) (f_lanes : Nat → Int32) (f_lengths : Nat → Int32) (f_cells : Nat → Int64) (sz : Nat) (p1 : Int32) (post : (Nat → Int32) → Prop) (h : wX6_shutsPlace f_state p1 post) : Met l yX6_shutsPlace wsX6_shutsPlace rX6_shutsPlace (zPw D cA [.ref a0, .int p1] [(a0, .inr (5, [.ref a_state, .ref a_readPage, .ref a_tape, .int f_taped, .int f_fault, .int f_broken, .int f_brokenAt, .int f_spot, .int f_here, .int f_token, .int f_value, .ref a_cutRow, .ref a_cutWeights, .ref a_isKept, .ref a_lanes, .ref a_lengths, .ref a_cells, .int f_torn])), (a_state, .inl (cA 0, 579, .inl f_state)), (a_readPage, .inl (cA 0, 193, .inl f_readPage)), (a_tape, .inl (cA 0, 160, .inl f_tape)), (a_cutRow, .inl (cA 0, 128, .inl f_cutRow)), (a_cutWeights, .inl (cA 0, 64, .inl f_cutWeights)), (a_isKept, .inl (cA 3, 2, .inl f_isKept)), (a_lanes, .inl (cA 0, 4, .inl f_lanes)), (a_lengths, .inl (cA 0, 4, .inl f_lengths)), (a_cells, .inl (cA 1, 160, .inr (.inl f_cells)))] sz) (va_Qv post (zB D (va_A [(a0, .inr (5, [.ref a_state, .ref a_readPage, .ref a_tape, .int f_taped, .int f_fault, .int f_broken, .int f_brokenAt, .int f_spot, .int f_here, .int f_token, .int f_value, .ref a_cutRow, .ref a_cutWeights, .ref a_isKept, .ref a_lanes, .ref a_lengths, .ref a_cells, .int f_torn])), (a_state, .inl (cA 0, 579, .inl f_state)), (a_readPage, .inl (cA 0, 193, .inl f_readPage)), (a_tape, .inl (cA 0, 160, .inl f_tape)), (a_cutRow, .inl (cA 0, 128, .inl f_cutRow)), (a_cutWeights, .inl (cA 0, 64, .inl f_cutWeights)), (a_isKept, .inl (cA 3, 2, .inl f_isKept)), (a_lanes, .inl (cA 0, 4, .inl f_lanes)), (a_lengths, .inl (cA 0, 4, .inl f_lengths)), (a_cells, .inl (cA 1, 160, .inr (.inl f_cells)))] sz) (fun u : (Nat → Int32) => [(a0, .inr (5, [.ref a_state, .ref a_readPage, .ref a_tape, .int f_taped, .int f_fault, .int f_broken, .int f_brokenAt, .int f_spot, .int f_here, .int f_token, .int f_value, .ref a_cutRow, .ref a_cutWeights, .ref a_isKept, .ref a_lanes, .ref a_lengths, .ref a_cells, .int f_torn])), (a_state, .inl (cA 0, 579, .inl u)), (a_readPage, .inl (cA 0, 193, .inl f_readPage)), (a_tape, .inl (cA 0, 160, .inl f_tape)), (a_cutRow, .inl (cA 0, 128, .inl f_cutRow)), (a_cutWeights, .inl (cA 0, 64, .inl f_cutWeights)), (a_isKept, .inl (cA 3, 2, .inl f_isKept)), (a_lanes, .inl (cA 0, 4, .inl f_lanes)), (a_lengths, .inl (cA 0, 4, .inl f_lengths)), (a_cells, .inl (cA 1, 160, .inr (.inl f_cells)))])) (va_A [(a0, .inr (5, [.ref a_state, .ref a_readPage, .ref a_tape, .int f_taped, .int f_fault, .int f_broken, .int f_brokenAt, .int f_spot, .int f_here, .int f_token, .int f_value, .ref a_cutRow, .ref a_cutWeights, .ref a_isKept, .ref a_lanes, .ref a_lengths, .ref a_cells, .int f_torn])), (a_state, .inl (cA 0, 579, .inl f_state)), (a_readPage, .inl (cA 0, 193, .inl f_readPage)), (a_tape, .inl (cA 0, 160, .inl f_tape)), (a_cutRow, .inl (cA 0, 128, .inl f_cutRow)), (a_cutWeights, .inl (cA 0, 64, .inl f_cutWeights)), (a_isKept, .inl (cA 3, 2, .inl f_isKept)), (a_lanes, .inl (cA 0, 4, .inl f_lanes)), (a_lengths, .inl (cA 0, 4, .inl f_lengths)), (a_cells, .inl (cA 1, 160, .inr (.inl f_cells)))] sz)) 0 0 (va_A [(a0, .inr (5, [.ref a_state, .ref a_readPage, .ref a_tape, .int f_taped, .int f_fault, .int f_broken, .int f_brokenAt, .int f_spot, .int f_here, .int f_token, .int f_value, .ref a_cutRow, .ref a_cutWeights, .ref a_isKept, .ref a_lanes, .ref a_lengths, .ref a_cells, .int f_torn])), (a_state, .inl (cA 0, 579, .inl f_state)), (a_readPage, .inl (cA 0, 193, .inl f_readPage)), (a_tape, .inl (cA 0, 160, .inl f_tape)), (a_cutRow, .inl (cA 0, 128, .inl f_cutRow)), (a_cutWeights, .inl (cA 0, 64, .inl f_cutWeights)), (a_isKept, .inl (cA 3, 2, .inl f_isKept)), (a_lanes, .inl (cA 0, 4, .inl f_lanes)), (a_lengths, .inl (cA 0, 4, .inl f_lengths)), (a_cells, .inl (cA 1, 160, .inr (.inl f_cells)))] sz) := by
  refine z_rw (Qc := fun A => va_Qv post (zB D A (fun u : (Nat → Int32) => [(a0, .inr (5, [.ref a_state, .ref a_readPage, .ref a_tape, .int f_taped, .int f_fault, .int f_broken, .int f_brokenAt, .int f_spot, .int f_here, .int f_token, .int f_value, .ref a_cutRow, .ref a_cutWeights, .ref a_isKept, .ref a_lanes, .ref a_lengths, .ref a_cells, .int f_torn])), (a_state, .inl (cA 0, 579, .inl u)), (a_readPage, .inl (cA 0, 193, .inl f_readPage)), (a_tape, .inl (cA 0, 160, .inl f_tape)), (a_cutRow, .inl (cA 0, 128, .inl f_cutRow)), (a_cutWeights, .inl (cA 0, 64, .inl f_cutWeights)), (a_isKept, .inl (cA 3, 2, .inl f_isKept)), (a_lanes, .inl (cA 0, 4, .inl f_lanes)), (a_lengths, .inl (cA 0, 4, .inl f_lengths)), (a_cells, .inl (cA 1, 160, .inr (.inl f_cells)))])) A) (cc := cX6_shutsPlace) (maxL := 3) (ret := none) (by decide) rfl (Nat.le_of_ble_eq_true rfl) ?_
  intro p e s m args below meth c ls A hx hb hr hlk hml hown hts hK hP hD hS hA hl
  have hown : s.vm.findClass RX6 = some m.cls := hown
  have hl : lv_has ls 3 [(0, .ref a0), (1, .int p1)] := hl
  have hw := h
  unfold wX6_shutsPlace at hw
  have iwX6 : ∀ w ∈ wsX60, w ∈ wsX6_shutsPlace := fun w h9 => List.mem_cons_of_mem _ (List.mem_append_right _ h9)
  have kf7 := hts (.fieldLink RX6 7 "ExcessTreeModel" "state" "[I") (by decide +kernel)
  refine lv_iload_n hx hb dX6_shutsPlace_0 rfl (lv_at hl 1 rfl) ?_
  refine lv_istore_n (lv' := [(2, .int p1), (0, .ref a0), (1, .int p1)]) hx hb dX6_shutsPlace_1 rfl hl (by decide) rfl (fun ls hl => ?_)
  obtain ⟨I_1, mu_1, hI_1, hw⟩ := hw
  have lp_1 : ∀ (nn : Nat) (x_2 : Int32) (f_state_3 : Nat → Int32) (H : Heap) (locs : List Loc) (ls : Array Slot), mu_1 x_2 f_state_3 < nn → I_1 x_2 f_state_3 → va_P D vwCl [(a0, .inr (5, [.ref a_state, .ref a_readPage, .ref a_tape, .int f_taped, .int f_fault, .int f_broken, .int f_brokenAt, .int f_spot, .int f_here, .int f_token, .int f_value, .ref a_cutRow, .ref a_cutWeights, .ref a_isKept, .ref a_lanes, .ref a_lengths, .ref a_cells, .int f_torn])), (a_state, .inl (cA 0, 579, .inl f_state_3)), (a_readPage, .inl (cA 0, 193, .inl f_readPage)), (a_tape, .inl (cA 0, 160, .inl f_tape)), (a_cutRow, .inl (cA 0, 128, .inl f_cutRow)), (a_cutWeights, .inl (cA 0, 64, .inl f_cutWeights)), (a_isKept, .inl (cA 3, 2, .inl f_isKept)), (a_lanes, .inl (cA 0, 4, .inl f_lanes)), (a_lengths, .inl (cA 0, 4, .inl f_lengths)), (a_cells, .inl (cA 1, 160, .inr (.inl f_cells)))] H → va_D A [(a0, .inr (5, [.ref a_state, .ref a_readPage, .ref a_tape, .int f_taped, .int f_fault, .int f_broken, .int f_brokenAt, .int f_spot, .int f_here, .int f_token, .int f_value, .ref a_cutRow, .ref a_cutWeights, .ref a_isKept, .ref a_lanes, .ref a_lengths, .ref a_cells, .int f_torn])), (a_state, .inl (cA 0, 579, .inl f_state_3)), (a_readPage, .inl (cA 0, 193, .inl f_readPage)), (a_tape, .inl (cA 0, 160, .inl f_tape)), (a_cutRow, .inl (cA 0, 128, .inl f_cutRow)), (a_cutWeights, .inl (cA 0, 64, .inl f_cutWeights)), (a_isKept, .inl (cA 3, 2, .inl f_isKept)), (a_lanes, .inl (cA 0, 4, .inl f_lanes)), (a_lengths, .inl (cA 0, 4, .inl f_lengths)), (a_cells, .inl (cA 1, 160, .inr (.inl f_cells)))] → va_S A s.heap H locs → lv_has ls 3 [(0, .ref a0), (2, .int x_2)] → W p l e rX6_shutsPlace s m args below meth c H locs 0 0 (MQ below (va_Qv post (zB D A (fun u : (Nat → Int32) => [(a0, .inr (5, [.ref a_state, .ref a_readPage, .ref a_tape, .int f_taped, .int f_fault, .int f_broken, .int f_brokenAt, .int f_spot, .int f_here, .int f_token, .int f_value, .ref a_cutRow, .ref a_cutWeights, .ref a_isKept, .ref a_lanes, .ref a_lengths, .ref a_cells, .int f_torn])), (a_state, .inl (cA 0, 579, .inl u)), (a_readPage, .inl (cA 0, 193, .inl f_readPage)), (a_tape, .inl (cA 0, 160, .inl f_tape)), (a_cutRow, .inl (cA 0, 128, .inl f_cutRow)), (a_cutWeights, .inl (cA 0, 64, .inl f_cutWeights)), (a_isKept, .inl (cA 3, 2, .inl f_isKept)), (a_lanes, .inl (cA 0, 4, .inl f_lanes)), (a_lengths, .inl (cA 0, 4, .inl f_lengths)), (a_cells, .inl (cA 1, 160, .inr (.inl f_cells)))])) A) args s 0 0 A) (F0 m 2 ls []) := by
    intro nn
    induction nn with
    | zero => exact fun _ _ _ _ _ h0 => absurd h0 (Nat.not_lt_zero _)
    | succ nn ih_1 =>
      intro x_2 f_state_3 H locs ls hmu_1 hI_1 hP hD hS hl
      have hw := hw x_2 f_state_3 hI_1
      refine lv_iload_n hx hb dX6_shutsPlace_2 rfl (lv_at hl 1 rfl) ?_
      refine lv_iconst (v := 1) hx hb dX6_shutsPlace_3 (by decide) ?_
      refine lv_iadd hx hb dX6_shutsPlace_4 ?_
      refine lv_sipush (v := 128) hx hb dX6_shutsPlace_5 (by decide) ?_
      refine lv_icmp_ge (tgt := 31) hx hb dX6_shutsPlace_8 (by decide) (fun c_4 => ?_) (fun c_4 => ?_)
      · have hw := hw.1 c_4
        exact z_vretw f_state_3 hx hb hr hlk hw hP hD hS dX6_shutsPlace_31
      · have hw := hw.2 c_4
        refine lv_aload_n hx hb dX6_shutsPlace_11 rfl (lv_at hl 0 rfl) ?_
        refine va_get (D := D) (ci := 5) (v := .ref a_state) (C := RX6) (T := TX6) (N := 18) hx hb hts iwX6 hown hK.1 hP 0 rfl rfl 0 (by decide) kf7 (fun _ h9 => h9) rfl dX6_shutsPlace_12 ?_
        refine lv_iload_n hx hb dX6_shutsPlace_15 rfl (lv_at hl 1 rfl) ?_
        refine lv_aload_n hx hb dX6_shutsPlace_16 rfl (lv_at hl 0 rfl) ?_
        refine va_get (D := D) (ci := 5) (v := .ref a_state) (C := RX6) (T := TX6) (N := 18) hx hb hts iwX6 hown hK.1 hP 0 rfl rfl 0 (by decide) kf7 (fun _ h9 => h9) rfl dX6_shutsPlace_17 ?_
        refine lv_iload_n hx hb dX6_shutsPlace_20 rfl (lv_at hl 1 rfl) ?_
        refine lv_iconst (v := 1) hx hb dX6_shutsPlace_21 (by decide) ?_
        refine lv_iadd hx hb dX6_shutsPlace_22 ?_
        have hq := hw.1
        have hw := hw.2
        refine va_iald hx hb hK.1 hP 1 0 rfl rfl hq dX6_shutsPlace_23 ?_
        refine lv_topi (fun x_5 ex_5 => ?_)
        have hw := hw x_5 ex_5
        have hq := hw.1
        have hw := hw.2
        refine va_iast hx hb hK.1 hP hD hS 1 0 rfl rfl hq dX6_shutsPlace_24 (fun H locs hP hD hS => ?_)
        have hP : va_P D vwCl [(a0, .inr (5, [.ref a_state, .ref a_readPage, .ref a_tape, .int f_taped, .int f_fault, .int f_broken, .int f_brokenAt, .int f_spot, .int f_here, .int f_token, .int f_value, .ref a_cutRow, .ref a_cutWeights, .ref a_isKept, .ref a_lanes, .ref a_lengths, .ref a_cells, .int f_torn])), (a_state, .inl (cA 0, 579, .inl (upd f_state_3 x_2.toNatClampNeg x_5))), (a_readPage, .inl (cA 0, 193, .inl f_readPage)), (a_tape, .inl (cA 0, 160, .inl f_tape)), (a_cutRow, .inl (cA 0, 128, .inl f_cutRow)), (a_cutWeights, .inl (cA 0, 64, .inl f_cutWeights)), (a_isKept, .inl (cA 3, 2, .inl f_isKept)), (a_lanes, .inl (cA 0, 4, .inl f_lanes)), (a_lengths, .inl (cA 0, 4, .inl f_lengths)), (a_cells, .inl (cA 1, 160, .inr (.inl f_cells)))] H := hP
        have hD : va_D A [(a0, .inr (5, [.ref a_state, .ref a_readPage, .ref a_tape, .int f_taped, .int f_fault, .int f_broken, .int f_brokenAt, .int f_spot, .int f_here, .int f_token, .int f_value, .ref a_cutRow, .ref a_cutWeights, .ref a_isKept, .ref a_lanes, .ref a_lengths, .ref a_cells, .int f_torn])), (a_state, .inl (cA 0, 579, .inl (upd f_state_3 x_2.toNatClampNeg x_5))), (a_readPage, .inl (cA 0, 193, .inl f_readPage)), (a_tape, .inl (cA 0, 160, .inl f_tape)), (a_cutRow, .inl (cA 0, 128, .inl f_cutRow)), (a_cutWeights, .inl (cA 0, 64, .inl f_cutWeights)), (a_isKept, .inl (cA 3, 2, .inl f_isKept)), (a_lanes, .inl (cA 0, 4, .inl f_lanes)), (a_lengths, .inl (cA 0, 4, .inl f_lengths)), (a_cells, .inl (cA 1, 160, .inr (.inl f_cells)))] := hD
        obtain ⟨x_6, ex_6⟩ : ∃ y : Int32, y = x_2 + (1) := ⟨_, rfl⟩
        have hw := hw x_6 ex_6
        refine lv_iinc (v := x_6) (lv' := [(2, .int x_6), (0, .ref a0)]) hx hb dX6_shutsPlace_25 hl (k := 1) rfl (by rw [ex_6]; rfl) (by decide) rfl (fun ls hl => ?_)
        refine lv_goto (tgt := 2) hx hb dX6_shutsPlace_28 (by decide) ?_
        exact ih_1 x_6 (upd f_state_3 x_2.toNatClampNeg x_5) _ _ ls (Nat.lt_of_lt_of_le hw.2 (Nat.le_of_lt_succ hmu_1)) hw.1 hP hD hS (lv_sub hl [1, 0] rfl)
  exact lp_1 (mu_1 p1 f_state + 1) p1 f_state _ _ ls (Nat.lt_succ_self _) hI_1 hP hD hS (lv_sub hl [1, 0] rfl)
def wX6_comesIn (f_state : Nat → Int32) (p1 : Int32) (p2 : Int32) (p3 : Int32) (post : (Nat → Int32) → Prop) : Prop := (wX6_opensAt f_state p1 (fun r_1 : Int32 => ((wX6_opensPlace f_state p2 (0 : Int32) (fun u_3 : (Nat → Int32) => ((wX6_opensPlace u_3 p1 (1 : Int32) (fun u_5 : (Nat → Int32) => ((∃ (I_6 : Int32 → (Nat → Int32) → Prop) (mu_6 : Int32 → (Nat → Int32) → Nat), I_6 (63 : Int32) u_5 ∧ ∀ (x_7 : Int32) (f_state_8 : Nat → Int32), I_6 x_7 f_state_8 → ((x_7 ≤ r_1 → (vp_in ((128 : Int32) + r_1) 579 ∧ (vp_in (192 : Int32) 579 ∧ (∀ x_10 : Int32, x_10 = (((upd f_state_8 ((128 : Int32) + r_1).toNatClampNeg p3) (192 : Int32).toNatClampNeg) + (1 : Int32)) → (vp_in (192 : Int32) 579 ∧ post (upd (upd f_state_8 ((128 : Int32) + r_1).toNatClampNeg p3) (192 : Int32).toNatClampNeg x_10)))))) ∧ (¬ x_7 ≤ r_1 → (vp_in (((128 : Int32) + x_7) - (1 : Int32)) 579 ∧ (∀ x_11 : Int32, x_11 = (f_state_8 (((128 : Int32) + x_7) - (1 : Int32)).toNatClampNeg) → (vp_in ((128 : Int32) + x_7) 579 ∧ (∀ x_12 : Int32, x_12 = x_7 + (-1) → (I_6 x_12 (upd f_state_8 ((128 : Int32) + x_7).toNatClampNeg x_11) ∧ mu_6 x_12 (upd f_state_8 ((128 : Int32) + x_7).toNatClampNeg x_11) < mu_6 x_7 f_state_8)))))))))))))))))
abbrev rX6_comesIn : Room := { frames := 2, cells := 0, slots := 0, locals := 44 }
theorem vX6_comesIn : yX6_comesIn.cls = RX6 ∧ yX6_comesIn.cls ≠ "java/lang/invoke/MethodHandle" ∧ yX6_comesIn.cls ≠ "java/lang/invoke/VarHandle" ∧ (parseMethodDescriptor yX6_comesIn.desc).map (fun d => d.parameters.length) = some 3 := by decide +kernel
set_option maxHeartbeats 4000000 in
set_option maxRecDepth 100000 in
theorem kX6_comesIn (l : Launch) (D : va_G) (cA : Nat → ClassId) (a0 a_state a_readPage a_tape a_cutRow a_cutWeights a_isKept a_lanes a_lengths a_cells : Nat) (f_taped : Int32) (f_fault : Int32) (f_broken : Int32) (f_brokenAt : Int32) (f_spot : Int32) (f_here : Int32) (f_token : Int32) (f_value : Int32) (f_torn : Int32) (f_state : Nat → Int32) (f_readPage : Nat → Int32) (f_tape : Nat → Int32) (f_cutRow : Nat → Int32) (f_cutWeights : Nat → Int32) (f_isKept : Nat → Int32) (f_lanes : Nat → Int32) (f_lengths : Nat → Int32) (f_cells : Nat → Int64) (sz : Nat) (p1 : Int32) (p2 : Int32) (p3 : Int32) (post : (Nat → Int32) → Prop) (h : wX6_comesIn f_state p1 p2 p3 post) : Met l yX6_comesIn wsX6_comesIn rX6_comesIn (zPw D cA [.ref a0, .int p1, .int p2, .int p3] [(a0, .inr (5, [.ref a_state, .ref a_readPage, .ref a_tape, .int f_taped, .int f_fault, .int f_broken, .int f_brokenAt, .int f_spot, .int f_here, .int f_token, .int f_value, .ref a_cutRow, .ref a_cutWeights, .ref a_isKept, .ref a_lanes, .ref a_lengths, .ref a_cells, .int f_torn])), (a_state, .inl (cA 0, 579, .inl f_state)), (a_readPage, .inl (cA 0, 193, .inl f_readPage)), (a_tape, .inl (cA 0, 160, .inl f_tape)), (a_cutRow, .inl (cA 0, 128, .inl f_cutRow)), (a_cutWeights, .inl (cA 0, 64, .inl f_cutWeights)), (a_isKept, .inl (cA 3, 2, .inl f_isKept)), (a_lanes, .inl (cA 0, 4, .inl f_lanes)), (a_lengths, .inl (cA 0, 4, .inl f_lengths)), (a_cells, .inl (cA 1, 160, .inr (.inl f_cells)))] sz) (va_Qv post (zB D (va_A [(a0, .inr (5, [.ref a_state, .ref a_readPage, .ref a_tape, .int f_taped, .int f_fault, .int f_broken, .int f_brokenAt, .int f_spot, .int f_here, .int f_token, .int f_value, .ref a_cutRow, .ref a_cutWeights, .ref a_isKept, .ref a_lanes, .ref a_lengths, .ref a_cells, .int f_torn])), (a_state, .inl (cA 0, 579, .inl f_state)), (a_readPage, .inl (cA 0, 193, .inl f_readPage)), (a_tape, .inl (cA 0, 160, .inl f_tape)), (a_cutRow, .inl (cA 0, 128, .inl f_cutRow)), (a_cutWeights, .inl (cA 0, 64, .inl f_cutWeights)), (a_isKept, .inl (cA 3, 2, .inl f_isKept)), (a_lanes, .inl (cA 0, 4, .inl f_lanes)), (a_lengths, .inl (cA 0, 4, .inl f_lengths)), (a_cells, .inl (cA 1, 160, .inr (.inl f_cells)))] sz) (fun u : (Nat → Int32) => [(a0, .inr (5, [.ref a_state, .ref a_readPage, .ref a_tape, .int f_taped, .int f_fault, .int f_broken, .int f_brokenAt, .int f_spot, .int f_here, .int f_token, .int f_value, .ref a_cutRow, .ref a_cutWeights, .ref a_isKept, .ref a_lanes, .ref a_lengths, .ref a_cells, .int f_torn])), (a_state, .inl (cA 0, 579, .inl u)), (a_readPage, .inl (cA 0, 193, .inl f_readPage)), (a_tape, .inl (cA 0, 160, .inl f_tape)), (a_cutRow, .inl (cA 0, 128, .inl f_cutRow)), (a_cutWeights, .inl (cA 0, 64, .inl f_cutWeights)), (a_isKept, .inl (cA 3, 2, .inl f_isKept)), (a_lanes, .inl (cA 0, 4, .inl f_lanes)), (a_lengths, .inl (cA 0, 4, .inl f_lengths)), (a_cells, .inl (cA 1, 160, .inr (.inl f_cells)))])) (va_A [(a0, .inr (5, [.ref a_state, .ref a_readPage, .ref a_tape, .int f_taped, .int f_fault, .int f_broken, .int f_brokenAt, .int f_spot, .int f_here, .int f_token, .int f_value, .ref a_cutRow, .ref a_cutWeights, .ref a_isKept, .ref a_lanes, .ref a_lengths, .ref a_cells, .int f_torn])), (a_state, .inl (cA 0, 579, .inl f_state)), (a_readPage, .inl (cA 0, 193, .inl f_readPage)), (a_tape, .inl (cA 0, 160, .inl f_tape)), (a_cutRow, .inl (cA 0, 128, .inl f_cutRow)), (a_cutWeights, .inl (cA 0, 64, .inl f_cutWeights)), (a_isKept, .inl (cA 3, 2, .inl f_isKept)), (a_lanes, .inl (cA 0, 4, .inl f_lanes)), (a_lengths, .inl (cA 0, 4, .inl f_lengths)), (a_cells, .inl (cA 1, 160, .inr (.inl f_cells)))] sz)) 0 0 (va_A [(a0, .inr (5, [.ref a_state, .ref a_readPage, .ref a_tape, .int f_taped, .int f_fault, .int f_broken, .int f_brokenAt, .int f_spot, .int f_here, .int f_token, .int f_value, .ref a_cutRow, .ref a_cutWeights, .ref a_isKept, .ref a_lanes, .ref a_lengths, .ref a_cells, .int f_torn])), (a_state, .inl (cA 0, 579, .inl f_state)), (a_readPage, .inl (cA 0, 193, .inl f_readPage)), (a_tape, .inl (cA 0, 160, .inl f_tape)), (a_cutRow, .inl (cA 0, 128, .inl f_cutRow)), (a_cutWeights, .inl (cA 0, 64, .inl f_cutWeights)), (a_isKept, .inl (cA 3, 2, .inl f_isKept)), (a_lanes, .inl (cA 0, 4, .inl f_lanes)), (a_lengths, .inl (cA 0, 4, .inl f_lengths)), (a_cells, .inl (cA 1, 160, .inr (.inl f_cells)))] sz) := by
  refine z_rw (Qc := fun A => va_Qv post (zB D A (fun u : (Nat → Int32) => [(a0, .inr (5, [.ref a_state, .ref a_readPage, .ref a_tape, .int f_taped, .int f_fault, .int f_broken, .int f_brokenAt, .int f_spot, .int f_here, .int f_token, .int f_value, .ref a_cutRow, .ref a_cutWeights, .ref a_isKept, .ref a_lanes, .ref a_lengths, .ref a_cells, .int f_torn])), (a_state, .inl (cA 0, 579, .inl u)), (a_readPage, .inl (cA 0, 193, .inl f_readPage)), (a_tape, .inl (cA 0, 160, .inl f_tape)), (a_cutRow, .inl (cA 0, 128, .inl f_cutRow)), (a_cutWeights, .inl (cA 0, 64, .inl f_cutWeights)), (a_isKept, .inl (cA 3, 2, .inl f_isKept)), (a_lanes, .inl (cA 0, 4, .inl f_lanes)), (a_lengths, .inl (cA 0, 4, .inl f_lengths)), (a_cells, .inl (cA 1, 160, .inr (.inl f_cells)))])) A) (cc := cX6_comesIn) (maxL := 6) (ret := none) (by decide) rfl (Nat.le_of_ble_eq_true rfl) ?_
  intro p e s m args below meth c ls A hx hb hr hlk hml hown hts hK hP hD hS hA hl
  have hown : s.vm.findClass RX6 = some m.cls := hown
  have hl : lv_has ls 6 [(0, .ref a0), (1, .int p1), (2, .int p2), (3, .int p3)] := hl
  have hw := h
  unfold wX6_comesIn at hw
  have iwX6 : ∀ w ∈ wsX60, w ∈ wsX6_comesIn := fun w h9 => List.mem_cons_of_mem _ (List.mem_append_right _ h9)
  have kf7 := hts (.fieldLink RX6 7 "ExcessTreeModel" "state" "[I") (by decide +kernel)
  refine lv_aload_n hx hb dX6_comesIn_0 rfl (lv_at hl 0 rfl) ?_
  refine lv_iload_n hx hb dX6_comesIn_1 rfl (lv_at hl 1 rfl) ?_
  refine z_ri [.int p1] [] ⟨hx, hb, hml, hown, hts⟩ (kX6_opensAt l D cA a0 a_state a_readPage a_tape a_cutRow a_cutWeights a_isKept a_lanes a_lengths a_cells f_taped f_fault f_broken f_brokenAt f_spot f_here f_token f_value f_torn f_state f_readPage f_tape f_cutRow f_cutWeights f_isKept f_lanes f_lengths f_cells p1 _ hw) (cwV 1 hts gX6_comesIn_X6_opensAt rfl rfl rfl vX6_opensAt ⟨Nat.le_of_ble_eq_true rfl, Nat.le_of_ble_eq_true rfl⟩) hK (hP.sub [0, 1, 2, 3, 4, 5, 6, 7, 8, 9] rfl) (va_recv hK.1 (hP.sub (ws' := [(a0, .inr (5, [.ref a_state, .ref a_readPage, .ref a_tape, .int f_taped, .int f_fault, .int f_broken, .int f_brokenAt, .int f_spot, .int f_here, .int f_token, .int f_value, .ref a_cutRow, .ref a_cutWeights, .ref a_isKept, .ref a_lanes, .ref a_lengths, .ref a_cells, .int f_torn]))]) [0] rfl) (ci := 5) (q0 := 0) rfl rfl) rfl hl.1 rfl (Nat.le_of_ble_eq_true rfl) dX6_comesIn_2 ⟨Nat.zero_le _, Nat.zero_le _⟩ (fun r_1 hw => ?_)
  refine lv_istore (lv' := [(4, .int r_1), (0, .ref a0), (1, .int p1), (2, .int p2), (3, .int p3)]) hx hb dX6_comesIn_5 hl (by decide) rfl (fun ls hl => ?_)
  refine lv_aload_n hx hb dX6_comesIn_7 rfl (lv_at hl 1 rfl) ?_
  refine lv_iload_n hx hb dX6_comesIn_8 rfl (lv_at hl 3 rfl) ?_
  refine lv_iconst (v := 0) hx hb dX6_comesIn_9 (by decide) ?_
  refine z_wv (wr := []) (wn := (fun u : (Nat → Int32) => [(a0, .inr (5, [.ref a_state, .ref a_readPage, .ref a_tape, .int f_taped, .int f_fault, .int f_broken, .int f_brokenAt, .int f_spot, .int f_here, .int f_token, .int f_value, .ref a_cutRow, .ref a_cutWeights, .ref a_isKept, .ref a_lanes, .ref a_lengths, .ref a_cells, .int f_torn])), (a_state, .inl (cA 0, 579, .inl u)), (a_readPage, .inl (cA 0, 193, .inl f_readPage)), (a_tape, .inl (cA 0, 160, .inl f_tape)), (a_cutRow, .inl (cA 0, 128, .inl f_cutRow)), (a_cutWeights, .inl (cA 0, 64, .inl f_cutWeights)), (a_isKept, .inl (cA 3, 2, .inl f_isKept)), (a_lanes, .inl (cA 0, 4, .inl f_lanes)), (a_lengths, .inl (cA 0, 4, .inl f_lengths)), (a_cells, .inl (cA 1, 160, .inr (.inl f_cells)))])) [.int p2, .int (0 : Int32)] [] ⟨hx, hb, hml, hown, hts⟩ (kX6_opensPlace l D cA a0 a_state a_readPage a_tape a_cutRow a_cutWeights a_isKept a_lanes a_lengths a_cells f_taped f_fault f_broken f_brokenAt f_spot f_here f_token f_value f_torn f_state f_readPage f_tape f_cutRow f_cutWeights f_isKept f_lanes f_lengths f_cells _ p2 (0 : Int32) _ hw) (cwV 2 hts gX6_comesIn_X6_opensPlace rfl rfl rfl vX6_opensPlace ⟨Nat.le_of_ble_eq_true rfl, Nat.le_of_ble_eq_true rfl⟩) hK hP hD hS hA [0, 1, 2, 3, 4, 5, 6, 7, 8, 9] [] [0, 1, 2, 3, 4, 5, 6, 7, 8, 9] rfl (by decide) rfl (by decide) (by decide) (fun u => rfl) (by decide) (va_recv hK.1 (hP.sub (ws' := [(a0, .inr (5, [.ref a_state, .ref a_readPage, .ref a_tape, .int f_taped, .int f_fault, .int f_broken, .int f_brokenAt, .int f_spot, .int f_here, .int f_token, .int f_value, .ref a_cutRow, .ref a_cutWeights, .ref a_isKept, .ref a_lanes, .ref a_lengths, .ref a_cells, .int f_torn]))]) [0] rfl) (ci := 5) (q0 := 0) rfl rfl) rfl hl.1 rfl (Nat.le_of_ble_eq_true rfl) dX6_comesIn_10 ⟨Nat.zero_le _, Nat.zero_le _⟩ (fun u_3 H locs hw hP hD hS => ?_)
  have hP : va_P D vwCl [(a0, .inr (5, [.ref a_state, .ref a_readPage, .ref a_tape, .int f_taped, .int f_fault, .int f_broken, .int f_brokenAt, .int f_spot, .int f_here, .int f_token, .int f_value, .ref a_cutRow, .ref a_cutWeights, .ref a_isKept, .ref a_lanes, .ref a_lengths, .ref a_cells, .int f_torn])), (a_state, .inl (cA 0, 579, .inl u_3)), (a_readPage, .inl (cA 0, 193, .inl f_readPage)), (a_tape, .inl (cA 0, 160, .inl f_tape)), (a_cutRow, .inl (cA 0, 128, .inl f_cutRow)), (a_cutWeights, .inl (cA 0, 64, .inl f_cutWeights)), (a_isKept, .inl (cA 3, 2, .inl f_isKept)), (a_lanes, .inl (cA 0, 4, .inl f_lanes)), (a_lengths, .inl (cA 0, 4, .inl f_lengths)), (a_cells, .inl (cA 1, 160, .inr (.inl f_cells)))] H := hP
  have hD : va_D A [(a0, .inr (5, [.ref a_state, .ref a_readPage, .ref a_tape, .int f_taped, .int f_fault, .int f_broken, .int f_brokenAt, .int f_spot, .int f_here, .int f_token, .int f_value, .ref a_cutRow, .ref a_cutWeights, .ref a_isKept, .ref a_lanes, .ref a_lengths, .ref a_cells, .int f_torn])), (a_state, .inl (cA 0, 579, .inl u_3)), (a_readPage, .inl (cA 0, 193, .inl f_readPage)), (a_tape, .inl (cA 0, 160, .inl f_tape)), (a_cutRow, .inl (cA 0, 128, .inl f_cutRow)), (a_cutWeights, .inl (cA 0, 64, .inl f_cutWeights)), (a_isKept, .inl (cA 3, 2, .inl f_isKept)), (a_lanes, .inl (cA 0, 4, .inl f_lanes)), (a_lengths, .inl (cA 0, 4, .inl f_lengths)), (a_cells, .inl (cA 1, 160, .inr (.inl f_cells)))] := hD
  refine lv_aload_n hx hb dX6_comesIn_13 rfl (lv_at hl 1 rfl) ?_
  refine lv_iload_n hx hb dX6_comesIn_14 rfl (lv_at hl 2 rfl) ?_
  refine lv_iconst (v := 1) hx hb dX6_comesIn_15 (by decide) ?_
  refine z_wv (wr := []) (wn := (fun u : (Nat → Int32) => [(a0, .inr (5, [.ref a_state, .ref a_readPage, .ref a_tape, .int f_taped, .int f_fault, .int f_broken, .int f_brokenAt, .int f_spot, .int f_here, .int f_token, .int f_value, .ref a_cutRow, .ref a_cutWeights, .ref a_isKept, .ref a_lanes, .ref a_lengths, .ref a_cells, .int f_torn])), (a_state, .inl (cA 0, 579, .inl u)), (a_readPage, .inl (cA 0, 193, .inl f_readPage)), (a_tape, .inl (cA 0, 160, .inl f_tape)), (a_cutRow, .inl (cA 0, 128, .inl f_cutRow)), (a_cutWeights, .inl (cA 0, 64, .inl f_cutWeights)), (a_isKept, .inl (cA 3, 2, .inl f_isKept)), (a_lanes, .inl (cA 0, 4, .inl f_lanes)), (a_lengths, .inl (cA 0, 4, .inl f_lengths)), (a_cells, .inl (cA 1, 160, .inr (.inl f_cells)))])) [.int p1, .int (1 : Int32)] [] ⟨hx, hb, hml, hown, hts⟩ (kX6_opensPlace l D cA a0 a_state a_readPage a_tape a_cutRow a_cutWeights a_isKept a_lanes a_lengths a_cells f_taped f_fault f_broken f_brokenAt f_spot f_here f_token f_value f_torn u_3 f_readPage f_tape f_cutRow f_cutWeights f_isKept f_lanes f_lengths f_cells _ p1 (1 : Int32) _ hw) (cwV 2 hts gX6_comesIn_X6_opensPlace rfl rfl rfl vX6_opensPlace ⟨Nat.le_of_ble_eq_true rfl, Nat.le_of_ble_eq_true rfl⟩) hK hP hD hS hA [0, 1, 2, 3, 4, 5, 6, 7, 8, 9] [] [0, 1, 2, 3, 4, 5, 6, 7, 8, 9] rfl (by decide) rfl (by decide) (by decide) (fun u => rfl) (by decide) (va_recv hK.1 (hP.sub (ws' := [(a0, .inr (5, [.ref a_state, .ref a_readPage, .ref a_tape, .int f_taped, .int f_fault, .int f_broken, .int f_brokenAt, .int f_spot, .int f_here, .int f_token, .int f_value, .ref a_cutRow, .ref a_cutWeights, .ref a_isKept, .ref a_lanes, .ref a_lengths, .ref a_cells, .int f_torn]))]) [0] rfl) (ci := 5) (q0 := 0) rfl rfl) rfl hl.1 rfl (Nat.le_of_ble_eq_true rfl) dX6_comesIn_16 ⟨Nat.zero_le _, Nat.zero_le _⟩ (fun u_5 H locs hw hP hD hS => ?_)
  have hP : va_P D vwCl [(a0, .inr (5, [.ref a_state, .ref a_readPage, .ref a_tape, .int f_taped, .int f_fault, .int f_broken, .int f_brokenAt, .int f_spot, .int f_here, .int f_token, .int f_value, .ref a_cutRow, .ref a_cutWeights, .ref a_isKept, .ref a_lanes, .ref a_lengths, .ref a_cells, .int f_torn])), (a_state, .inl (cA 0, 579, .inl u_5)), (a_readPage, .inl (cA 0, 193, .inl f_readPage)), (a_tape, .inl (cA 0, 160, .inl f_tape)), (a_cutRow, .inl (cA 0, 128, .inl f_cutRow)), (a_cutWeights, .inl (cA 0, 64, .inl f_cutWeights)), (a_isKept, .inl (cA 3, 2, .inl f_isKept)), (a_lanes, .inl (cA 0, 4, .inl f_lanes)), (a_lengths, .inl (cA 0, 4, .inl f_lengths)), (a_cells, .inl (cA 1, 160, .inr (.inl f_cells)))] H := hP
  have hD : va_D A [(a0, .inr (5, [.ref a_state, .ref a_readPage, .ref a_tape, .int f_taped, .int f_fault, .int f_broken, .int f_brokenAt, .int f_spot, .int f_here, .int f_token, .int f_value, .ref a_cutRow, .ref a_cutWeights, .ref a_isKept, .ref a_lanes, .ref a_lengths, .ref a_cells, .int f_torn])), (a_state, .inl (cA 0, 579, .inl u_5)), (a_readPage, .inl (cA 0, 193, .inl f_readPage)), (a_tape, .inl (cA 0, 160, .inl f_tape)), (a_cutRow, .inl (cA 0, 128, .inl f_cutRow)), (a_cutWeights, .inl (cA 0, 64, .inl f_cutWeights)), (a_isKept, .inl (cA 3, 2, .inl f_isKept)), (a_lanes, .inl (cA 0, 4, .inl f_lanes)), (a_lengths, .inl (cA 0, 4, .inl f_lengths)), (a_cells, .inl (cA 1, 160, .inr (.inl f_cells)))] := hD
  refine lv_bipush (v := 63) hx hb dX6_comesIn_19 (by decide) ?_
  refine lv_istore (lv' := [(5, .int (63 : Int32)), (4, .int r_1), (0, .ref a0), (1, .int p1), (2, .int p2), (3, .int p3)]) hx hb dX6_comesIn_21 hl (by decide) rfl (fun ls hl => ?_)
  obtain ⟨I_6, mu_6, hI_6, hw⟩ := hw
  have lp_6 : ∀ (nn : Nat) (x_7 : Int32) (f_state_8 : Nat → Int32) (H : Heap) (locs : List Loc) (ls : Array Slot), mu_6 x_7 f_state_8 < nn → I_6 x_7 f_state_8 → va_P D vwCl [(a0, .inr (5, [.ref a_state, .ref a_readPage, .ref a_tape, .int f_taped, .int f_fault, .int f_broken, .int f_brokenAt, .int f_spot, .int f_here, .int f_token, .int f_value, .ref a_cutRow, .ref a_cutWeights, .ref a_isKept, .ref a_lanes, .ref a_lengths, .ref a_cells, .int f_torn])), (a_state, .inl (cA 0, 579, .inl f_state_8)), (a_readPage, .inl (cA 0, 193, .inl f_readPage)), (a_tape, .inl (cA 0, 160, .inl f_tape)), (a_cutRow, .inl (cA 0, 128, .inl f_cutRow)), (a_cutWeights, .inl (cA 0, 64, .inl f_cutWeights)), (a_isKept, .inl (cA 3, 2, .inl f_isKept)), (a_lanes, .inl (cA 0, 4, .inl f_lanes)), (a_lengths, .inl (cA 0, 4, .inl f_lengths)), (a_cells, .inl (cA 1, 160, .inr (.inl f_cells)))] H → va_D A [(a0, .inr (5, [.ref a_state, .ref a_readPage, .ref a_tape, .int f_taped, .int f_fault, .int f_broken, .int f_brokenAt, .int f_spot, .int f_here, .int f_token, .int f_value, .ref a_cutRow, .ref a_cutWeights, .ref a_isKept, .ref a_lanes, .ref a_lengths, .ref a_cells, .int f_torn])), (a_state, .inl (cA 0, 579, .inl f_state_8)), (a_readPage, .inl (cA 0, 193, .inl f_readPage)), (a_tape, .inl (cA 0, 160, .inl f_tape)), (a_cutRow, .inl (cA 0, 128, .inl f_cutRow)), (a_cutWeights, .inl (cA 0, 64, .inl f_cutWeights)), (a_isKept, .inl (cA 3, 2, .inl f_isKept)), (a_lanes, .inl (cA 0, 4, .inl f_lanes)), (a_lengths, .inl (cA 0, 4, .inl f_lengths)), (a_cells, .inl (cA 1, 160, .inr (.inl f_cells)))] → va_S A s.heap H locs → lv_has ls 6 [(0, .ref a0), (3, .int p3), (4, .int r_1), (5, .int x_7)] → W p l e rX6_comesIn s m args below meth c H locs 0 0 (MQ below (va_Qv post (zB D A (fun u : (Nat → Int32) => [(a0, .inr (5, [.ref a_state, .ref a_readPage, .ref a_tape, .int f_taped, .int f_fault, .int f_broken, .int f_brokenAt, .int f_spot, .int f_here, .int f_token, .int f_value, .ref a_cutRow, .ref a_cutWeights, .ref a_isKept, .ref a_lanes, .ref a_lengths, .ref a_cells, .int f_torn])), (a_state, .inl (cA 0, 579, .inl u)), (a_readPage, .inl (cA 0, 193, .inl f_readPage)), (a_tape, .inl (cA 0, 160, .inl f_tape)), (a_cutRow, .inl (cA 0, 128, .inl f_cutRow)), (a_cutWeights, .inl (cA 0, 64, .inl f_cutWeights)), (a_isKept, .inl (cA 3, 2, .inl f_isKept)), (a_lanes, .inl (cA 0, 4, .inl f_lanes)), (a_lengths, .inl (cA 0, 4, .inl f_lengths)), (a_cells, .inl (cA 1, 160, .inr (.inl f_cells)))])) A) args s 0 0 A) (F0 m 23 ls []) := by
    intro nn
    induction nn with
    | zero => exact fun _ _ _ _ _ h0 => absurd h0 (Nat.not_lt_zero _)
    | succ nn ih_6 =>
      intro x_7 f_state_8 H locs ls hmu_6 hI_6 hP hD hS hl
      have hw := hw x_7 f_state_8 hI_6
      refine lv_iload hx hb dX6_comesIn_23 (lv_at hl 3 rfl) ?_
      refine lv_iload hx hb dX6_comesIn_25 (lv_at hl 2 rfl) ?_
      refine lv_icmp_le (tgt := 60) hx hb dX6_comesIn_27 (by decide) (fun c_9 => ?_) (fun c_9 => ?_)
      · have hw := hw.1 c_9
        refine lv_aload_n hx hb dX6_comesIn_60 rfl (lv_at hl 0 rfl) ?_
        refine va_get (D := D) (ci := 5) (v := .ref a_state) (C := RX6) (T := TX6) (N := 18) hx hb hts iwX6 hown hK.1 hP 0 rfl rfl 0 (by decide) kf7 (fun _ h9 => h9) rfl dX6_comesIn_61 ?_
        refine lv_sipush (v := 128) hx hb dX6_comesIn_64 (by decide) ?_
        refine lv_iload hx hb dX6_comesIn_67 (lv_at hl 2 rfl) ?_
        refine lv_iadd hx hb dX6_comesIn_69 ?_
        refine lv_iload_n hx hb dX6_comesIn_70 rfl (lv_at hl 1 rfl) ?_
        have hq := hw.1
        have hw := hw.2
        refine va_iast hx hb hK.1 hP hD hS 1 0 rfl rfl hq dX6_comesIn_71 (fun H locs hP hD hS => ?_)
        have hP : va_P D vwCl [(a0, .inr (5, [.ref a_state, .ref a_readPage, .ref a_tape, .int f_taped, .int f_fault, .int f_broken, .int f_brokenAt, .int f_spot, .int f_here, .int f_token, .int f_value, .ref a_cutRow, .ref a_cutWeights, .ref a_isKept, .ref a_lanes, .ref a_lengths, .ref a_cells, .int f_torn])), (a_state, .inl (cA 0, 579, .inl (upd f_state_8 ((128 : Int32) + r_1).toNatClampNeg p3))), (a_readPage, .inl (cA 0, 193, .inl f_readPage)), (a_tape, .inl (cA 0, 160, .inl f_tape)), (a_cutRow, .inl (cA 0, 128, .inl f_cutRow)), (a_cutWeights, .inl (cA 0, 64, .inl f_cutWeights)), (a_isKept, .inl (cA 3, 2, .inl f_isKept)), (a_lanes, .inl (cA 0, 4, .inl f_lanes)), (a_lengths, .inl (cA 0, 4, .inl f_lengths)), (a_cells, .inl (cA 1, 160, .inr (.inl f_cells)))] H := hP
        have hD : va_D A [(a0, .inr (5, [.ref a_state, .ref a_readPage, .ref a_tape, .int f_taped, .int f_fault, .int f_broken, .int f_brokenAt, .int f_spot, .int f_here, .int f_token, .int f_value, .ref a_cutRow, .ref a_cutWeights, .ref a_isKept, .ref a_lanes, .ref a_lengths, .ref a_cells, .int f_torn])), (a_state, .inl (cA 0, 579, .inl (upd f_state_8 ((128 : Int32) + r_1).toNatClampNeg p3))), (a_readPage, .inl (cA 0, 193, .inl f_readPage)), (a_tape, .inl (cA 0, 160, .inl f_tape)), (a_cutRow, .inl (cA 0, 128, .inl f_cutRow)), (a_cutWeights, .inl (cA 0, 64, .inl f_cutWeights)), (a_isKept, .inl (cA 3, 2, .inl f_isKept)), (a_lanes, .inl (cA 0, 4, .inl f_lanes)), (a_lengths, .inl (cA 0, 4, .inl f_lengths)), (a_cells, .inl (cA 1, 160, .inr (.inl f_cells)))] := hD
        refine lv_aload_n hx hb dX6_comesIn_72 rfl (lv_at hl 0 rfl) ?_
        refine va_get (D := D) (ci := 5) (v := .ref a_state) (C := RX6) (T := TX6) (N := 18) hx hb hts iwX6 hown hK.1 hP 0 rfl rfl 0 (by decide) kf7 (fun _ h9 => h9) rfl dX6_comesIn_73 ?_
        refine lv_sipush (v := 192) hx hb dX6_comesIn_76 (by decide) ?_
        refine lv_dup2_11 hx hb dX6_comesIn_79 rfl rfl ?_
        have hq := hw.1
        have hw := hw.2
        refine va_iald hx hb hK.1 hP 1 0 rfl rfl hq dX6_comesIn_80 ?_
        refine lv_iconst (v := 1) hx hb dX6_comesIn_81 (by decide) ?_
        refine lv_iadd hx hb dX6_comesIn_82 ?_
        refine lv_topi (fun x_10 ex_10 => ?_)
        have hw := hw x_10 ex_10
        have hq := hw.1
        have hw := hw.2
        refine va_iast hx hb hK.1 hP hD hS 1 0 rfl rfl hq dX6_comesIn_83 (fun H locs hP hD hS => ?_)
        have hP : va_P D vwCl [(a0, .inr (5, [.ref a_state, .ref a_readPage, .ref a_tape, .int f_taped, .int f_fault, .int f_broken, .int f_brokenAt, .int f_spot, .int f_here, .int f_token, .int f_value, .ref a_cutRow, .ref a_cutWeights, .ref a_isKept, .ref a_lanes, .ref a_lengths, .ref a_cells, .int f_torn])), (a_state, .inl (cA 0, 579, .inl (upd (upd f_state_8 ((128 : Int32) + r_1).toNatClampNeg p3) (192 : Int32).toNatClampNeg x_10))), (a_readPage, .inl (cA 0, 193, .inl f_readPage)), (a_tape, .inl (cA 0, 160, .inl f_tape)), (a_cutRow, .inl (cA 0, 128, .inl f_cutRow)), (a_cutWeights, .inl (cA 0, 64, .inl f_cutWeights)), (a_isKept, .inl (cA 3, 2, .inl f_isKept)), (a_lanes, .inl (cA 0, 4, .inl f_lanes)), (a_lengths, .inl (cA 0, 4, .inl f_lengths)), (a_cells, .inl (cA 1, 160, .inr (.inl f_cells)))] H := hP
        have hD : va_D A [(a0, .inr (5, [.ref a_state, .ref a_readPage, .ref a_tape, .int f_taped, .int f_fault, .int f_broken, .int f_brokenAt, .int f_spot, .int f_here, .int f_token, .int f_value, .ref a_cutRow, .ref a_cutWeights, .ref a_isKept, .ref a_lanes, .ref a_lengths, .ref a_cells, .int f_torn])), (a_state, .inl (cA 0, 579, .inl (upd (upd f_state_8 ((128 : Int32) + r_1).toNatClampNeg p3) (192 : Int32).toNatClampNeg x_10))), (a_readPage, .inl (cA 0, 193, .inl f_readPage)), (a_tape, .inl (cA 0, 160, .inl f_tape)), (a_cutRow, .inl (cA 0, 128, .inl f_cutRow)), (a_cutWeights, .inl (cA 0, 64, .inl f_cutWeights)), (a_isKept, .inl (cA 3, 2, .inl f_isKept)), (a_lanes, .inl (cA 0, 4, .inl f_lanes)), (a_lengths, .inl (cA 0, 4, .inl f_lengths)), (a_cells, .inl (cA 1, 160, .inr (.inl f_cells)))] := hD
        exact z_vretw (upd (upd f_state_8 ((128 : Int32) + r_1).toNatClampNeg p3) (192 : Int32).toNatClampNeg x_10) hx hb hr hlk hw hP hD hS dX6_comesIn_84
      · have hw := hw.2 c_9
        refine lv_aload_n hx hb dX6_comesIn_30 rfl (lv_at hl 0 rfl) ?_
        refine va_get (D := D) (ci := 5) (v := .ref a_state) (C := RX6) (T := TX6) (N := 18) hx hb hts iwX6 hown hK.1 hP 0 rfl rfl 0 (by decide) kf7 (fun _ h9 => h9) rfl dX6_comesIn_31 ?_
        refine lv_sipush (v := 128) hx hb dX6_comesIn_34 (by decide) ?_
        refine lv_iload hx hb dX6_comesIn_37 (lv_at hl 3 rfl) ?_
        refine lv_iadd hx hb dX6_comesIn_39 ?_
        refine lv_aload_n hx hb dX6_comesIn_40 rfl (lv_at hl 0 rfl) ?_
        refine va_get (D := D) (ci := 5) (v := .ref a_state) (C := RX6) (T := TX6) (N := 18) hx hb hts iwX6 hown hK.1 hP 0 rfl rfl 0 (by decide) kf7 (fun _ h9 => h9) rfl dX6_comesIn_41 ?_
        refine lv_sipush (v := 128) hx hb dX6_comesIn_44 (by decide) ?_
        refine lv_iload hx hb dX6_comesIn_47 (lv_at hl 3 rfl) ?_
        refine lv_iadd hx hb dX6_comesIn_49 ?_
        refine lv_iconst (v := 1) hx hb dX6_comesIn_50 (by decide) ?_
        refine lv_isub hx hb dX6_comesIn_51 ?_
        have hq := hw.1
        have hw := hw.2
        refine va_iald hx hb hK.1 hP 1 0 rfl rfl hq dX6_comesIn_52 ?_
        refine lv_topi (fun x_11 ex_11 => ?_)
        have hw := hw x_11 ex_11
        have hq := hw.1
        have hw := hw.2
        refine va_iast hx hb hK.1 hP hD hS 1 0 rfl rfl hq dX6_comesIn_53 (fun H locs hP hD hS => ?_)
        have hP : va_P D vwCl [(a0, .inr (5, [.ref a_state, .ref a_readPage, .ref a_tape, .int f_taped, .int f_fault, .int f_broken, .int f_brokenAt, .int f_spot, .int f_here, .int f_token, .int f_value, .ref a_cutRow, .ref a_cutWeights, .ref a_isKept, .ref a_lanes, .ref a_lengths, .ref a_cells, .int f_torn])), (a_state, .inl (cA 0, 579, .inl (upd f_state_8 ((128 : Int32) + x_7).toNatClampNeg x_11))), (a_readPage, .inl (cA 0, 193, .inl f_readPage)), (a_tape, .inl (cA 0, 160, .inl f_tape)), (a_cutRow, .inl (cA 0, 128, .inl f_cutRow)), (a_cutWeights, .inl (cA 0, 64, .inl f_cutWeights)), (a_isKept, .inl (cA 3, 2, .inl f_isKept)), (a_lanes, .inl (cA 0, 4, .inl f_lanes)), (a_lengths, .inl (cA 0, 4, .inl f_lengths)), (a_cells, .inl (cA 1, 160, .inr (.inl f_cells)))] H := hP
        have hD : va_D A [(a0, .inr (5, [.ref a_state, .ref a_readPage, .ref a_tape, .int f_taped, .int f_fault, .int f_broken, .int f_brokenAt, .int f_spot, .int f_here, .int f_token, .int f_value, .ref a_cutRow, .ref a_cutWeights, .ref a_isKept, .ref a_lanes, .ref a_lengths, .ref a_cells, .int f_torn])), (a_state, .inl (cA 0, 579, .inl (upd f_state_8 ((128 : Int32) + x_7).toNatClampNeg x_11))), (a_readPage, .inl (cA 0, 193, .inl f_readPage)), (a_tape, .inl (cA 0, 160, .inl f_tape)), (a_cutRow, .inl (cA 0, 128, .inl f_cutRow)), (a_cutWeights, .inl (cA 0, 64, .inl f_cutWeights)), (a_isKept, .inl (cA 3, 2, .inl f_isKept)), (a_lanes, .inl (cA 0, 4, .inl f_lanes)), (a_lengths, .inl (cA 0, 4, .inl f_lengths)), (a_cells, .inl (cA 1, 160, .inr (.inl f_cells)))] := hD
        obtain ⟨x_12, ex_12⟩ : ∃ y : Int32, y = x_7 + (-1) := ⟨_, rfl⟩
        have hw := hw x_12 ex_12
        refine lv_iinc (v := x_12) (lv' := [(5, .int x_12), (0, .ref a0), (3, .int p3), (4, .int r_1)]) hx hb dX6_comesIn_54 hl (k := 3) rfl (by rw [ex_12]; rfl) (by decide) rfl (fun ls hl => ?_)
        refine lv_goto (tgt := 23) hx hb dX6_comesIn_57 (by decide) ?_
        exact ih_6 x_12 (upd f_state_8 ((128 : Int32) + x_7).toNatClampNeg x_11) _ _ ls (Nat.lt_of_lt_of_le hw.2 (Nat.le_of_lt_succ hmu_6)) hw.1 hP hD hS (lv_sub hl [1, 2, 3, 0] rfl)
  exact lp_6 (mu_6 (63 : Int32) u_5 + 1) (63 : Int32) u_5 _ _ ls (Nat.lt_succ_self _) hI_6 hP hD hS (lv_sub hl [2, 5, 1, 0] rfl)
