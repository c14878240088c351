/-! written by wip/whole/gen.py -/
def wX6_sheet (f_lanes : Nat → Int32) (f_lengths : Nat → Int32) (f_cells : Nat → Int64) (p1 : Int32) (p2 : Int32) (p3 : Int32) (post : Int32 → ((Nat → Int32) × (Nat → Int32) × (Nat → Int64)) → Prop) : Prop := (wX6_in ((p1).toInt64) (0 : Int64) (3 : Int64) (fun r_1 : Int32 => (((r_1 = 0 → post (-1 : Int32) (f_lanes, f_lengths, f_cells)) ∧ (¬ r_1 = 0 → (wX6_in ((p2).toInt64) (0 : Int64) (2 : Int64) (fun r_3 : Int32 => (((r_3 = 0 → post (-1 : Int32) (f_lanes, f_lengths, f_cells)) ∧ (¬ r_3 = 0 → ((p3 ≤ (40 : Int32) → ((0 ≤ p3 → (vp_in p1 4 ∧ (vp_in p1 4 ∧ (∃ (I_7 : Int32 → (Nat → Int64) → Prop) (mu_7 : Int32 → (Nat → Int64) → Nat), I_7 (0 : Int32) f_cells ∧ ∀ (x_8 : Int32) (f_cells_9 : Nat → Int64), I_7 x_8 f_cells_9 → (((40 : Int32) ≤ x_8 → post (1 : Int32) ((upd f_lanes p1.toNatClampNeg p2), (upd f_lengths p1.toNatClampNeg p3), f_cells_9)) ∧ (¬ (40 : Int32) ≤ x_8 → (vp_in (((40 : Int32) * p1) + x_8) 160 ∧ (∀ x_11 : Int32, x_11 = x_8 + (1) → (I_7 x_11 (vp_updL f_cells_9 (((40 : Int32) * p1) + x_8).toNatClampNeg (0 : Int64)) ∧ mu_7 x_11 (vp_updL f_cells_9 (((40 : Int32) * p1) + x_8).toNatClampNeg (0 : Int64)) < mu_7 x_8 f_cells_9))))))))) ∧ (¬ 0 ≤ p3 → post (-14 : Int32) (f_lanes, f_lengths, f_cells)))) ∧ (¬ p3 ≤ (40 : Int32) → post (-1 : Int32) (f_lanes, f_lengths, f_cells)))))))))))))
abbrev rX6_sheet : Room := { frames := 1, cells := 0, slots := 0, locals := 25 }
theorem vX6_sheet : yX6_sheet.cls = RX6 ∧ yX6_sheet.cls ≠ "java/lang/invoke/MethodHandle" ∧ yX6_sheet.cls ≠ "java/lang/invoke/VarHandle" ∧ (parseMethodDescriptor yX6_sheet.desc).map (fun d => d.parameters.length) = some 3 := by decide +kernel
set_option maxHeartbeats 4000000 in
set_option maxRecDepth 100000 in
theorem kX6_sheet (l : Launch) (D : va_G) (cA : Nat → ClassId) (a0 a_state a_readPage a_tape a_cutRow a_cutWeights a_isKept a_lanes a_lengths a_cells : Nat) (f_taped : Int32) (f_fault : Int32) (f_broken : Int32) (f_brokenAt : Int32) (f_spot : Int32) (f_here : Int32) (f_token : Int32) (f_value : Int32) (f_torn : Int32) (f_state : Nat → Int32) (f_readPage : Nat → Int32) (f_tape : Nat → Int32) (f_cutRow : Nat → Int32) (f_cutWeights : Nat → Int32) (f_isKept : Nat → Int32) (f_lanes : Nat → Int32) (f_lengths : Nat → Int32) (f_cells : Nat → Int64) (sz : Nat) (p1 : Int32) (p2 : Int32) (p3 : Int32) (post : Int32 → ((Nat → Int32) × (Nat → Int32) × (Nat → Int64)) → Prop) (h : wX6_sheet f_lanes f_lengths f_cells p1 p2 p3 post) : Met l yX6_sheet wsX6_sheet rX6_sheet (zPw D cA [.ref a0, .int p1, .int p2, .int p3] [(a0, .inr (5, [.ref a_state, .ref a_readPage, .ref a_tape, .int f_taped, .int f_fault, .int f_broken, .int f_brokenAt, .int f_spot, .int f_here, .int f_token, .int f_value, .ref a_cutRow, .ref a_cutWeights, .ref a_isKept, .ref a_lanes, .ref a_lengths, .ref a_cells, .int f_torn])), (a_state, .inl (cA 0, 579, .inl f_state)), (a_readPage, .inl (cA 0, 193, .inl f_readPage)), (a_tape, .inl (cA 0, 160, .inl f_tape)), (a_cutRow, .inl (cA 0, 128, .inl f_cutRow)), (a_cutWeights, .inl (cA 0, 64, .inl f_cutWeights)), (a_isKept, .inl (cA 3, 2, .inl f_isKept)), (a_lanes, .inl (cA 0, 4, .inl f_lanes)), (a_lengths, .inl (cA 0, 4, .inl f_lengths)), (a_cells, .inl (cA 1, 160, .inr (.inl f_cells)))] sz) (va_Qi post (zB D (va_A [(a0, .inr (5, [.ref a_state, .ref a_readPage, .ref a_tape, .int f_taped, .int f_fault, .int f_broken, .int f_brokenAt, .int f_spot, .int f_here, .int f_token, .int f_value, .ref a_cutRow, .ref a_cutWeights, .ref a_isKept, .ref a_lanes, .ref a_lengths, .ref a_cells, .int f_torn])), (a_state, .inl (cA 0, 579, .inl f_state)), (a_readPage, .inl (cA 0, 193, .inl f_readPage)), (a_tape, .inl (cA 0, 160, .inl f_tape)), (a_cutRow, .inl (cA 0, 128, .inl f_cutRow)), (a_cutWeights, .inl (cA 0, 64, .inl f_cutWeights)), (a_isKept, .inl (cA 3, 2, .inl f_isKept)), (a_lanes, .inl (cA 0, 4, .inl f_lanes)), (a_lengths, .inl (cA 0, 4, .inl f_lengths)), (a_cells, .inl (cA 1, 160, .inr (.inl f_cells)))] sz) (fun u : (Nat → Int32) × (Nat → Int32) × (Nat → Int64) => [(a0, .inr (5, [.ref a_state, .ref a_readPage, .ref a_tape, .int f_taped, .int f_fault, .int f_broken, .int f_brokenAt, .int f_spot, .int f_here, .int f_token, .int f_value, .ref a_cutRow, .ref a_cutWeights, .ref a_isKept, .ref a_lanes, .ref a_lengths, .ref a_cells, .int f_torn])), (a_state, .inl (cA 0, 579, .inl f_state)), (a_readPage, .inl (cA 0, 193, .inl f_readPage)), (a_tape, .inl (cA 0, 160, .inl f_tape)), (a_cutRow, .inl (cA 0, 128, .inl f_cutRow)), (a_cutWeights, .inl (cA 0, 64, .inl f_cutWeights)), (a_isKept, .inl (cA 3, 2, .inl f_isKept)), (a_lanes, .inl (cA 0, 4, .inl u.1)), (a_lengths, .inl (cA 0, 4, .inl u.2.1)), (a_cells, .inl (cA 1, 160, .inr (.inl u.2.2)))])) (va_A [(a0, .inr (5, [.ref a_state, .ref a_readPage, .ref a_tape, .int f_taped, .int f_fault, .int f_broken, .int f_brokenAt, .int f_spot, .int f_here, .int f_token, .int f_value, .ref a_cutRow, .ref a_cutWeights, .ref a_isKept, .ref a_lanes, .ref a_lengths, .ref a_cells, .int f_torn])), (a_state, .inl (cA 0, 579, .inl f_state)), (a_readPage, .inl (cA 0, 193, .inl f_readPage)), (a_tape, .inl (cA 0, 160, .inl f_tape)), (a_cutRow, .inl (cA 0, 128, .inl f_cutRow)), (a_cutWeights, .inl (cA 0, 64, .inl f_cutWeights)), (a_isKept, .inl (cA 3, 2, .inl f_isKept)), (a_lanes, .inl (cA 0, 4, .inl f_lanes)), (a_lengths, .inl (cA 0, 4, .inl f_lengths)), (a_cells, .inl (cA 1, 160, .inr (.inl f_cells)))] sz)) 0 0 (va_A [(a0, .inr (5, [.ref a_state, .ref a_readPage, .ref a_tape, .int f_taped, .int f_fault, .int f_broken, .int f_brokenAt, .int f_spot, .int f_here, .int f_token, .int f_value, .ref a_cutRow, .ref a_cutWeights, .ref a_isKept, .ref a_lanes, .ref a_lengths, .ref a_cells, .int f_torn])), (a_state, .inl (cA 0, 579, .inl f_state)), (a_readPage, .inl (cA 0, 193, .inl f_readPage)), (a_tape, .inl (cA 0, 160, .inl f_tape)), (a_cutRow, .inl (cA 0, 128, .inl f_cutRow)), (a_cutWeights, .inl (cA 0, 64, .inl f_cutWeights)), (a_isKept, .inl (cA 3, 2, .inl f_isKept)), (a_lanes, .inl (cA 0, 4, .inl f_lanes)), (a_lengths, .inl (cA 0, 4, .inl f_lengths)), (a_cells, .inl (cA 1, 160, .inr (.inl f_cells)))] sz) := by
  refine z_rw (Qc := fun A => va_Qi post (zB D A (fun u : (Nat → Int32) × (Nat → Int32) × (Nat → Int64) => [(a0, .inr (5, [.ref a_state, .ref a_readPage, .ref a_tape, .int f_taped, .int f_fault, .int f_broken, .int f_brokenAt, .int f_spot, .int f_here, .int f_token, .int f_value, .ref a_cutRow, .ref a_cutWeights, .ref a_isKept, .ref a_lanes, .ref a_lengths, .ref a_cells, .int f_torn])), (a_state, .inl (cA 0, 579, .inl f_state)), (a_readPage, .inl (cA 0, 193, .inl f_readPage)), (a_tape, .inl (cA 0, 160, .inl f_tape)), (a_cutRow, .inl (cA 0, 128, .inl f_cutRow)), (a_cutWeights, .inl (cA 0, 64, .inl f_cutWeights)), (a_isKept, .inl (cA 3, 2, .inl f_isKept)), (a_lanes, .inl (cA 0, 4, .inl u.1)), (a_lengths, .inl (cA 0, 4, .inl u.2.1)), (a_cells, .inl (cA 1, 160, .inr (.inl u.2.2)))])) A) (cc := cX6_sheet) (maxL := 5) (ret := (some .int)) (by decide) rfl (Nat.le_of_ble_eq_true rfl) ?_
  intro p e s m args below meth c ls A hx hb hr hlk hml hown hts hK hP hD hS hA hl
  have hown : s.vm.findClass RX6 = some m.cls := hown
  have hl : lv_has ls 5 [(0, .ref a0), (1, .int p1), (2, .int p2), (3, .int p3)] := hl
  have hw := h
  unfold wX6_sheet at hw
  have kl118 := hts (.constantLong RX6 118 (3)) (by decide +kernel)
  have kl109 := hts (.constantLong RX6 109 (2)) (by decide +kernel)
  have iwX6 : ∀ w ∈ wsX60, w ∈ wsX6_sheet := fun w h9 => List.mem_cons_of_mem _ (List.mem_append_right _ h9)
  have kf29 := hts (.fieldLink RX6 29 "ExcessTreeModel" "lanes" "[I") (by decide +kernel)
  have kf32 := hts (.fieldLink RX6 32 "ExcessTreeModel" "lengths" "[I") (by decide +kernel)
  have kf35 := hts (.fieldLink RX6 35 "ExcessTreeModel" "cells" "[J") (by decide +kernel)
  refine lv_iload_n hx hb dX6_sheet_0 rfl (lv_at hl 1 rfl) ?_
  refine lv_i2l (v := ((p1).toInt64)) hx hb dX6_sheet_1 rfl ?_
  refine lv_lconst (v := 0) hx hb dX6_sheet_2 (by decide) ?_
  refine lv_ldc2 (v := 3) hx hb hown kl118 dX6_sheet_3 ?_
  refine z_si [.long ((p1).toInt64), .long (0 : Int64), .long (3 : Int64)] [] ⟨hx, hb, hml, hown, hts⟩ (kX6_in l D cA ((p1).toInt64) (0 : Int64) (3 : Int64) _ hw) (va_cwS 3 hts gX6_sheet_X6_in rfl rfl rfl vX6_in ⟨Nat.le_of_ble_eq_true rfl, Nat.le_of_ble_eq_true rfl⟩) hK z_p0 rfl hl.1 rfl (Nat.le_of_ble_eq_true rfl) dX6_sheet_6 ⟨Nat.zero_le _, Nat.zero_le _⟩ (fun r_1 hw => ?_)
  refine lv_if_eq (tgt := 30) hx hb dX6_sheet_9 (by decide) (fun c_2 => ?_) (fun c_2 => ?_)
  · have hw := hw.1 c_2
    refine lv_iconst (v := -1) hx hb dX6_sheet_30 (by decide) ?_
    exact z_iretw (f_lanes, f_lengths, f_cells) hx hb hr hlk hw hP hD hS dX6_sheet_31
  · have hw := hw.2 c_2
    refine lv_iload_n hx hb dX6_sheet_12 rfl (lv_at hl 2 rfl) ?_
    refine lv_i2l (v := ((p2).toInt64)) hx hb dX6_sheet_13 rfl ?_
    refine lv_lconst (v := 0) hx hb dX6_sheet_14 (by decide) ?_
    refine lv_ldc2 (v := 2) hx hb hown kl109 dX6_sheet_15 ?_
    refine z_si [.long ((p2).toInt64), .long (0 : Int64), .long (2 : Int64)] [] ⟨hx, hb, hml, hown, hts⟩ (kX6_in l D cA ((p2).toInt64) (0 : Int64) (2 : Int64) _ hw) (va_cwS 3 hts gX6_sheet_X6_in rfl rfl rfl vX6_in ⟨Nat.le_of_ble_eq_true rfl, Nat.le_of_ble_eq_true rfl⟩) hK z_p0 rfl hl.1 rfl (Nat.le_of_ble_eq_true rfl) dX6_sheet_18 ⟨Nat.zero_le _, Nat.zero_le _⟩ (fun r_3 hw => ?_)
    refine lv_if_eq (tgt := 30) hx hb dX6_sheet_21 (by decide) (fun c_4 => ?_) (fun c_4 => ?_)
    · have hw := hw.1 c_4
      refine lv_iconst (v := -1) hx hb dX6_sheet_30 (by decide) ?_
      exact z_iretw (f_lanes, f_lengths, f_cells) hx hb hr hlk hw hP hD hS dX6_sheet_31
    · have hw := hw.2 c_4
      refine lv_iload_n hx hb dX6_sheet_24 rfl (lv_at hl 3 rfl) ?_
      refine lv_bipush (v := 40) hx hb dX6_sheet_25 (by decide) ?_
      refine lv_icmp_le (tgt := 32) hx hb dX6_sheet_27 (by decide) (fun c_5 => ?_) (fun c_5 => ?_)
      · have hw := hw.1 c_5
        refine lv_iload_n hx hb dX6_sheet_32 rfl (lv_at hl 3 rfl) ?_
        refine lv_if_ge (tgt := 39) hx hb dX6_sheet_33 (by decide) (fun c_6 => ?_) (fun c_6 => ?_)
        · have hw := hw.1 c_6
          refine lv_aload_n hx hb dX6_sheet_39 rfl (lv_at hl 0 rfl) ?_
          refine va_get (D := D) (ci := 5) (v := .ref a_lanes) (C := RX6) (T := TX6) (N := 18) hx hb hts iwX6 hown hK.1 hP 0 rfl rfl 14 (by decide) kf29 (fun _ h9 => h9) rfl dX6_sheet_40 ?_
          refine lv_iload_n hx hb dX6_sheet_43 rfl (lv_at hl 1 rfl) ?_
          refine lv_iload_n hx hb dX6_sheet_44 rfl (lv_at hl 2 rfl) ?_
          have hq := hw.1
          have hw := hw.2
          refine va_iast hx hb hK.1 hP hD hS 7 0 rfl rfl hq dX6_sheet_45 (fun H locs hP hD hS => ?_)
          have hP : va_P D vwCl [(a0, .inr (5, [.ref a_state, .ref a_readPage, .ref a_tape, .int f_taped, .int f_fault, .int f_broken, .int f_brokenAt, .int f_spot, .int f_here, .int f_token, .int f_value, .ref a_cutRow, .ref a_cutWeights, .ref a_isKept, .ref a_lanes, .ref a_lengths, .ref a_cells, .int f_torn])), (a_state, .inl (cA 0, 579, .inl f_state)), (a_readPage, .inl (cA 0, 193, .inl f_readPage)), (a_tape, .inl (cA 0, 160, .inl f_tape)), (a_cutRow, .inl (cA 0, 128, .inl f_cutRow)), (a_cutWeights, .inl (cA 0, 64, .inl f_cutWeights)), (a_isKept, .inl (cA 3, 2, .inl f_isKept)), (a_lanes, .inl (cA 0, 4, .inl (upd f_lanes p1.toNatClampNeg p2))), (a_lengths, .inl (cA 0, 4, .inl f_lengths)), (a_cells, .inl (cA 1, 160, .inr (.inl f_cells)))] H := hP
          have hD : va_D A [(a0, .inr (5, [.ref a_state, .ref a_readPage, .ref a_tape, .int f_taped, .int f_fault, .int f_broken, .int f_brokenAt, .int f_spot, .int f_here, .int f_token, .int f_value, .ref a_cutRow, .ref a_cutWeights, .ref a_isKept, .ref a_lanes, .ref a_lengths, .ref a_cells, .int f_torn])), (a_state, .inl (cA 0, 579, .inl f_state)), (a_readPage, .inl (cA 0, 193, .inl f_readPage)), (a_tape, .inl (cA 0, 160, .inl f_tape)), (a_cutRow, .inl (cA 0, 128, .inl f_cutRow)), (a_cutWeights, .inl (cA 0, 64, .inl f_cutWeights)), (a_isKept, .inl (cA 3, 2, .inl f_isKept)), (a_lanes, .inl (cA 0, 4, .inl (upd f_lanes p1.toNatClampNeg p2))), (a_lengths, .inl (cA 0, 4, .inl f_lengths)), (a_cells, .inl (cA 1, 160, .inr (.inl f_cells)))] := hD
          refine lv_aload_n hx hb dX6_sheet_46 rfl (lv_at hl 0 rfl) ?_
          refine va_get (D := D) (ci := 5) (v := .ref a_lengths) (C := RX6) (T := TX6) (N := 18) hx hb hts iwX6 hown hK.1 hP 0 rfl rfl 15 (by decide) kf32 (fun _ h9 => h9) rfl dX6_sheet_47 ?_
          refine lv_iload_n hx hb dX6_sheet_50 rfl (lv_at hl 1 rfl) ?_
          refine lv_iload_n hx hb dX6_sheet_51 rfl (lv_at hl 3 rfl) ?_
          have hq := hw.1
          have hw := hw.2
          refine va_iast hx hb hK.1 hP hD hS 8 0 rfl rfl hq dX6_sheet_52 (fun H locs hP hD hS => ?_)
          have hP : va_P D vwCl [(a0, .inr (5, [.ref a_state, .ref a_readPage, .ref a_tape, .int f_taped, .int f_fault, .int f_broken, .int f_brokenAt, .int f_spot, .int f_here, .int f_token, .int f_value, .ref a_cutRow, .ref a_cutWeights, .ref a_isKept, .ref a_lanes, .ref a_lengths, .ref a_cells, .int f_torn])), (a_state, .inl (cA 0, 579, .inl f_state)), (a_readPage, .inl (cA 0, 193, .inl f_readPage)), (a_tape, .inl (cA 0, 160, .inl f_tape)), (a_cutRow, .inl (cA 0, 128, .inl f_cutRow)), (a_cutWeights, .inl (cA 0, 64, .inl f_cutWeights)), (a_isKept, .inl (cA 3, 2, .inl f_isKept)), (a_lanes, .inl (cA 0, 4, .inl (upd f_lanes p1.toNatClampNeg p2))), (a_lengths, .inl (cA 0, 4, .inl (upd f_lengths p1.toNatClampNeg p3))), (a_cells, .inl (cA 1, 160, .inr (.inl f_cells)))] H := hP
          have hD : va_D A [(a0, .inr (5, [.ref a_state, .ref a_readPage, .ref a_tape, .int f_taped, .int f_fault, .int f_broken, .int f_brokenAt, .int f_spot, .int f_here, .int f_token, .int f_value, .ref a_cutRow, .ref a_cutWeights, .ref a_isKept, .ref a_lanes, .ref a_lengths, .ref a_cells, .int f_torn])), (a_state, .inl (cA 0, 579, .inl f_state)), (a_readPage, .inl (cA 0, 193, .inl f_readPage)), (a_tape, .inl (cA 0, 160, .inl f_tape)), (a_cutRow, .inl (cA 0, 128, .inl f_cutRow)), (a_cutWeights, .inl (cA 0, 64, .inl f_cutWeights)), (a_isKept, .inl (cA 3, 2, .inl f_isKept)), (a_lanes, .inl (cA 0, 4, .inl (upd f_lanes p1.toNatClampNeg p2))), (a_lengths, .inl (cA 0, 4, .inl (upd f_lengths p1.toNatClampNeg p3))), (a_cells, .inl (cA 1, 160, .inr (.inl f_cells)))] := hD
          refine lv_iconst (v := 0) hx hb dX6_sheet_53 (by decide) ?_
          refine lv_istore (lv' := [(4, .int (0 : Int32)), (0, .ref a0), (1, .int p1), (2, .int p2), (3, .int p3)]) hx hb dX6_sheet_54 hl (by decide) rfl (fun ls hl => ?_)
          obtain ⟨I_7, mu_7, hI_7, hw⟩ := hw
          have lp_7 : ∀ (nn : Nat) (x_8 : Int32) (f_cells_9 : Nat → Int64) (H : Heap) (locs : List Loc) (ls : Array Slot), mu_7 x_8 f_cells_9 < nn → I_7 x_8 f_cells_9 → va_P D vwCl [(a0, .inr (5, [.ref a_state, .ref a_readPage, .ref a_tape, .int f_taped, .int f_fault, .int f_broken, .int f_brokenAt, .int f_spot, .int f_here, .int f_token, .int f_value, .ref a_cutRow, .ref a_cutWeights, .ref a_isKept, .ref a_lanes, .ref a_lengths, .ref a_cells, .int f_torn])), (a_state, .inl (cA 0, 579, .inl f_state)), (a_readPage, .inl (cA 0, 193, .inl f_readPage)), (a_tape, .inl (cA 0, 160, .inl f_tape)), (a_cutRow, .inl (cA 0, 128, .inl f_cutRow)), (a_cutWeights, .inl (cA 0, 64, .inl f_cutWeights)), (a_isKept, .inl (cA 3, 2, .inl f_isKept)), (a_lanes, .inl (cA 0, 4, .inl (upd f_lanes p1.toNatClampNeg p2))), (a_lengths, .inl (cA 0, 4, .inl (upd f_lengths p1.toNatClampNeg p3))), (a_cells, .inl (cA 1, 160, .inr (.inl f_cells_9)))] H → va_D A [(a0, .inr (5, [.ref a_state, .ref a_readPage, .ref a_tape, .int f_taped, .int f_fault, .int f_broken, .int f_brokenAt, .int f_spot, .int f_here, .int f_token, .int f_value, .ref a_cutRow, .ref a_cutWeights, .ref a_isKept, .ref a_lanes, .ref a_lengths, .ref a_cells, .int f_torn])), (a_state, .inl (cA 0, 579, .inl f_state)), (a_readPage, .inl (cA 0, 193, .inl f_readPage)), (a_tape, .inl (cA 0, 160, .inl f_tape)), (a_cutRow, .inl (cA 0, 128, .inl f_cutRow)), (a_cutWeights, .inl (cA 0, 64, .inl f_cutWeights)), (a_isKept, .inl (cA 3, 2, .inl f_isKept)), (a_lanes, .inl (cA 0, 4, .inl (upd f_lanes p1.toNatClampNeg p2))), (a_lengths, .inl (cA 0, 4, .inl (upd f_lengths p1.toNatClampNeg p3))), (a_cells, .inl (cA 1, 160, .inr (.inl f_cells_9)))] → va_S A s.heap H locs → lv_has ls 5 [(0, .ref a0), (1, .int p1), (4, .int x_8)] → W p l e rX6_sheet s m args below meth c H locs 0 0 (MQ below (va_Qi post (zB D A (fun u : (Nat → Int32) × (Nat → Int32) × (Nat → Int64) => [(a0, .inr (5, [.ref a_state, .ref a_readPage, .ref a_tape, .int f_taped, .int f_fault, .int f_broken, .int f_brokenAt, .int f_spot, .int f_here, .int f_token, .int f_value, .ref a_cutRow, .ref a_cutWeights, .ref a_isKept, .ref a_lanes, .ref a_lengths, .ref a_cells, .int f_torn])), (a_state, .inl (cA 0, 579, .inl f_state)), (a_readPage, .inl (cA 0, 193, .inl f_readPage)), (a_tape, .inl (cA 0, 160, .inl f_tape)), (a_cutRow, .inl (cA 0, 128, .inl f_cutRow)), (a_cutWeights, .inl (cA 0, 64, .inl f_cutWeights)), (a_isKept, .inl (cA 3, 2, .inl f_isKept)), (a_lanes, .inl (cA 0, 4, .inl u.1)), (a_lengths, .inl (cA 0, 4, .inl u.2.1)), (a_cells, .inl (cA 1, 160, .inr (.inl u.2.2)))])) A) args s 0 0 A) (F0 m 56 ls []) := by
            intro nn
            induction nn with
            | zero => exact fun _ _ _ _ _ h0 => absurd h0 (Nat.not_lt_zero _)
            | succ nn ih_7 =>
              intro x_8 f_cells_9 H locs ls hmu_7 hI_7 hP hD hS hl
              have hw := hw x_8 f_cells_9 hI_7
              refine lv_iload hx hb dX6_sheet_56 (lv_at hl 2 rfl) ?_
              refine lv_bipush (v := 40) hx hb dX6_sheet_58 (by decide) ?_
              refine lv_icmp_ge (tgt := 82) hx hb dX6_sheet_60 (by decide) (fun c_10 => ?_) (fun c_10 => ?_)
              · have hw := hw.1 c_10
                refine lv_iconst (v := 1) hx hb dX6_sheet_82 (by decide) ?_
                exact z_iretw ((upd f_lanes p1.toNatClampNeg p2), (upd f_lengths p1.toNatClampNeg p3), f_cells_9) hx hb hr hlk hw hP hD hS dX6_sheet_83
              · have hw := hw.2 c_10
                refine lv_aload_n hx hb dX6_sheet_63 rfl (lv_at hl 0 rfl) ?_
                refine va_get (D := D) (ci := 5) (v := .ref a_cells) (C := RX6) (T := TX6) (N := 18) hx hb hts iwX6 hown hK.1 hP 0 rfl rfl 16 (by decide) kf35 (fun _ h9 => h9) rfl dX6_sheet_64 ?_
                refine lv_bipush (v := 40) hx hb dX6_sheet_67 (by decide) ?_
                refine lv_iload_n hx hb dX6_sheet_69 rfl (lv_at hl 1 rfl) ?_
                refine lv_imul hx hb dX6_sheet_70 ?_
                refine lv_iload hx hb dX6_sheet_71 (lv_at hl 2 rfl) ?_
                refine lv_iadd hx hb dX6_sheet_73 ?_
                refine lv_lconst (v := 0) hx hb dX6_sheet_74 (by decide) ?_
                have hq := hw.1
                have hw := hw.2
                refine va_last hx hb hK.1 hP hD hS 9 1 rfl rfl hq dX6_sheet_75 (fun H locs hP hD hS => ?_)
                have hP : va_P D vwCl [(a0, .inr (5, [.ref a_state, .ref a_readPage, .ref a_tape, .int f_taped, .int f_fault, .int f_broken, .int f_brokenAt, .int f_spot, .int f_here, .int f_token, .int f_value, .ref a_cutRow, .ref a_cutWeights, .ref a_isKept, .ref a_lanes, .ref a_lengths, .ref a_cells, .int f_torn])), (a_state, .inl (cA 0, 579, .inl f_state)), (a_readPage, .inl (cA 0, 193, .inl f_readPage)), (a_tape, .inl (cA 0, 160, .inl f_tape)), (a_cutRow, .inl (cA 0, 128, .inl f_cutRow)), (a_cutWeights, .inl (cA 0, 64, .inl f_cutWeights)), (a_isKept, .inl (cA 3, 2, .inl f_isKept)), (a_lanes, .inl (cA 0, 4, .inl (upd f_lanes p1.toNatClampNeg p2))), (a_lengths, .inl (cA 0, 4, .inl (upd f_lengths p1.toNatClampNeg p3))), (a_cells, .inl (cA 1, 160, .inr (.inl (vp_updL f_cells_9 (((40 : Int32) * p1) + x_8).toNatClampNeg (0 : Int64)))))] H := hP
                have hD : va_D A [(a0, .inr (5, [.ref a_state, .ref a_readPage, .ref a_tape, .int f_taped, .int f_fault, .int f_broken, .int f_brokenAt, .int f_spot, .int f_here, .int f_token, .int f_value, .ref a_cutRow, .ref a_cutWeights, .ref a_isKept, .ref a_lanes, .ref a_lengths, .ref a_cells, .int f_torn])), (a_state, .inl (cA 0, 579, .inl f_state)), (a_readPage, .inl (cA 0, 193, .inl f_readPage)), (a_tape, .inl (cA 0, 160, .inl f_tape)), (a_cutRow, .inl (cA 0, 128, .inl f_cutRow)), (a_cutWeights, .inl (cA 0, 64, .inl f_cutWeights)), (a_isKept, .inl (cA 3, 2, .inl f_isKept)), (a_lanes, .inl (cA 0, 4, .inl (upd f_lanes p1.toNatClampNeg p2))), (a_lengths, .inl (cA 0, 4, .inl (upd f_lengths p1.toNatClampNeg p3))), (a_cells, .inl (cA 1, 160, .inr (.inl (vp_updL f_cells_9 (((40 : Int32) * p1) + x_8).toNatClampNeg (0 : Int64)))))] := hD
                obtain ⟨x_11, ex_11⟩ : ∃ y : Int32, y = x_8 + (1) := ⟨_, rfl⟩
                have hw := hw x_11 ex_11
                refine lv_iinc (v := x_11) (lv' := [(4, .int x_11), (0, .ref a0), (1, .int p1)]) hx hb dX6_sheet_76 hl (k := 2) rfl (by rw [ex_11]; rfl) (by decide) rfl (fun ls hl => ?_)
                refine lv_goto (tgt := 56) hx hb dX6_sheet_79 (by decide) ?_
                exact ih_7 x_11 (vp_updL f_cells_9 (((40 : Int32) * p1) + x_8).toNatClampNeg (0 : Int64)) _ _ ls (Nat.lt_of_lt_of_le hw.2 (Nat.le_of_lt_succ hmu_7)) hw.1 hP hD hS (lv_sub hl [1, 2, 0] rfl)
          exact lp_7 (mu_7 (0 : Int32) f_cells + 1) (0 : Int32) f_cells _ _ ls (Nat.lt_succ_self _) hI_7 hP hD hS (lv_sub hl [1, 2, 0] rfl)
        · have hw := hw.2 c_6
          refine lv_bipush (v := -14) hx hb dX6_sheet_36 (by decide) ?_
          exact z_iretw (f_lanes, f_lengths, f_cells) hx hb hr hlk hw hP hD hS dX6_sheet_38
      · have hw := hw.2 c_5
        refine lv_iconst (v := -1) hx hb dX6_sheet_30 (by decide) ?_
        exact z_iretw (f_lanes, f_lengths, f_cells) hx hb hr hlk hw hP hD hS dX6_sheet_31
def wX6_narrowed  (p1 : Int32) (p2 : Int64) (post : Int64 → Prop) : Prop := ((¬ p1 = 0 → ((¬ p1 = (1 : Int32) → post p2) ∧ (p1 = (1 : Int32) → post (zlshr (zlshl p2 (32 : Int32)) (32 : Int32))))) ∧ (p1 = 0 → post (zlshr (zlshl p2 (56 : Int32)) (56 : Int32))))
abbrev rX6_narrowed : Room := { frames := 0, cells := 0, slots := 0, locals := 0 }
theorem vX6_narrowed : yX6_narrowed.cls ≠ "java/lang/invoke/MethodHandle" ∧ yX6_narrowed.cls ≠ "java/lang/invoke/VarHandle" ∧ (parseMethodDescriptor yX6_narrowed.desc).map (fun d => d.parameters.length) = some 2 := by decide +kernel
set_option maxHeartbeats 4000000 in
set_option maxRecDepth 100000 in
theorem kX6_narrowed (l : Launch) (D : va_G) (cA : Nat → ClassId)  (p1 : Int32) (p2 : Int64) (post : Int64 → Prop) (h : wX6_narrowed p1 p2 post) : Met l yX6_narrowed wsX6_narrowed rX6_narrowed (zPr D cA [.int p1, .long p2] []) (vp_Sl post) 0 0 (fun _ => False) := by
  refine z_ro (cc := cX6_narrowed) (maxL := 3) (ret := (some .long)) (by decide) rfl (Nat.le_of_ble_eq_true rfl) ?_
  intro p e s m args below meth c ls hx hb hr hlk hml hown hts hK hP hl
  have hown : s.vm.findClass RX6 = some m.cls := hown
  have hl : lv_has ls 3 [(0, .int p1), (1, .long p2)] := hl
  have hw := h
  unfold wX6_narrowed at hw
  refine lv_iload_n hx hb dX6_narrowed_0 rfl (lv_at hl 0 rfl) ?_
  refine lv_if_ne (tgt := 14) hx hb dX6_narrowed_1 (by decide) (fun c_1 => ?_) (fun c_1 => ?_)
  · have hw := hw.1 c_1
    refine lv_iload_n hx hb dX6_narrowed_14 rfl (lv_at hl 0 rfl) ?_
    refine lv_iconst (v := 1) hx hb dX6_narrowed_15 (by decide) ?_
    refine lv_icmp_ne (tgt := 29) hx hb dX6_narrowed_16 (by decide) (fun c_2 => ?_) (fun c_2 => ?_)
    · have hw := hw.1 c_2
      refine lv_lload_n hx hb dX6_narrowed_29 rfl (lv_at hl 1 rfl) ?_
      exact z_lret hx hb hr hlk hw dX6_narrowed_30
    · have hw := hw.2 c_2
      refine lv_lload_n hx hb dX6_narrowed_19 rfl (lv_at hl 1 rfl) ?_
      refine lv_bipush (v := 32) hx hb dX6_narrowed_20 (by decide) ?_
      refine lv_lshl (v := (zlshl p2 (32 : Int32))) hx hb dX6_narrowed_22 rfl ?_
      refine lv_bipush (v := 32) hx hb dX6_narrowed_23 (by decide) ?_
      refine lv_lshr (v := (zlshr (zlshl p2 (32 : Int32)) (32 : Int32))) hx hb dX6_narrowed_25 rfl ?_
      refine lv_goto (tgt := 30) hx hb dX6_narrowed_26 (by decide) ?_
      exact z_lret hx hb hr hlk hw dX6_narrowed_30
  · have hw := hw.2 c_1
    refine lv_lload_n hx hb dX6_narrowed_4 rfl (lv_at hl 1 rfl) ?_
    refine lv_bipush (v := 56) hx hb dX6_narrowed_5 (by decide) ?_
    refine lv_lshl (v := (zlshl p2 (56 : Int32))) hx hb dX6_narrowed_7 rfl ?_
    refine lv_bipush (v := 56) hx hb dX6_narrowed_8 (by decide) ?_
    refine lv_lshr (v := (zlshr (zlshl p2 (56 : Int32)) (56 : Int32))) hx hb dX6_narrowed_10 rfl ?_
    refine lv_goto (tgt := 30) hx hb dX6_narrowed_11 (by decide) ?_
    exact z_lret hx hb hr hlk hw dX6_narrowed_30
def wX6_lay (f_lanes : Nat → Int32) (f_lengths : Nat → Int32) (f_cells : Nat → Int64) (p1 : Int32) (p2 : Int32) (p3 : Int64) (post : Int32 → (Nat → Int64) → Prop) : Prop := (wX6_in ((p1).toInt64) (0 : Int64) (3 : Int64) (fun r_1 : Int32 => (((¬ r_1 = 0 → (vp_in p1 4 ∧ ((¬ (f_lanes p1.toNatClampNeg) = (-4 : Int32) → (vp_in p1 4 ∧ (wX6_in ((p2).toInt64) (0 : Int64) ((((f_lengths p1.toNatClampNeg) - (1 : Int32))).toInt64) (fun r_4 : Int32 => (((¬ r_4 = 0 → (vp_in p1 4 ∧ (wX6_narrowed (f_lanes p1.toNatClampNeg) p3 (fun r_6 : Int64 => ((vp_in (((40 : Int32) * p1) + p2) 160 ∧ post (1 : Int32) (vp_updL f_cells (((40 : Int32) * p1) + p2).toNatClampNeg r_6))))))) ∧ (r_4 = 0 → post (-12 : Int32) f_cells))))))) ∧ ((f_lanes p1.toNatClampNeg) = (-4 : Int32) → post (-11 : Int32) f_cells)))) ∧ (r_1 = 0 → post (-1 : Int32) f_cells)))))
abbrev rX6_lay : Room := { frames := 1, cells := 0, slots := 0, locals := 25 }
theorem vX6_lay : yX6_lay.cls = RX6 ∧ yX6_lay.cls ≠ "java/lang/invoke/MethodHandle" ∧ yX6_lay.cls ≠ "java/lang/invoke/VarHandle" ∧ (parseMethodDescriptor yX6_lay.desc).map (fun d => d.parameters.length) = some 3 := by decide +kernel
set_option maxHeartbeats 4000000 in
set_option maxRecDepth 100000 in
theorem kX6_lay (l : Launch) (D : va_G) (cA : Nat → ClassId) (a0 a_state a_readPage a_tape a_cutRow a_cutWeights a_isKept a_lanes a_lengths a_cells : Nat) (f_taped : Int32) (f_fault : Int32) (f_broken : Int32) (f_brokenAt : Int32) (f_spot : Int32) (f_here : Int32) (f_token : Int32) (f_value : Int32) (f_torn : Int32) (f_state : Nat → Int32) (f_readPage : Nat → Int32) (f_tape : Nat → Int32) (f_cutRow : Nat → Int32) (f_cutWeights : Nat → Int32) (f_isKept : Nat → Int32) (f_lanes : Nat → Int32) (f_lengths : Nat → Int32) (f_cells : Nat → Int64) (sz : Nat) (p1 : Int32) (p2 : Int32) (p3 : Int64) (post : Int32 → (Nat → Int64) → Prop) (h : wX6_lay f_lanes f_lengths f_cells p1 p2 p3 post) : Met l yX6_lay wsX6_lay rX6_lay (zPw D cA [.ref a0, .int p1, .int p2, .long p3] [(a0, .inr (5, [.ref a_state, .ref a_readPage, .ref a_tape, .int f_taped, .int f_fault, .int f_broken, .int f_brokenAt, .int f_spot, .int f_here, .int f_token, .int f_value, .ref a_cutRow, .ref a_cutWeights, .ref a_isKept, .ref a_lanes, .ref a_lengths, .ref a_cells, .int f_torn])), (a_state, .inl (cA 0, 579, .inl f_state)), (a_readPage, .inl (cA 0, 193, .inl f_readPage)), (a_tape, .inl (cA 0, 160, .inl f_tape)), (a_cutRow, .inl (cA 0, 128, .inl f_cutRow)), (a_cutWeights, .inl (cA 0, 64, .inl f_cutWeights)), (a_isKept, .inl (cA 3, 2, .inl f_isKept)), (a_lanes, .inl (cA 0, 4, .inl f_lanes)), (a_lengths, .inl (cA 0, 4, .inl f_lengths)), (a_cells, .inl (cA 1, 160, .inr (.inl f_cells)))] sz) (va_Qi post (zB D (va_A [(a0, .inr (5, [.ref a_state, .ref a_readPage, .ref a_tape, .int f_taped, .int f_fault, .int f_broken, .int f_brokenAt, .int f_spot, .int f_here, .int f_token, .int f_value, .ref a_cutRow, .ref a_cutWeights, .ref a_isKept, .ref a_lanes, .ref a_lengths, .ref a_cells, .int f_torn])), (a_state, .inl (cA 0, 579, .inl f_state)), (a_readPage, .inl (cA 0, 193, .inl f_readPage)), (a_tape, .inl (cA 0, 160, .inl f_tape)), (a_cutRow, .inl (cA 0, 128, .inl f_cutRow)), (a_cutWeights, .inl (cA 0, 64, .inl f_cutWeights)), (a_isKept, .inl (cA 3, 2, .inl f_isKept)), (a_lanes, .inl (cA 0, 4, .inl f_lanes)), (a_lengths, .inl (cA 0, 4, .inl f_lengths)), (a_cells, .inl (cA 1, 160, .inr (.inl f_cells)))] sz) (fun u : (Nat → Int64) => [(a0, .inr (5, [.ref a_state, .ref a_readPage, .ref a_tape, .int f_taped, .int f_fault, .int f_broken, .int f_brokenAt, .int f_spot, .int f_here, .int f_token, .int f_value, .ref a_cutRow, .ref a_cutWeights, .ref a_isKept, .ref a_lanes, .ref a_lengths, .ref a_cells, .int f_torn])), (a_state, .inl (cA 0, 579, .inl f_state)), (a_readPage, .inl (cA 0, 193, .inl f_readPage)), (a_tape, .inl (cA 0, 160, .inl f_tape)), (a_cutRow, .inl (cA 0, 128, .inl f_cutRow)), (a_cutWeights, .inl (cA 0, 64, .inl f_cutWeights)), (a_isKept, .inl (cA 3, 2, .inl f_isKept)), (a_lanes, .inl (cA 0, 4, .inl f_lanes)), (a_lengths, .inl (cA 0, 4, .inl f_lengths)), (a_cells, .inl (cA 1, 160, .inr (.inl u)))])) (va_A [(a0, .inr (5, [.ref a_state, .ref a_readPage, .ref a_tape, .int f_taped, .int f_fault, .int f_broken, .int f_brokenAt, .int f_spot, .int f_here, .int f_token, .int f_value, .ref a_cutRow, .ref a_cutWeights, .ref a_isKept, .ref a_lanes, .ref a_lengths, .ref a_cells, .int f_torn])), (a_state, .inl (cA 0, 579, .inl f_state)), (a_readPage, .inl (cA 0, 193, .inl f_readPage)), (a_tape, .inl (cA 0, 160, .inl f_tape)), (a_cutRow, .inl (cA 0, 128, .inl f_cutRow)), (a_cutWeights, .inl (cA 0, 64, .inl f_cutWeights)), (a_isKept, .inl (cA 3, 2, .inl f_isKept)), (a_lanes, .inl (cA 0, 4, .inl f_lanes)), (a_lengths, .inl (cA 0, 4, .inl f_lengths)), (a_cells, .inl (cA 1, 160, .inr (.inl f_cells)))] sz)) 0 0 (va_A [(a0, .inr (5, [.ref a_state, .ref a_readPage, .ref a_tape, .int f_taped, .int f_fault, .int f_broken, .int f_brokenAt, .int f_spot, .int f_here, .int f_token, .int f_value, .ref a_cutRow, .ref a_cutWeights, .ref a_isKept, .ref a_lanes, .ref a_lengths, .ref a_cells, .int f_torn])), (a_state, .inl (cA 0, 579, .inl f_state)), (a_readPage, .inl (cA 0, 193, .inl f_readPage)), (a_tape, .inl (cA 0, 160, .inl f_tape)), (a_cutRow, .inl (cA 0, 128, .inl f_cutRow)), (a_cutWeights, .inl (cA 0, 64, .inl f_cutWeights)), (a_isKept, .inl (cA 3, 2, .inl f_isKept)), (a_lanes, .inl (cA 0, 4, .inl f_lanes)), (a_lengths, .inl (cA 0, 4, .inl f_lengths)), (a_cells, .inl (cA 1, 160, .inr (.inl f_cells)))] sz) := by
  refine z_rw (Qc := fun A => va_Qi post (zB D A (fun u : (Nat → Int64) => [(a0, .inr (5, [.ref a_state, .ref a_readPage, .ref a_tape, .int f_taped, .int f_fault, .int f_broken, .int f_brokenAt, .int f_spot, .int f_here, .int f_token, .int f_value, .ref a_cutRow, .ref a_cutWeights, .ref a_isKept, .ref a_lanes, .ref a_lengths, .ref a_cells, .int f_torn])), (a_state, .inl (cA 0, 579, .inl f_state)), (a_readPage, .inl (cA 0, 193, .inl f_readPage)), (a_tape, .inl (cA 0, 160, .inl f_tape)), (a_cutRow, .inl (cA 0, 128, .inl f_cutRow)), (a_cutWeights, .inl (cA 0, 64, .inl f_cutWeights)), (a_isKept, .inl (cA 3, 2, .inl f_isKept)), (a_lanes, .inl (cA 0, 4, .inl f_lanes)), (a_lengths, .inl (cA 0, 4, .inl f_lengths)), (a_cells, .inl (cA 1, 160, .inr (.inl u)))])) A) (cc := cX6_lay) (maxL := 5) (ret := (some .int)) (by decide) rfl (Nat.le_of_ble_eq_true rfl) ?_
  intro p e s m args below meth c ls A hx hb hr hlk hml hown hts hK hP hD hS hA hl
  have hown : s.vm.findClass RX6 = some m.cls := hown
  have hl : lv_has ls 5 [(0, .ref a0), (1, .int p1), (2, .int p2), (3, .long p3)] := hl
  have hw := h
  unfold wX6_lay at hw
  have kl118 := hts (.constantLong RX6 118 (3)) (by decide +kernel)
  have iwX6 : ∀ w ∈ wsX60, w ∈ wsX6_lay := fun w h9 => List.mem_cons_of_mem _ (List.mem_append_right _ h9)
  have kf29 := hts (.fieldLink RX6 29 "ExcessTreeModel" "lanes" "[I") (by decide +kernel)
  have kf32 := hts (.fieldLink RX6 32 "ExcessTreeModel" "lengths" "[I") (by decide +kernel)
  have kf35 := hts (.fieldLink RX6 35 "ExcessTreeModel" "cells" "[J") (by decide +kernel)
  refine lv_iload_n hx hb dX6_lay_0 rfl (lv_at hl 1 rfl) ?_
  refine lv_i2l (v := ((p1).toInt64)) hx hb dX6_lay_1 rfl ?_
  refine lv_lconst (v := 0) hx hb dX6_lay_2 (by decide) ?_
  refine lv_ldc2 (v := 3) hx hb hown kl118 dX6_lay_3 ?_
  refine z_si [.long ((p1).toInt64), .long (0 : Int64), .long (3 : Int64)] [] ⟨hx, hb, hml, hown, hts⟩ (kX6_in l D cA ((p1).toInt64) (0 : Int64) (3 : Int64) _ hw) (va_cwS 3 hts gX6_lay_X6_in rfl rfl rfl vX6_in ⟨Nat.le_of_ble_eq_true rfl, Nat.le_of_ble_eq_true rfl⟩) hK z_p0 rfl hl.1 rfl (Nat.le_of_ble_eq_true rfl) dX6_lay_6 ⟨Nat.zero_le _, Nat.zero_le _⟩ (fun r_1 hw => ?_)
  refine lv_if_ne (tgt := 14) hx hb dX6_lay_9 (by decide) (fun c_2 => ?_) (fun c_2 => ?_)
  · have hw := hw.1 c_2
    refine lv_aload_n hx hb dX6_lay_14 rfl (lv_at hl 0 rfl) ?_
    refine va_get (D := D) (ci := 5) (v := .ref a_lanes) (C := RX6) (T := TX6) (N := 18) hx hb hts iwX6 hown hK.1 hP 0 rfl rfl 14 (by decide) kf29 (fun _ h9 => h9) rfl dX6_lay_15 ?_
    refine lv_iload_n hx hb dX6_lay_18 rfl (lv_at hl 1 rfl) ?_
    have hq := hw.1
    have hw := hw.2
    refine va_iald hx hb hK.1 hP 7 0 rfl rfl hq dX6_lay_19 ?_
    refine lv_bipush (v := -4) hx hb dX6_lay_20 (by decide) ?_
    refine lv_icmp_ne (tgt := 28) hx hb dX6_lay_22 (by decide) (fun c_3 => ?_) (fun c_3 => ?_)
    · have hw := hw.1 c_3
      refine lv_iload_n hx hb dX6_lay_28 rfl (lv_at hl 2 rfl) ?_
      refine lv_i2l (v := ((p2).toInt64)) hx hb dX6_lay_29 rfl ?_
      refine lv_lconst (v := 0) hx hb dX6_lay_30 (by decide) ?_
      refine lv_aload_n hx hb dX6_lay_31 rfl (lv_at hl 0 rfl) ?_
      refine va_get (D := D) (ci := 5) (v := .ref a_lengths) (C := RX6) (T := TX6) (N := 18) hx hb hts iwX6 hown hK.1 hP 0 rfl rfl 15 (by decide) kf32 (fun _ h9 => h9) rfl dX6_lay_32 ?_
      refine lv_iload_n hx hb dX6_lay_35 rfl (lv_at hl 1 rfl) ?_
      have hq := hw.1
      have hw := hw.2
      refine va_iald hx hb hK.1 hP 8 0 rfl rfl hq dX6_lay_36 ?_
      refine lv_iconst (v := 1) hx hb dX6_lay_37 (by decide) ?_
      refine lv_isub hx hb dX6_lay_38 ?_
      refine lv_i2l (v := ((((f_lengths p1.toNatClampNeg) - (1 : Int32))).toInt64)) hx hb dX6_lay_39 rfl ?_
      refine z_si [.long ((p2).toInt64), .long (0 : Int64), .long ((((f_lengths p1.toNatClampNeg) - (1 : Int32))).toInt64)] [] ⟨hx, hb, hml, hown, hts⟩ (kX6_in l D cA ((p2).toInt64) (0 : Int64) ((((f_lengths p1.toNatClampNeg) - (1 : Int32))).toInt64) _ hw) (va_cwS 3 hts gX6_lay_X6_in rfl rfl rfl vX6_in ⟨Nat.le_of_ble_eq_true rfl, Nat.le_of_ble_eq_true rfl⟩) hK z_p0 rfl hl.1 rfl (Nat.le_of_ble_eq_true rfl) dX6_lay_40 ⟨Nat.zero_le _, Nat.zero_le _⟩ (fun r_4 hw => ?_)
      refine lv_if_ne (tgt := 49) hx hb dX6_lay_43 (by decide) (fun c_5 => ?_) (fun c_5 => ?_)
      · have hw := hw.1 c_5
        refine lv_aload_n hx hb dX6_lay_49 rfl (lv_at hl 0 rfl) ?_
        refine va_get (D := D) (ci := 5) (v := .ref a_cells) (C := RX6) (T := TX6) (N := 18) hx hb hts iwX6 hown hK.1 hP 0 rfl rfl 16 (by decide) kf35 (fun _ h9 => h9) rfl dX6_lay_50 ?_
        refine lv_bipush (v := 40) hx hb dX6_lay_53 (by decide) ?_
        refine lv_iload_n hx hb dX6_lay_55 rfl (lv_at hl 1 rfl) ?_
        refine lv_imul hx hb dX6_lay_56 ?_
        refine lv_iload_n hx hb dX6_lay_57 rfl (lv_at hl 2 rfl) ?_
        refine lv_iadd hx hb dX6_lay_58 ?_
        refine lv_aload_n hx hb dX6_lay_59 rfl (lv_at hl 0 rfl) ?_
        refine va_get (D := D) (ci := 5) (v := .ref a_lanes) (C := RX6) (T := TX6) (N := 18) hx hb hts iwX6 hown hK.1 hP 0 rfl rfl 14 (by decide) kf29 (fun _ h9 => h9) rfl dX6_lay_60 ?_
        refine lv_iload_n hx hb dX6_lay_63 rfl (lv_at hl 1 rfl) ?_
        have hq := hw.1
        have hw := hw.2
        refine va_iald hx hb hK.1 hP 7 0 rfl rfl hq dX6_lay_64 ?_
        refine lv_lload_n hx hb dX6_lay_65 rfl (lv_at hl 3 rfl) ?_
        refine z_sl [.int (f_lanes p1.toNatClampNeg), .long p3] [.int (((40 : Int32) * p1) + p2), .ref a_cells] ⟨hx, hb, hml, hown, hts⟩ (kX6_narrowed l D cA (f_lanes p1.toNatClampNeg) p3 _ hw) (va_cwS 2 hts gX6_lay_X6_narrowed rfl rfl rfl vX6_narrowed ⟨Nat.le_of_ble_eq_true rfl, Nat.le_of_ble_eq_true rfl⟩) hK z_p0 rfl hl.1 rfl (Nat.le_of_ble_eq_true rfl) dX6_lay_66 ⟨Nat.zero_le _, Nat.zero_le _⟩ (fun r_6 hw => ?_)
        have hq := hw.1
        have hw := hw.2
        refine va_last hx hb hK.1 hP hD hS 9 1 rfl rfl hq dX6_lay_69 (fun H locs hP hD hS => ?_)
        have hP : va_P D vwCl [(a0, .inr (5, [.ref a_state, .ref a_readPage, .ref a_tape, .int f_taped, .int f_fault, .int f_broken, .int f_brokenAt, .int f_spot, .int f_here, .int f_token, .int f_value, .ref a_cutRow, .ref a_cutWeights, .ref a_isKept, .ref a_lanes, .ref a_lengths, .ref a_cells, .int f_torn])), (a_state, .inl (cA 0, 579, .inl f_state)), (a_readPage, .inl (cA 0, 193, .inl f_readPage)), (a_tape, .inl (cA 0, 160, .inl f_tape)), (a_cutRow, .inl (cA 0, 128, .inl f_cutRow)), (a_cutWeights, .inl (cA 0, 64, .inl f_cutWeights)), (a_isKept, .inl (cA 3, 2, .inl f_isKept)), (a_lanes, .inl (cA 0, 4, .inl f_lanes)), (a_lengths, .inl (cA 0, 4, .inl f_lengths)), (a_cells, .inl (cA 1, 160, .inr (.inl (vp_updL f_cells (((40 : Int32) * p1) + p2).toNatClampNeg r_6))))] H := hP
        have hD : va_D A [(a0, .inr (5, [.ref a_state, .ref a_readPage, .ref a_tape, .int f_taped, .int f_fault, .int f_broken, .int f_brokenAt, .int f_spot, .int f_here, .int f_token, .int f_value, .ref a_cutRow, .ref a_cutWeights, .ref a_isKept, .ref a_lanes, .ref a_lengths, .ref a_cells, .int f_torn])), (a_state, .inl (cA 0, 579, .inl f_state)), (a_readPage, .inl (cA 0, 193, .inl f_readPage)), (a_tape, .inl (cA 0, 160, .inl f_tape)), (a_cutRow, .inl (cA 0, 128, .inl f_cutRow)), (a_cutWeights, .inl (cA 0, 64, .inl f_cutWeights)), (a_isKept, .inl (cA 3, 2, .inl f_isKept)), (a_lanes, .inl (cA 0, 4, .inl f_lanes)), (a_lengths, .inl (cA 0, 4, .inl f_lengths)), (a_cells, .inl (cA 1, 160, .inr (.inl (vp_updL f_cells (((40 : Int32) * p1) + p2).toNatClampNeg r_6))))] := hD
        refine lv_iconst (v := 1) hx hb dX6_lay_70 (by decide) ?_
        exact z_iretw (vp_updL f_cells (((40 : Int32) * p1) + p2).toNatClampNeg r_6) hx hb hr hlk hw hP hD hS dX6_lay_71
      · have hw := hw.2 c_5
        refine lv_bipush (v := -12) hx hb dX6_lay_46 (by decide) ?_
        exact z_iretw f_cells hx hb hr hlk hw hP hD hS dX6_lay_48
    · have hw := hw.2 c_3
      refine lv_bipush (v := -11) hx hb dX6_lay_25 (by decide) ?_
      exact z_iretw f_cells hx hb hr hlk hw hP hD hS dX6_lay_27
  · have hw := hw.2 c_2
    refine lv_iconst (v := -1) hx hb dX6_lay_12 (by decide) ?_
    exact z_iretw f_cells hx hb hr hlk hw hP hD hS dX6_lay_13
def wX6_look (f_lanes : Nat → Int32) (f_lengths : Nat → Int32) (f_cells : Nat → Int64) (p1 : Int32) (p2 : Int32) (post : Int64 → Prop) : Prop := (wX6_in ((p1).toInt64) (0 : Int64) (3 : Int64) (fun r_1 : Int32 => (((r_1 = 0 → post (0 : Int64)) ∧ (¬ r_1 = 0 → (vp_in p1 4 ∧ (((f_lanes p1.toNatClampNeg) = (-4 : Int32) → post (0 : Int64)) ∧ (¬ (f_lanes p1.toNatClampNeg) = (-4 : Int32) → (vp_in p1 4 ∧ (wX6_in ((p2).toInt64) (0 : Int64) ((((f_lengths p1.toNatClampNeg) - (1 : Int32))).toInt64) (fun r_4 : Int32 => (((r_4 = 0 → post (0 : Int64)) ∧ (¬ r_4 = 0 → (vp_in (((40 : Int32) * p1) + p2) 160 ∧ post (f_cells (((40 : Int32) * p1) + p2).toNatClampNeg))))))))))))))))
abbrev rX6_look : Room := { frames := 1, cells := 0, slots := 0, locals := 25 }
theorem vX6_look : yX6_look.cls = RX6 ∧ yX6_look.cls ≠ "java/lang/invoke/MethodHandle" ∧ yX6_look.cls ≠ "java/lang/invoke/VarHandle" ∧ (parseMethodDescriptor yX6_look.desc).map (fun d => d.parameters.length) = some 2 := by decide +kernel
set_option maxHeartbeats 4000000 in
set_option maxRecDepth 100000 in
theorem kX6_look (l : Launch) (D : va_G) (cA : Nat → ClassId) (a0 a_state a_readPage a_tape a_cutRow a_cutWeights a_isKept a_lanes a_lengths a_cells : Nat) (f_taped : Int32) (f_fault : Int32) (f_broken : Int32) (f_brokenAt : Int32) (f_spot : Int32) (f_here : Int32) (f_token : Int32) (f_value : Int32) (f_torn : Int32) (f_state : Nat → Int32) (f_readPage : Nat → Int32) (f_tape : Nat → Int32) (f_cutRow : Nat → Int32) (f_cutWeights : Nat → Int32) (f_isKept : Nat → Int32) (f_lanes : Nat → Int32) (f_lengths : Nat → Int32) (f_cells : Nat → Int64) (p1 : Int32) (p2 : Int32) (post : Int64 → Prop) (h : wX6_look f_lanes f_lengths f_cells p1 p2 post) : Met l yX6_look wsX6_look rX6_look (zPr D cA [.ref a0, .int p1, .int p2] [(a0, .inr (5, [.ref a_state, .ref a_readPage, .ref a_tape, .int f_taped, .int f_fault, .int f_broken, .int f_brokenAt, .int f_spot, .int f_here, .int f_token, .int f_value, .ref a_cutRow, .ref a_cutWeights, .ref a_isKept, .ref a_lanes, .ref a_lengths, .ref a_cells, .int f_torn])), (a_state, .inl (cA 0, 579, .inl f_state)), (a_readPage, .inl (cA 0, 193, .inl f_readPage)), (a_tape, .inl (cA 0, 160, .inl f_tape)), (a_cutRow, .inl (cA 0, 128, .inl f_cutRow)), (a_cutWeights, .inl (cA 0, 64, .inl f_cutWeights)), (a_isKept, .inl (cA 3, 2, .inl f_isKept)), (a_lanes, .inl (cA 0, 4, .inl f_lanes)), (a_lengths, .inl (cA 0, 4, .inl f_lengths)), (a_cells, .inl (cA 1, 160, .inr (.inl f_cells)))]) (vp_Sl post) 0 0 (fun _ => False) := by
  refine z_ro (cc := cX6_look) (maxL := 3) (ret := (some .long)) (by decide) rfl (Nat.le_of_ble_eq_true rfl) ?_
  intro p e s m args below meth c ls hx hb hr hlk hml hown hts hK hP hl
  have hown : s.vm.findClass RX6 = some m.cls := hown
  have hl : lv_has ls 3 [(0, .ref a0), (1, .int p1), (2, .int p2)] := hl
  have hw := h
  unfold wX6_look at hw
  have kl118 := hts (.constantLong RX6 118 (3)) (by decide +kernel)
  have iwX6 : ∀ w ∈ wsX60, w ∈ wsX6_look := fun w h9 => List.mem_cons_of_mem _ (List.mem_append_right _ h9)
  have kf29 := hts (.fieldLink RX6 29 "ExcessTreeModel" "lanes" "[I") (by decide +kernel)
  have kf32 := hts (.fieldLink RX6 32 "ExcessTreeModel" "lengths" "[I") (by decide +kernel)
  have kf35 := hts (.fieldLink RX6 35 "ExcessTreeModel" "cells" "[J") (by decide +kernel)
  refine lv_iload_n hx hb dX6_look_0 rfl (lv_at hl 1 rfl) ?_
  refine lv_i2l (v := ((p1).toInt64)) hx hb dX6_look_1 rfl ?_
  refine lv_lconst (v := 0) hx hb dX6_look_2 (by decide) ?_
  refine lv_ldc2 (v := 3) hx hb hown kl118 dX6_look_3 ?_
  refine z_si [.long ((p1).toInt64), .long (0 : Int64), .long (3 : Int64)] [] ⟨hx, hb, hml, hown, hts⟩ (kX6_in l D cA ((p1).toInt64) (0 : Int64) (3 : Int64) _ hw) (va_cwS 3 hts gX6_look_X6_in rfl rfl rfl vX6_in ⟨Nat.le_of_ble_eq_true rfl, Nat.le_of_ble_eq_true rfl⟩) hK z_p0 rfl hl.1 rfl (Nat.le_of_ble_eq_true rfl) dX6_look_6 ⟨Nat.zero_le _, Nat.zero_le _⟩ (fun r_1 hw => ?_)
  refine lv_if_eq (tgt := 55) hx hb dX6_look_9 (by decide) (fun c_2 => ?_) (fun c_2 => ?_)
  · have hw := hw.1 c_2
    refine lv_lconst (v := 0) hx hb dX6_look_55 (by decide) ?_
    exact z_lret hx hb hr hlk hw dX6_look_56
  · have hw := hw.2 c_2
    refine lv_aload_n hx hb dX6_look_12 rfl (lv_at hl 0 rfl) ?_
    refine va_get (D := D) (ci := 5) (v := .ref a_lanes) (C := RX6) (T := TX6) (N := 18) hx hb hts iwX6 hown hK.1 hP 0 rfl rfl 14 (by decide) kf29 (fun _ h9 => h9) rfl dX6_look_13 ?_
    refine lv_iload_n hx hb dX6_look_16 rfl (lv_at hl 1 rfl) ?_
    have hq := hw.1
    have hw := hw.2
    refine va_iald hx hb hK.1 hP 7 0 rfl rfl hq dX6_look_17 ?_
    refine lv_bipush (v := -4) hx hb dX6_look_18 (by decide) ?_
    refine lv_icmp_eq (tgt := 55) hx hb dX6_look_20 (by decide) (fun c_3 => ?_) (fun c_3 => ?_)
    · have hw := hw.1 c_3
      refine lv_lconst (v := 0) hx hb dX6_look_55 (by decide) ?_
      exact z_lret hx hb hr hlk hw dX6_look_56
    · have hw := hw.2 c_3
      refine lv_iload_n hx hb dX6_look_23 rfl (lv_at hl 2 rfl) ?_
      refine lv_i2l (v := ((p2).toInt64)) hx hb dX6_look_24 rfl ?_
      refine lv_lconst (v := 0) hx hb dX6_look_25 (by decide) ?_
      refine lv_aload_n hx hb dX6_look_26 rfl (lv_at hl 0 rfl) ?_
      refine va_get (D := D) (ci := 5) (v := .ref a_lengths) (C := RX6) (T := TX6) (N := 18) hx hb hts iwX6 hown hK.1 hP 0 rfl rfl 15 (by decide) kf32 (fun _ h9 => h9) rfl dX6_look_27 ?_
      refine lv_iload_n hx hb dX6_look_30 rfl (lv_at hl 1 rfl) ?_
      have hq := hw.1
      have hw := hw.2
      refine va_iald hx hb hK.1 hP 8 0 rfl rfl hq dX6_look_31 ?_
      refine lv_iconst (v := 1) hx hb dX6_look_32 (by decide) ?_
      refine lv_isub hx hb dX6_look_33 ?_
      refine lv_i2l (v := ((((f_lengths p1.toNatClampNeg) - (1 : Int32))).toInt64)) hx hb dX6_look_34 rfl ?_
      refine z_si [.long ((p2).toInt64), .long (0 : Int64), .long ((((f_lengths p1.toNatClampNeg) - (1 : Int32))).toInt64)] [] ⟨hx, hb, hml, hown, hts⟩ (kX6_in l D cA ((p2).toInt64) (0 : Int64) ((((f_lengths p1.toNatClampNeg) - (1 : Int32))).toInt64) _ hw) (va_cwS 3 hts gX6_look_X6_in rfl rfl rfl vX6_in ⟨Nat.le_of_ble_eq_true rfl, Nat.le_of_ble_eq_true rfl⟩) hK z_p0 rfl hl.1 rfl (Nat.le_of_ble_eq_true rfl) dX6_look_35 ⟨Nat.zero_le _, Nat.zero_le _⟩ (fun r_4 hw => ?_)
      refine lv_if_eq (tgt := 55) hx hb dX6_look_38 (by decide) (fun c_5 => ?_) (fun c_5 => ?_)
      · have hw := hw.1 c_5
        refine lv_lconst (v := 0) hx hb dX6_look_55 (by decide) ?_
        exact z_lret hx hb hr hlk hw dX6_look_56
      · have hw := hw.2 c_5
        refine lv_aload_n hx hb dX6_look_41 rfl (lv_at hl 0 rfl) ?_
        refine va_get (D := D) (ci := 5) (v := .ref a_cells) (C := RX6) (T := TX6) (N := 18) hx hb hts iwX6 hown hK.1 hP 0 rfl rfl 16 (by decide) kf35 (fun _ h9 => h9) rfl dX6_look_42 ?_
        refine lv_bipush (v := 40) hx hb dX6_look_45 (by decide) ?_
        refine lv_iload_n hx hb dX6_look_47 rfl (lv_at hl 1 rfl) ?_
        refine lv_imul hx hb dX6_look_48 ?_
        refine lv_iload_n hx hb dX6_look_49 rfl (lv_at hl 2 rfl) ?_
        refine lv_iadd hx hb dX6_look_50 ?_
        have hq := hw.1
        have hw := hw.2
        refine va_lald hx hb hK.1 hP 9 1 rfl rfl hq dX6_look_51 ?_
        refine lv_goto (tgt := 56) hx hb dX6_look_52 (by decide) ?_
        exact z_lret hx hb hr hlk hw dX6_look_56
def wX6_wide  (p1 : Int32) (post : Int32 → Prop) : Prop := ((¬ p1 = 0 → ((¬ p1 = (1 : Int32) → post (64 : Int32)) ∧ (p1 = (1 : Int32) → post (32 : Int32)))) ∧ (p1 = 0 → post (8 : Int32)))
abbrev rX6_wide : Room := { frames := 0, cells := 0, slots := 0, locals := 0 }
theorem vX6_wide : yX6_wide.cls ≠ "java/lang/invoke/MethodHandle" ∧ yX6_wide.cls ≠ "java/lang/invoke/VarHandle" ∧ (parseMethodDescriptor yX6_wide.desc).map (fun d => d.parameters.length) = some 1 := by decide +kernel
set_option maxHeartbeats 4000000 in
set_option maxRecDepth 100000 in
theorem kX6_wide (l : Launch) (D : va_G) (cA : Nat → ClassId)  (p1 : Int32) (post : Int32 → Prop) (h : wX6_wide p1 post) : Met l yX6_wide wsX6_wide rX6_wide (zPr D cA [.int p1] []) (vp_Si post) 0 0 (fun _ => False) := by
  refine z_ro (cc := cX6_wide) (maxL := 1) (ret := (some .int)) (by decide) rfl (Nat.le_of_ble_eq_true rfl) ?_
  intro p e s m args below meth c ls hx hb hr hlk hml hown hts hK hP hl
  have hown : s.vm.findClass RX6 = some m.cls := hown
  have hl : lv_has ls 1 [(0, .int p1)] := hl
  have hw := h
  unfold wX6_wide at hw
  refine lv_iload_n hx hb dX6_wide_0 rfl (lv_at hl 0 rfl) ?_
  refine lv_if_ne (tgt := 9) hx hb dX6_wide_1 (by decide) (fun c_1 => ?_) (fun c_1 => ?_)
  · have hw := hw.1 c_1
    refine lv_iload_n hx hb dX6_wide_9 rfl (lv_at hl 0 rfl) ?_
    refine lv_iconst (v := 1) hx hb dX6_wide_10 (by decide) ?_
    refine lv_icmp_ne (tgt := 19) hx hb dX6_wide_11 (by decide) (fun c_2 => ?_) (fun c_2 => ?_)
    · have hw := hw.1 c_2
      refine lv_bipush (v := 64) hx hb dX6_wide_19 (by decide) ?_
      exact z_iret hx hb hr hlk hw dX6_wide_21
    · have hw := hw.2 c_2
      refine lv_bipush (v := 32) hx hb dX6_wide_14 (by decide) ?_
      refine lv_goto (tgt := 21) hx hb dX6_wide_16 (by decide) ?_
      exact z_iret hx hb hr hlk hw dX6_wide_21
  · have hw := hw.2 c_1
    refine lv_bipush (v := 8) hx hb dX6_wide_4 (by decide) ?_
    refine lv_goto (tgt := 21) hx hb dX6_wide_6 (by decide) ?_
    exact z_iret hx hb hr hlk hw dX6_wide_21
def wX6_foundAt (f_lanes : Nat → Int32) (f_lengths : Nat → Int32) (p1 : Int32) (p2 : Int32) (p3 : Int64) (post : Int32 → Prop) : Prop := (vp_in p1 4 ∧ ((¬ (f_lanes p1.toNatClampNeg) = (-4 : Int32) → (vp_in p1 4 ∧ (((f_lanes p1.toNatClampNeg) = p2 → (wX6_wide p2 (fun r_3 : Int32 => ((¬ ((r_3).toInt64) = 0 ∧ (vp_in p1 4 ∧ (((lg_cmp (p3 / ((r_3).toInt64)) (((f_lengths p1.toNatClampNeg)).toInt64)) < 0 → post (0 : Int32)) ∧ (¬ (lg_cmp (p3 / ((r_3).toInt64)) (((f_lengths p1.toNatClampNeg)).toInt64)) < 0 → post (2 : Int32))))))))) ∧ (¬ (f_lanes p1.toNatClampNeg) = p2 → post (3 : Int32))))) ∧ ((f_lanes p1.toNatClampNeg) = (-4 : Int32) → post (1 : Int32))))
abbrev rX6_foundAt : Room := { frames := 1, cells := 0, slots := 0, locals := 20 }
theorem vX6_foundAt : yX6_foundAt.cls = RX6 ∧ yX6_foundAt.cls ≠ "java/lang/invoke/MethodHandle" ∧ yX6_foundAt.cls ≠ "java/lang/invoke/VarHandle" ∧ (parseMethodDescriptor yX6_foundAt.desc).map (fun d => d.parameters.length) = some 3 := by decide +kernel
set_option maxHeartbeats 4000000 in
set_option maxRecDepth 100000 in
theorem kX6_foundAt (l : Launch) (D : va_G) (cA : Nat → ClassId) (a0 a_state a_readPage a_tape a_cutRow a_cutWeights a_isKept a_lanes a_lengths a_cells : Nat) (f_taped : Int32) (f_fault : Int32) (f_broken : Int32) (f_brokenAt : Int32) (f_spot : Int32) (f_here : Int32) (f_token : Int32) (f_value : Int32) (f_torn : Int32) (f_state : Nat → Int32) (f_readPage : Nat → Int32) (f_tape : Nat → Int32) (f_cutRow : Nat → Int32) (f_cutWeights : Nat → Int32) (f_isKept : Nat → Int32) (f_lanes : Nat → Int32) (f_lengths : Nat → Int32) (f_cells : Nat → Int64) (p1 : Int32) (p2 : Int32) (p3 : Int64) (post : Int32 → Prop) (h : wX6_foundAt f_lanes f_lengths p1 p2 p3 post) : Met l yX6_foundAt wsX6_foundAt rX6_foundAt (zPr D cA [.ref a0, .int p1, .int p2, .long p3] [(a0, .inr (5, [.ref a_state, .ref a_readPage, .ref a_tape, .int f_taped, .int f_fault, .int f_broken, .int f_brokenAt, .int f_spot, .int f_here, .int f_token, .int f_value, .ref a_cutRow, .ref a_cutWeights, .ref a_isKept, .ref a_lanes, .ref a_lengths, .ref a_cells, .int f_torn])), (a_state, .inl (cA 0, 579, .inl f_state)), (a_readPage, .inl (cA 0, 193, .inl f_readPage)), (a_tape, .inl (cA 0, 160, .inl f_tape)), (a_cutRow, .inl (cA 0, 128, .inl f_cutRow)), (a_cutWeights, .inl (cA 0, 64, .inl f_cutWeights)), (a_isKept, .inl (cA 3, 2, .inl f_isKept)), (a_lanes, .inl (cA 0, 4, .inl f_lanes)), (a_lengths, .inl (cA 0, 4, .inl f_lengths)), (a_cells, .inl (cA 1, 160, .inr (.inl f_cells)))]) (vp_Si post) 0 0 (fun _ => False) := by
  refine z_ro (cc := cX6_foundAt) (maxL := 5) (ret := (some .int)) (by decide) rfl (Nat.le_of_ble_eq_true rfl) ?_
  intro p e s m args below meth c ls hx hb hr hlk hml hown hts hK hP hl
  have hown : s.vm.findClass RX6 = some m.cls := hown
  have hl : lv_has ls 5 [(0, .ref a0), (1, .int p1), (2, .int p2), (3, .long p3)] := hl
  have hw := h
  unfold wX6_foundAt at hw
  have iwX6 : ∀ w ∈ wsX60, w ∈ wsX6_foundAt := fun w h9 => List.mem_cons_of_mem _ (List.mem_append_right _ h9)
  have kf29 := hts (.fieldLink RX6 29 "ExcessTreeModel" "lanes" "[I") (by decide +kernel)
  have kf32 := hts (.fieldLink RX6 32 "ExcessTreeModel" "lengths" "[I") (by decide +kernel)
  refine lv_aload_n hx hb dX6_foundAt_0 rfl (lv_at hl 0 rfl) ?_
  refine va_get (D := D) (ci := 5) (v := .ref a_lanes) (C := RX6) (T := TX6) (N := 18) hx hb hts iwX6 hown hK.1 hP 0 rfl rfl 14 (by decide) kf29 (fun _ h9 => h9) rfl dX6_foundAt_1 ?_
  refine lv_iload_n hx hb dX6_foundAt_4 rfl (lv_at hl 1 rfl) ?_
  have hq := hw.1
  have hw := hw.2
  refine va_iald hx hb hK.1 hP 7 0 rfl rfl hq dX6_foundAt_5 ?_
  refine lv_bipush (v := -4) hx hb dX6_foundAt_6 (by decide) ?_
  refine lv_icmp_ne (tgt := 15) hx hb dX6_foundAt_8 (by decide) (fun c_1 => ?_) (fun c_1 => ?_)
  · have hw := hw.1 c_1
    refine lv_aload_n hx hb dX6_foundAt_15 rfl (lv_at hl 0 rfl) ?_
    refine va_get (D := D) (ci := 5) (v := .ref a_lanes) (C := RX6) (T := TX6) (N := 18) hx hb hts iwX6 hown hK.1 hP 0 rfl rfl 14 (by decide) kf29 (fun _ h9 => h9) rfl dX6_foundAt_16 ?_
    refine lv_iload_n hx hb dX6_foundAt_19 rfl (lv_at hl 1 rfl) ?_
    have hq := hw.1
    have hw := hw.2
    refine va_iald hx hb hK.1 hP 7 0 rfl rfl hq dX6_foundAt_20 ?_
    refine lv_iload_n hx hb dX6_foundAt_21 rfl (lv_at hl 2 rfl) ?_
    refine lv_icmp_eq (tgt := 29) hx hb dX6_foundAt_22 (by decide) (fun c_2 => ?_) (fun c_2 => ?_)
    · have hw := hw.1 c_2
      refine lv_lload_n hx hb dX6_foundAt_29 rfl (lv_at hl 3 rfl) ?_
      refine lv_iload_n hx hb dX6_foundAt_30 rfl (lv_at hl 2 rfl) ?_
      refine z_si [.int p2] [.long p3] ⟨hx, hb, hml, hown, hts⟩ (kX6_wide l D cA p2 _ hw) (va_cwS 1 hts gX6_foundAt_X6_wide rfl rfl rfl vX6_wide ⟨Nat.le_of_ble_eq_true rfl, Nat.le_of_ble_eq_true rfl⟩) hK z_p0 rfl hl.1 rfl (Nat.le_of_ble_eq_true rfl) dX6_foundAt_31 ⟨Nat.zero_le _, Nat.zero_le _⟩ (fun r_3 hw => ?_)
      refine lv_i2l (v := ((r_3).toInt64)) hx hb dX6_foundAt_34 rfl ?_
      have hq := hw.1
      have hw := hw.2
      refine lv_ldiv hx hb dX6_foundAt_35 hq ?_
      refine lv_aload_n hx hb dX6_foundAt_36 rfl (lv_at hl 0 rfl) ?_
      refine va_get (D := D) (ci := 5) (v := .ref a_lengths) (C := RX6) (T := TX6) (N := 18) hx hb hts iwX6 hown hK.1 hP 0 rfl rfl 15 (by decide) kf32 (fun _ h9 => h9) rfl dX6_foundAt_37 ?_
      refine lv_iload_n hx hb dX6_foundAt_40 rfl (lv_at hl 1 rfl) ?_
      have hq := hw.1
      have hw := hw.2
      refine va_iald hx hb hK.1 hP 8 0 rfl rfl hq dX6_foundAt_41 ?_
      refine lv_i2l (v := (((f_lengths p1.toNatClampNeg)).toInt64)) hx hb dX6_foundAt_42 rfl ?_
      refine W.lcmp hx hb dX6_foundAt_43 ?_
      refine lv_if_lt (tgt := 51) hx hb dX6_foundAt_44 (by decide) (fun c_4 => ?_) (fun c_4 => ?_)
      · have hw := hw.1 c_4
        refine lv_iconst (v := 0) hx hb dX6_foundAt_51 (by decide) ?_
        exact z_iret hx hb hr hlk hw dX6_foundAt_52
      · have hw := hw.2 c_4
        refine lv_iconst (v := 2) hx hb dX6_foundAt_47 (by decide) ?_
        refine lv_goto (tgt := 52) hx hb dX6_foundAt_48 (by decide) ?_
        exact z_iret hx hb hr hlk hw dX6_foundAt_52
    · have hw := hw.2 c_2
      refine lv_iconst (v := 3) hx hb dX6_foundAt_25 (by decide) ?_
      refine lv_goto (tgt := 52) hx hb dX6_foundAt_26 (by decide) ?_
      exact z_iret hx hb hr hlk hw dX6_foundAt_52
  · have hw := hw.2 c_1
    refine lv_iconst (v := 1) hx hb dX6_foundAt_11 (by decide) ?_
    refine lv_goto (tgt := 52) hx hb dX6_foundAt_12 (by decide) ?_
    exact z_iret hx hb hr hlk hw dX6_foundAt_52
