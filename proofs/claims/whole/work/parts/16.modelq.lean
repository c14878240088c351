/-! written by wip/whole/gen.py -/
def wX6_stow (f_torn : Int32) (f_state : Nat → Int32) (f_lanes : Nat → Int32) (f_lengths : Nat → Int32) (f_cells : Nat → Int64) (p1 : Int32) (p2 : Int32) (p3 : Int32) (post : Int32 → ((Int32) × (Nat → Int64)) → Prop) : Prop := (wX6_in ((p1).toInt64) (0 : Int64) (3 : Int64) (fun r_1 : Int32 => (((r_1 = 0 → post (-1 : Int32) (f_torn, f_cells)) ∧ (¬ r_1 = 0 → (wX6_in ((p2).toInt64) (0 : Int64) (2 : Int64) (fun r_3 : Int32 => (((r_3 = 0 → post (-1 : Int32) (f_torn, f_cells)) ∧ (¬ r_3 = 0 → ((0 ≤ p3 → (∃ (I_6 : Int32 → Int32 → (Nat → Int64) → Prop) (mu_6 : Int32 → Int32 → (Nat → Int64) → Nat), I_6 (0 : Int32) (0 : Int32) f_cells ∧ ∀ (x_7 : Int32) (f_torn_8 : Int32) (f_cells_9 : Nat → Int64), I_6 x_7 f_torn_8 f_cells_9 → ((¬ f_torn_8 = 0 → post x_7 (f_torn_8, f_cells_9)) ∧ (f_torn_8 = 0 → (wX6_places f_state (fun r_11 : Int32 => (((r_11 ≤ x_7 → post x_7 (f_torn_8, f_cells_9)) ∧ (¬ r_11 ≤ x_7 → (∀ x_13 : Int64, x_13 = (((p3).toInt64) + ((x_7).toInt64)) → (wX6_foundAt f_lanes f_lengths p1 p2 x_13 (fun r_14 : Int32 => (((¬ r_14 = 0 → (I_6 x_7 r_14 f_cells_9 ∧ mu_6 x_7 r_14 f_cells_9 < mu_6 x_7 f_torn_8 f_cells_9)) ∧ (r_14 = 0 → (wX6_wide p2 (fun r_16 : Int32 => ((¬ ((r_16).toInt64) = 0 ∧ (∀ x_17 : Int32, x_17 = (((40 : Int32) * p1) + (((x_13 / ((r_16).toInt64))).toInt32)) → (wX6_wide p2 (fun r_18 : Int32 => ((¬ ((r_18).toInt64) = 0 ∧ (∀ x_19 : Int64, x_19 = (zlshl (1 : Int64) (((x_13 - x_13 / ((r_18).toInt64) * ((r_18).toInt64))).toInt32)) → (vp_in x_7 579 ∧ ((¬ (f_state x_7.toNatClampNeg) = (1 : Int32) → (vp_in x_17 160 ∧ (wX6_narrowed p2 ((f_cells_9 x_17.toNatClampNeg) &&& (x_19 ^^^ (-1 : Int64))) (fun r_21 : Int64 => ((vp_in x_17 160 ∧ (∀ x_22 : Int32, x_22 = x_7 + (1) → (I_6 x_22 r_14 (vp_updL f_cells_9 x_17.toNatClampNeg r_21) ∧ mu_6 x_22 r_14 (vp_updL f_cells_9 x_17.toNatClampNeg r_21) < mu_6 x_7 f_torn_8 f_cells_9)))))))) ∧ ((f_state x_7.toNatClampNeg) = (1 : Int32) → (vp_in x_17 160 ∧ (wX6_narrowed p2 ((f_cells_9 x_17.toNatClampNeg) ||| x_19) (fun r_23 : Int64 => ((vp_in x_17 160 ∧ (∀ x_24 : Int32, x_24 = x_7 + (1) → (I_6 x_24 r_14 (vp_updL f_cells_9 x_17.toNatClampNeg r_23) ∧ mu_6 x_24 r_14 (vp_updL f_cells_9 x_17.toNatClampNeg r_23) < mu_6 x_7 f_torn_8 f_cells_9))))))))))))))))))))))))))))))))))) ∧ (¬ 0 ≤ p3 → post (-1 : Int32) (f_torn, f_cells)))))))))))))
abbrev rX6_stow : Room := { frames := 2, cells := 0, slots := 0, locals := 44 }
theorem vX6_stow : yX6_stow.cls = RX6 ∧ yX6_stow.cls ≠ "java/lang/invoke/MethodHandle" ∧ yX6_stow.cls ≠ "java/lang/invoke/VarHandle" ∧ (parseMethodDescriptor yX6_stow.desc).map (fun d => d.parameters.length) = some 3 := by decide +kernel
set_option maxHeartbeats 4000000 in
set_option maxRecDepth 100000 in
theorem kX6_stow (l : Launch) (D : va_G) (cA : Nat → ClassId) (a0 a_state a_readPage a_tape a_cutRow a_cutWeights a_isKept a_lanes a_lengths a_cells : Nat) (f_taped : Int32) (f_fault : Int32) (f_broken : Int32) (f_brokenAt : Int32) (f_spot : Int32) (f_here : Int32) (f_token : Int32) (f_value : Int32) (f_torn : Int32) (f_state : Nat → Int32) (f_readPage : Nat → Int32) (f_tape : Nat → Int32) (f_cutRow : Nat → Int32) (f_cutWeights : Nat → Int32) (f_isKept : Nat → Int32) (f_lanes : Nat → Int32) (f_lengths : Nat → Int32) (f_cells : Nat → Int64) (sz : Nat) (p1 : Int32) (p2 : Int32) (p3 : Int32) (post : Int32 → ((Int32) × (Nat → Int64)) → Prop) (h : wX6_stow f_torn f_state f_lanes f_lengths f_cells p1 p2 p3 post) : Met l yX6_stow wsX6_stow rX6_stow (zPw D cA [.ref a0, .int p1, .int p2, .int p3] [(a0, .inr (5, [.ref a_state, .ref a_readPage, .ref a_tape, .int f_taped, .int f_fault, .int f_broken, .int f_brokenAt, .int f_spot, .int f_here, .int f_token, .int f_value, .ref a_cutRow, .ref a_cutWeights, .ref a_isKept, .ref a_lanes, .ref a_lengths, .ref a_cells, .int f_torn])), (a_state, .inl (cA 0, 579, .inl f_state)), (a_readPage, .inl (cA 0, 193, .inl f_readPage)), (a_tape, .inl (cA 0, 160, .inl f_tape)), (a_cutRow, .inl (cA 0, 128, .inl f_cutRow)), (a_cutWeights, .inl (cA 0, 64, .inl f_cutWeights)), (a_isKept, .inl (cA 3, 2, .inl f_isKept)), (a_lanes, .inl (cA 0, 4, .inl f_lanes)), (a_lengths, .inl (cA 0, 4, .inl f_lengths)), (a_cells, .inl (cA 1, 160, .inr (.inl f_cells)))] sz) (va_Qi post (zB D (va_A [(a0, .inr (5, [.ref a_state, .ref a_readPage, .ref a_tape, .int f_taped, .int f_fault, .int f_broken, .int f_brokenAt, .int f_spot, .int f_here, .int f_token, .int f_value, .ref a_cutRow, .ref a_cutWeights, .ref a_isKept, .ref a_lanes, .ref a_lengths, .ref a_cells, .int f_torn])), (a_state, .inl (cA 0, 579, .inl f_state)), (a_readPage, .inl (cA 0, 193, .inl f_readPage)), (a_tape, .inl (cA 0, 160, .inl f_tape)), (a_cutRow, .inl (cA 0, 128, .inl f_cutRow)), (a_cutWeights, .inl (cA 0, 64, .inl f_cutWeights)), (a_isKept, .inl (cA 3, 2, .inl f_isKept)), (a_lanes, .inl (cA 0, 4, .inl f_lanes)), (a_lengths, .inl (cA 0, 4, .inl f_lengths)), (a_cells, .inl (cA 1, 160, .inr (.inl f_cells)))] sz) (fun u : (Int32) × (Nat → Int64) => [(a0, .inr (5, [.ref a_state, .ref a_readPage, .ref a_tape, .int f_taped, .int f_fault, .int f_broken, .int f_brokenAt, .int f_spot, .int f_here, .int f_token, .int f_value, .ref a_cutRow, .ref a_cutWeights, .ref a_isKept, .ref a_lanes, .ref a_lengths, .ref a_cells, .int u.1])), (a_state, .inl (cA 0, 579, .inl f_state)), (a_readPage, .inl (cA 0, 193, .inl f_readPage)), (a_tape, .inl (cA 0, 160, .inl f_tape)), (a_cutRow, .inl (cA 0, 128, .inl f_cutRow)), (a_cutWeights, .inl (cA 0, 64, .inl f_cutWeights)), (a_isKept, .inl (cA 3, 2, .inl f_isKept)), (a_lanes, .inl (cA 0, 4, .inl f_lanes)), (a_lengths, .inl (cA 0, 4, .inl f_lengths)), (a_cells, .inl (cA 1, 160, .inr (.inl u.2)))])) (va_A [(a0, .inr (5, [.ref a_state, .ref a_readPage, .ref a_tape, .int f_taped, .int f_fault, .int f_broken, .int f_brokenAt, .int f_spot, .int f_here, .int f_token, .int f_value, .ref a_cutRow, .ref a_cutWeights, .ref a_isKept, .ref a_lanes, .ref a_lengths, .ref a_cells, .int f_torn])), (a_state, .inl (cA 0, 579, .inl f_state)), (a_readPage, .inl (cA 0, 193, .inl f_readPage)), (a_tape, .inl (cA 0, 160, .inl f_tape)), (a_cutRow, .inl (cA 0, 128, .inl f_cutRow)), (a_cutWeights, .inl (cA 0, 64, .inl f_cutWeights)), (a_isKept, .inl (cA 3, 2, .inl f_isKept)), (a_lanes, .inl (cA 0, 4, .inl f_lanes)), (a_lengths, .inl (cA 0, 4, .inl f_lengths)), (a_cells, .inl (cA 1, 160, .inr (.inl f_cells)))] sz)) 0 0 (va_A [(a0, .inr (5, [.ref a_state, .ref a_readPage, .ref a_tape, .int f_taped, .int f_fault, .int f_broken, .int f_brokenAt, .int f_spot, .int f_here, .int f_token, .int f_value, .ref a_cutRow, .ref a_cutWeights, .ref a_isKept, .ref a_lanes, .ref a_lengths, .ref a_cells, .int f_torn])), (a_state, .inl (cA 0, 579, .inl f_state)), (a_readPage, .inl (cA 0, 193, .inl f_readPage)), (a_tape, .inl (cA 0, 160, .inl f_tape)), (a_cutRow, .inl (cA 0, 128, .inl f_cutRow)), (a_cutWeights, .inl (cA 0, 64, .inl f_cutWeights)), (a_isKept, .inl (cA 3, 2, .inl f_isKept)), (a_lanes, .inl (cA 0, 4, .inl f_lanes)), (a_lengths, .inl (cA 0, 4, .inl f_lengths)), (a_cells, .inl (cA 1, 160, .inr (.inl f_cells)))] sz) := by
  refine z_rw (Qc := fun A => va_Qi post (zB D A (fun u : (Int32) × (Nat → Int64) => [(a0, .inr (5, [.ref a_state, .ref a_readPage, .ref a_tape, .int f_taped, .int f_fault, .int f_broken, .int f_brokenAt, .int f_spot, .int f_here, .int f_token, .int f_value, .ref a_cutRow, .ref a_cutWeights, .ref a_isKept, .ref a_lanes, .ref a_lengths, .ref a_cells, .int u.1])), (a_state, .inl (cA 0, 579, .inl f_state)), (a_readPage, .inl (cA 0, 193, .inl f_readPage)), (a_tape, .inl (cA 0, 160, .inl f_tape)), (a_cutRow, .inl (cA 0, 128, .inl f_cutRow)), (a_cutWeights, .inl (cA 0, 64, .inl f_cutWeights)), (a_isKept, .inl (cA 3, 2, .inl f_isKept)), (a_lanes, .inl (cA 0, 4, .inl f_lanes)), (a_lengths, .inl (cA 0, 4, .inl f_lengths)), (a_cells, .inl (cA 1, 160, .inr (.inl u.2)))])) A) (cc := cX6_stow) (maxL := 10) (ret := (some .int)) (by decide) rfl (Nat.le_of_ble_eq_true rfl) ?_
  intro p e s m args below meth c ls A hx hb hr hlk hml hown hts hK hP hD hS hA hl
  have hown : s.vm.findClass RX6 = some m.cls := hown
  have hl : lv_has ls 10 [(0, .ref a0), (1, .int p1), (2, .int p2), (3, .int p3)] := hl
  have hw := h
  unfold wX6_stow at hw
  have kl118 := hts (.constantLong RX6 118 (3)) (by decide +kernel)
  have kl109 := hts (.constantLong RX6 109 (2)) (by decide +kernel)
  have iwX6 : ∀ w ∈ wsX60, w ∈ wsX6_stow := fun w h9 => List.mem_cons_of_mem _ (List.mem_append_right _ h9)
  have kf215 := hts (.fieldLink RX6 215 "ExcessTreeModel" "torn" "I") (by decide +kernel)
  have kf35 := hts (.fieldLink RX6 35 "ExcessTreeModel" "cells" "[J") (by decide +kernel)
  have kf7 := hts (.fieldLink RX6 7 "ExcessTreeModel" "state" "[I") (by decide +kernel)
  have kl218 := hts (.constantLong RX6 218 (-1)) (by decide +kernel)
  refine lv_iload_n hx hb dX6_stow_0 rfl (lv_at hl 1 rfl) ?_
  refine lv_i2l (v := ((p1).toInt64)) hx hb dX6_stow_1 rfl ?_
  refine lv_lconst (v := 0) hx hb dX6_stow_2 (by decide) ?_
  refine lv_ldc2 (v := 3) hx hb hown kl118 dX6_stow_3 ?_
  refine z_si [.long ((p1).toInt64), .long (0 : Int64), .long (3 : Int64)] [] ⟨hx, hb, hml, hown, hts⟩ (kX6_in l D cA ((p1).toInt64) (0 : Int64) (3 : Int64) _ hw) (va_cwS 3 hts gX6_stow_X6_in rfl rfl rfl vX6_in ⟨Nat.le_of_ble_eq_true rfl, Nat.le_of_ble_eq_true rfl⟩) hK z_p0 rfl hl.1 rfl (Nat.le_of_ble_eq_true rfl) dX6_stow_6 ⟨Nat.zero_le _, Nat.zero_le _⟩ (fun r_1 hw => ?_)
  refine lv_if_eq (tgt := 28) hx hb dX6_stow_9 (by decide) (fun c_2 => ?_) (fun c_2 => ?_)
  · have hw := hw.1 c_2
    refine lv_iconst (v := -1) hx hb dX6_stow_28 (by decide) ?_
    exact z_iretw (f_torn, f_cells) hx hb hr hlk hw hP hD hS dX6_stow_29
  · have hw := hw.2 c_2
    refine lv_iload_n hx hb dX6_stow_12 rfl (lv_at hl 2 rfl) ?_
    refine lv_i2l (v := ((p2).toInt64)) hx hb dX6_stow_13 rfl ?_
    refine lv_lconst (v := 0) hx hb dX6_stow_14 (by decide) ?_
    refine lv_ldc2 (v := 2) hx hb hown kl109 dX6_stow_15 ?_
    refine z_si [.long ((p2).toInt64), .long (0 : Int64), .long (2 : Int64)] [] ⟨hx, hb, hml, hown, hts⟩ (kX6_in l D cA ((p2).toInt64) (0 : Int64) (2 : Int64) _ hw) (va_cwS 3 hts gX6_stow_X6_in rfl rfl rfl vX6_in ⟨Nat.le_of_ble_eq_true rfl, Nat.le_of_ble_eq_true rfl⟩) hK z_p0 rfl hl.1 rfl (Nat.le_of_ble_eq_true rfl) dX6_stow_18 ⟨Nat.zero_le _, Nat.zero_le _⟩ (fun r_3 hw => ?_)
    refine lv_if_eq (tgt := 28) hx hb dX6_stow_21 (by decide) (fun c_4 => ?_) (fun c_4 => ?_)
    · have hw := hw.1 c_4
      refine lv_iconst (v := -1) hx hb dX6_stow_28 (by decide) ?_
      exact z_iretw (f_torn, f_cells) hx hb hr hlk hw hP hD hS dX6_stow_29
    · have hw := hw.2 c_4
      refine lv_iload_n hx hb dX6_stow_24 rfl (lv_at hl 3 rfl) ?_
      refine lv_if_ge (tgt := 30) hx hb dX6_stow_25 (by decide) (fun c_5 => ?_) (fun c_5 => ?_)
      · have hw := hw.1 c_5
        refine lv_aload_n hx hb dX6_stow_30 rfl (lv_at hl 0 rfl) ?_
        refine lv_iconst (v := 0) hx hb dX6_stow_31 (by decide) ?_
        refine va_put (D := D) (ci := 5) (v := .int (0 : Int32)) (ty := .int) (C := RX6) (T := TX6) (N := 18) hx hb hts iwX6 tyX6 tyX6_ok nmX6 hown hK.1 hP hD hS 0 rfl rfl 17 (by decide) kf215 (fun _ h9 => h9) rfl (by decide +kernel) rfl rfl (Nat.le_of_ble_eq_true rfl) dX6_stow_32 (fun H locs hP hD hS => ?_)
        have hP : va_P D vwCl [(a0, .inr (5, [.ref a_state, .ref a_readPage, .ref a_tape, .int f_taped, .int f_fault, .int f_broken, .int f_brokenAt, .int f_spot, .int f_here, .int f_token, .int f_value, .ref a_cutRow, .ref a_cutWeights, .ref a_isKept, .ref a_lanes, .ref a_lengths, .ref a_cells, .int (0 : Int32)])), (a_state, .inl (cA 0, 579, .inl f_state)), (a_readPage, .inl (cA 0, 193, .inl f_readPage)), (a_tape, .inl (cA 0, 160, .inl f_tape)), (a_cutRow, .inl (cA 0, 128, .inl f_cutRow)), (a_cutWeights, .inl (cA 0, 64, .inl f_cutWeights)), (a_isKept, .inl (cA 3, 2, .inl f_isKept)), (a_lanes, .inl (cA 0, 4, .inl f_lanes)), (a_lengths, .inl (cA 0, 4, .inl f_lengths)), (a_cells, .inl (cA 1, 160, .inr (.inl f_cells)))] H := hP
        have hD : va_D A [(a0, .inr (5, [.ref a_state, .ref a_readPage, .ref a_tape, .int f_taped, .int f_fault, .int f_broken, .int f_brokenAt, .int f_spot, .int f_here, .int f_token, .int f_value, .ref a_cutRow, .ref a_cutWeights, .ref a_isKept, .ref a_lanes, .ref a_lengths, .ref a_cells, .int (0 : Int32)])), (a_state, .inl (cA 0, 579, .inl f_state)), (a_readPage, .inl (cA 0, 193, .inl f_readPage)), (a_tape, .inl (cA 0, 160, .inl f_tape)), (a_cutRow, .inl (cA 0, 128, .inl f_cutRow)), (a_cutWeights, .inl (cA 0, 64, .inl f_cutWeights)), (a_isKept, .inl (cA 3, 2, .inl f_isKept)), (a_lanes, .inl (cA 0, 4, .inl f_lanes)), (a_lengths, .inl (cA 0, 4, .inl f_lengths)), (a_cells, .inl (cA 1, 160, .inr (.inl f_cells)))] := hD
        refine lv_iconst (v := 0) hx hb dX6_stow_35 (by decide) ?_
        refine lv_istore (lv' := [(4, .int (0 : Int32)), (0, .ref a0), (1, .int p1), (2, .int p2), (3, .int p3)]) hx hb dX6_stow_36 hl (by decide) rfl (fun ls hl => ?_)
        obtain ⟨I_6, mu_6, hI_6, hw⟩ := hw
        have lp_6 : ∀ (nn : Nat) (x_7 : Int32) (f_torn_8 : Int32) (f_cells_9 : Nat → Int64) (H : Heap) (locs : List Loc) (ls : Array Slot), mu_6 x_7 f_torn_8 f_cells_9 < nn → I_6 x_7 f_torn_8 f_cells_9 → va_P D vwCl [(a0, .inr (5, [.ref a_state, .ref a_readPage, .ref a_tape, .int f_taped, .int f_fault, .int f_broken, .int f_brokenAt, .int f_spot, .int f_here, .int f_token, .int f_value, .ref a_cutRow, .ref a_cutWeights, .ref a_isKept, .ref a_lanes, .ref a_lengths, .ref a_cells, .int f_torn_8])), (a_state, .inl (cA 0, 579, .inl f_state)), (a_readPage, .inl (cA 0, 193, .inl f_readPage)), (a_tape, .inl (cA 0, 160, .inl f_tape)), (a_cutRow, .inl (cA 0, 128, .inl f_cutRow)), (a_cutWeights, .inl (cA 0, 64, .inl f_cutWeights)), (a_isKept, .inl (cA 3, 2, .inl f_isKept)), (a_lanes, .inl (cA 0, 4, .inl f_lanes)), (a_lengths, .inl (cA 0, 4, .inl f_lengths)), (a_cells, .inl (cA 1, 160, .inr (.inl f_cells_9)))] H → va_D A [(a0, .inr (5, [.ref a_state, .ref a_readPage, .ref a_tape, .int f_taped, .int f_fault, .int f_broken, .int f_brokenAt, .int f_spot, .int f_here, .int f_token, .int f_value, .ref a_cutRow, .ref a_cutWeights, .ref a_isKept, .ref a_lanes, .ref a_lengths, .ref a_cells, .int f_torn_8])), (a_state, .inl (cA 0, 579, .inl f_state)), (a_readPage, .inl (cA 0, 193, .inl f_readPage)), (a_tape, .inl (cA 0, 160, .inl f_tape)), (a_cutRow, .inl (cA 0, 128, .inl f_cutRow)), (a_cutWeights, .inl (cA 0, 64, .inl f_cutWeights)), (a_isKept, .inl (cA 3, 2, .inl f_isKept)), (a_lanes, .inl (cA 0, 4, .inl f_lanes)), (a_lengths, .inl (cA 0, 4, .inl f_lengths)), (a_cells, .inl (cA 1, 160, .inr (.inl f_cells_9)))] → va_S A s.heap H locs → lv_has ls 10 [(0, .ref a0), (1, .int p1), (2, .int p2), (3, .int p3), (4, .int x_7)] → W p l e rX6_stow s m args below meth c H locs 0 0 (MQ below (va_Qi post (zB D A (fun u : (Int32) × (Nat → Int64) => [(a0, .inr (5, [.ref a_state, .ref a_readPage, .ref a_tape, .int f_taped, .int f_fault, .int f_broken, .int f_brokenAt, .int f_spot, .int f_here, .int f_token, .int f_value, .ref a_cutRow, .ref a_cutWeights, .ref a_isKept, .ref a_lanes, .ref a_lengths, .ref a_cells, .int u.1])), (a_state, .inl (cA 0, 579, .inl f_state)), (a_readPage, .inl (cA 0, 193, .inl f_readPage)), (a_tape, .inl (cA 0, 160, .inl f_tape)), (a_cutRow, .inl (cA 0, 128, .inl f_cutRow)), (a_cutWeights, .inl (cA 0, 64, .inl f_cutWeights)), (a_isKept, .inl (cA 3, 2, .inl f_isKept)), (a_lanes, .inl (cA 0, 4, .inl f_lanes)), (a_lengths, .inl (cA 0, 4, .inl f_lengths)), (a_cells, .inl (cA 1, 160, .inr (.inl u.2)))])) A) args s 0 0 A) (F0 m 38 ls []) := by
          intro nn
          induction nn with
          | zero => exact fun _ _ _ _ _ _ h0 => absurd h0 (Nat.not_lt_zero _)
          | succ nn ih_6 =>
            intro x_7 f_torn_8 f_cells_9 H locs ls hmu_6 hI_6 hP hD hS hl
            have hw := hw x_7 f_torn_8 f_cells_9 hI_6
            refine lv_aload_n hx hb dX6_stow_38 rfl (lv_at hl 0 rfl) ?_
            refine va_get (D := D) (ci := 5) (v := .int f_torn_8) (C := RX6) (T := TX6) (N := 18) hx hb hts iwX6 hown hK.1 hP 0 rfl rfl 17 (by decide) kf215 (fun _ h9 => h9) rfl dX6_stow_39 ?_
            refine lv_if_ne (tgt := 165) hx hb dX6_stow_42 (by decide) (fun c_10 => ?_) (fun c_10 => ?_)
            · have hw := hw.1 c_10
              refine lv_iload hx hb dX6_stow_165 (lv_at hl 4 rfl) ?_
              exact z_iretw (f_torn_8, f_cells_9) hx hb hr hlk hw hP hD hS dX6_stow_167
            · have hw := hw.2 c_10
              refine lv_iload hx hb dX6_stow_45 (lv_at hl 4 rfl) ?_
              refine lv_aload_n hx hb dX6_stow_47 rfl (lv_at hl 0 rfl) ?_
              refine z_ri [] [.int x_7] ⟨hx, hb, hml, hown, hts⟩ (kX6_places l D cA a0 a_state a_readPage a_tape a_cutRow a_cutWeights a_isKept a_lanes a_lengths a_cells f_taped f_fault f_broken f_brokenAt f_spot f_here f_token f_value f_torn_8 f_state f_readPage f_tape f_cutRow f_cutWeights f_isKept f_lanes f_lengths f_cells_9 _ hw) (cwV 0 hts gX6_stow_X6_places rfl rfl rfl vX6_places ⟨Nat.le_of_ble_eq_true rfl, Nat.le_of_ble_eq_true rfl⟩) hK (hP.sub [0, 1, 2, 3, 4, 5, 6, 7, 8, 9] rfl) (va_recv hK.1 (hP.sub (ws' := [(a0, .inr (5, [.ref a_state, .ref a_readPage, .ref a_tape, .int f_taped, .int f_fault, .int f_broken, .int f_brokenAt, .int f_spot, .int f_here, .int f_token, .int f_value, .ref a_cutRow, .ref a_cutWeights, .ref a_isKept, .ref a_lanes, .ref a_lengths, .ref a_cells, .int f_torn_8]))]) [0] rfl) (ci := 5) (q0 := 0) rfl rfl) rfl hl.1 rfl (Nat.le_of_ble_eq_true rfl) dX6_stow_48 ⟨Nat.zero_le _, Nat.zero_le _⟩ (fun r_11 hw => ?_)
              refine lv_icmp_ge (tgt := 165) hx hb dX6_stow_51 (by decide) (fun c_12 => ?_) (fun c_12 => ?_)
              · have hw := hw.1 c_12
                refine lv_iload hx hb dX6_stow_165 (lv_at hl 4 rfl) ?_
                exact z_iretw (f_torn_8, f_cells_9) hx hb hr hlk hw hP hD hS dX6_stow_167
              · have hw := hw.2 c_12
                refine lv_iload_n hx hb dX6_stow_54 rfl (lv_at hl 3 rfl) ?_
                refine lv_i2l (v := ((p3).toInt64)) hx hb dX6_stow_55 rfl ?_
                refine lv_iload hx hb dX6_stow_56 (lv_at hl 4 rfl) ?_
                refine lv_i2l (v := ((x_7).toInt64)) hx hb dX6_stow_58 rfl ?_
                refine lv_ladd hx hb dX6_stow_59 ?_
                refine lv_topl (fun x_13 ex_13 => ?_)
                have hw := hw x_13 ex_13
                refine lv_lstore (lv' := [(5, .long x_13), (0, .ref a0), (1, .int p1), (2, .int p2), (3, .int p3), (4, .int x_7)]) hx hb dX6_stow_60 hl (by decide) rfl (fun ls hl => ?_)
                refine lv_aload_n hx hb dX6_stow_62 rfl (lv_at hl 1 rfl) ?_
                refine lv_aload_n hx hb dX6_stow_63 rfl (lv_at hl 1 rfl) ?_
                refine lv_iload_n hx hb dX6_stow_64 rfl (lv_at hl 2 rfl) ?_
                refine lv_iload_n hx hb dX6_stow_65 rfl (lv_at hl 3 rfl) ?_
                refine lv_lload hx hb dX6_stow_66 (lv_at hl 0 rfl) ?_
                refine z_ri [.int p1, .int p2, .long x_13] [.ref a0] ⟨hx, hb, hml, hown, hts⟩ (kX6_foundAt l D cA a0 a_state a_readPage a_tape a_cutRow a_cutWeights a_isKept a_lanes a_lengths a_cells f_taped f_fault f_broken f_brokenAt f_spot f_here f_token f_value f_torn_8 f_state f_readPage f_tape f_cutRow f_cutWeights f_isKept f_lanes f_lengths f_cells_9 p1 p2 x_13 _ hw) (cwV 3 hts gX6_stow_X6_foundAt rfl rfl rfl vX6_foundAt ⟨Nat.le_of_ble_eq_true rfl, Nat.le_of_ble_eq_true rfl⟩) hK (hP.sub [0, 1, 2, 3, 4, 5, 6, 7, 8, 9] rfl) (va_recv hK.1 (hP.sub (ws' := [(a0, .inr (5, [.ref a_state, .ref a_readPage, .ref a_tape, .int f_taped, .int f_fault, .int f_broken, .int f_brokenAt, .int f_spot, .int f_here, .int f_token, .int f_value, .ref a_cutRow, .ref a_cutWeights, .ref a_isKept, .ref a_lanes, .ref a_lengths, .ref a_cells, .int f_torn_8]))]) [0] rfl) (ci := 5) (q0 := 0) rfl rfl) rfl hl.1 rfl (Nat.le_of_ble_eq_true rfl) dX6_stow_68 ⟨Nat.zero_le _, Nat.zero_le _⟩ (fun r_14 hw => ?_)
                refine va_put (D := D) (ci := 5) (v := .int r_14) (ty := .int) (C := RX6) (T := TX6) (N := 18) hx hb hts iwX6 tyX6 tyX6_ok nmX6 hown hK.1 hP hD hS 0 rfl rfl 17 (by decide) kf215 (fun _ h9 => h9) rfl (by decide +kernel) rfl rfl (Nat.le_of_ble_eq_true rfl) dX6_stow_71 (fun H locs hP hD hS => ?_)
                have hP : va_P D vwCl [(a0, .inr (5, [.ref a_state, .ref a_readPage, .ref a_tape, .int f_taped, .int f_fault, .int f_broken, .int f_brokenAt, .int f_spot, .int f_here, .int f_token, .int f_value, .ref a_cutRow, .ref a_cutWeights, .ref a_isKept, .ref a_lanes, .ref a_lengths, .ref a_cells, .int r_14])), (a_state, .inl (cA 0, 579, .inl f_state)), (a_readPage, .inl (cA 0, 193, .inl f_readPage)), (a_tape, .inl (cA 0, 160, .inl f_tape)), (a_cutRow, .inl (cA 0, 128, .inl f_cutRow)), (a_cutWeights, .inl (cA 0, 64, .inl f_cutWeights)), (a_isKept, .inl (cA 3, 2, .inl f_isKept)), (a_lanes, .inl (cA 0, 4, .inl f_lanes)), (a_lengths, .inl (cA 0, 4, .inl f_lengths)), (a_cells, .inl (cA 1, 160, .inr (.inl f_cells_9)))] H := hP
                have hD : va_D A [(a0, .inr (5, [.ref a_state, .ref a_readPage, .ref a_tape, .int f_taped, .int f_fault, .int f_broken, .int f_brokenAt, .int f_spot, .int f_here, .int f_token, .int f_value, .ref a_cutRow, .ref a_cutWeights, .ref a_isKept, .ref a_lanes, .ref a_lengths, .ref a_cells, .int r_14])), (a_state, .inl (cA 0, 579, .inl f_state)), (a_readPage, .inl (cA 0, 193, .inl f_readPage)), (a_tape, .inl (cA 0, 160, .inl f_tape)), (a_cutRow, .inl (cA 0, 128, .inl f_cutRow)), (a_cutWeights, .inl (cA 0, 64, .inl f_cutWeights)), (a_isKept, .inl (cA 3, 2, .inl f_isKept)), (a_lanes, .inl (cA 0, 4, .inl f_lanes)), (a_lengths, .inl (cA 0, 4, .inl f_lengths)), (a_cells, .inl (cA 1, 160, .inr (.inl f_cells_9)))] := hD
                refine lv_aload_n hx hb dX6_stow_74 rfl (lv_at hl 1 rfl) ?_
                refine va_get (D := D) (ci := 5) (v := .int r_14) (C := RX6) (T := TX6) (N := 18) hx hb hts iwX6 hown hK.1 hP 0 rfl rfl 17 (by decide) kf215 (fun _ h9 => h9) rfl dX6_stow_75 ?_
                refine lv_if_ne (tgt := 162) hx hb dX6_stow_78 (by decide) (fun c_15 => ?_) (fun c_15 => ?_)
                · have hw := hw.1 c_15
                  refine lv_goto (tgt := 38) hx hb dX6_stow_162 (by decide) ?_
                  exact ih_6 x_7 r_14 f_cells_9 _ _ ls (Nat.lt_of_lt_of_le hw.2 (Nat.le_of_lt_succ hmu_6)) hw.1 hP hD hS (lv_sub hl [1, 2, 3, 4, 5] rfl)
                · have hw := hw.2 c_15
                  refine lv_bipush (v := 40) hx hb dX6_stow_81 (by decide) ?_
                  refine lv_iload_n hx hb dX6_stow_83 rfl (lv_at hl 2 rfl) ?_
                  refine lv_imul hx hb dX6_stow_84 ?_
                  refine lv_lload hx hb dX6_stow_85 (lv_at hl 0 rfl) ?_
                  refine lv_iload_n hx hb dX6_stow_87 rfl (lv_at hl 3 rfl) ?_
                  refine z_si [.int p2] [.long x_13, .int ((40 : Int32) * p1)] ⟨hx, hb, hml, hown, hts⟩ (kX6_wide l D cA p2 _ hw) (va_cwS 1 hts gX6_stow_X6_wide rfl rfl rfl vX6_wide ⟨Nat.le_of_ble_eq_true rfl, Nat.le_of_ble_eq_true rfl⟩) hK z_p0 rfl hl.1 rfl (Nat.le_of_ble_eq_true rfl) dX6_stow_88 ⟨Nat.zero_le _, Nat.zero_le _⟩ (fun r_16 hw => ?_)
                  refine lv_i2l (v := ((r_16).toInt64)) hx hb dX6_stow_91 rfl ?_
                  have hq := hw.1
                  have hw := hw.2
                  refine lv_ldiv hx hb dX6_stow_92 hq ?_
                  refine lv_l2i (v := (((x_13 / ((r_16).toInt64))).toInt32)) hx hb dX6_stow_93 rfl ?_
                  refine lv_iadd hx hb dX6_stow_94 ?_
                  refine lv_topi (fun x_17 ex_17 => ?_)
                  have hw := hw x_17 ex_17
                  refine lv_istore (lv' := [(7, .int x_17), (5, .long x_13), (0, .ref a0), (1, .int p1), (2, .int p2), (3, .int p3), (4, .int x_7)]) hx hb dX6_stow_95 hl (by decide) rfl (fun ls hl => ?_)
                  refine lv_lconst (v := 1) hx hb dX6_stow_97 (by decide) ?_
                  refine lv_lload hx hb dX6_stow_98 (lv_at hl 1 rfl) ?_
                  refine lv_iload_n hx hb dX6_stow_100 rfl (lv_at hl 4 rfl) ?_
                  refine z_si [.int p2] [.long x_13, .long (1 : Int64)] ⟨hx, hb, hml, hown, hts⟩ (kX6_wide l D cA p2 _ hw) (va_cwS 1 hts gX6_stow_X6_wide rfl rfl rfl vX6_wide ⟨Nat.le_of_ble_eq_true rfl, Nat.le_of_ble_eq_true rfl⟩) hK z_p0 rfl hl.1 rfl (Nat.le_of_ble_eq_true rfl) dX6_stow_101 ⟨Nat.zero_le _, Nat.zero_le _⟩ (fun r_18 hw => ?_)
                  refine lv_i2l (v := ((r_18).toInt64)) hx hb dX6_stow_104 rfl ?_
                  have hq := hw.1
                  have hw := hw.2
                  refine lv_lrem hx hb dX6_stow_105 hq ?_
                  refine lv_l2i (v := (((x_13 - x_13 / ((r_18).toInt64) * ((r_18).toInt64))).toInt32)) hx hb dX6_stow_106 rfl ?_
                  refine lv_lshl (v := (zlshl (1 : Int64) (((x_13 - x_13 / ((r_18).toInt64) * ((r_18).toInt64))).toInt32))) hx hb dX6_stow_107 rfl ?_
                  refine lv_topl (fun x_19 ex_19 => ?_)
                  have hw := hw x_19 ex_19
                  refine lv_lstore (lv' := [(8, .long x_19), (7, .int x_17), (5, .long x_13), (0, .ref a0), (1, .int p1), (2, .int p2), (3, .int p3), (4, .int x_7)]) hx hb dX6_stow_108 hl (by decide) rfl (fun ls hl => ?_)
                  refine lv_aload_n hx hb dX6_stow_110 rfl (lv_at hl 3 rfl) ?_
                  refine va_get (D := D) (ci := 5) (v := .ref a_cells) (C := RX6) (T := TX6) (N := 18) hx hb hts iwX6 hown hK.1 hP 0 rfl rfl 16 (by decide) kf35 (fun _ h9 => h9) rfl dX6_stow_111 ?_
                  refine lv_iload hx hb dX6_stow_114 (lv_at hl 1 rfl) ?_
                  refine lv_iload_n hx hb dX6_stow_116 rfl (lv_at hl 5 rfl) ?_
                  refine lv_aload_n hx hb dX6_stow_117 rfl (lv_at hl 3 rfl) ?_
                  refine va_get (D := D) (ci := 5) (v := .ref a_state) (C := RX6) (T := TX6) (N := 18) hx hb hts iwX6 hown hK.1 hP 0 rfl rfl 0 (by decide) kf7 (fun _ h9 => h9) rfl dX6_stow_118 ?_
                  refine lv_iload hx hb dX6_stow_121 (lv_at hl 7 rfl) ?_
                  have hq := hw.1
                  have hw := hw.2
                  refine va_iald hx hb hK.1 hP 1 0 rfl rfl hq dX6_stow_123 ?_
                  refine lv_iconst (v := 1) hx hb dX6_stow_124 (by decide) ?_
                  refine lv_icmp_ne (tgt := 141) hx hb dX6_stow_125 (by decide) (fun c_20 => ?_) (fun c_20 => ?_)
                  · have hw := hw.1 c_20
                    refine lv_aload_n hx hb dX6_stow_141 rfl (lv_at hl 3 rfl) ?_
                    refine va_get (D := D) (ci := 5) (v := .ref a_cells) (C := RX6) (T := TX6) (N := 18) hx hb hts iwX6 hown hK.1 hP 0 rfl rfl 16 (by decide) kf35 (fun _ h9 => h9) rfl dX6_stow_142 ?_
                    refine lv_iload hx hb dX6_stow_145 (lv_at hl 1 rfl) ?_
                    have hq := hw.1
                    have hw := hw.2
                    refine va_lald hx hb hK.1 hP 9 1 rfl rfl hq dX6_stow_147 ?_
                    refine lv_lload hx hb dX6_stow_148 (lv_at hl 0 rfl) ?_
                    refine lv_ldc2 (v := -1) hx hb hown kl218 dX6_stow_150 ?_
                    refine lv_lxor hx hb dX6_stow_153 ?_
                    refine lv_land hx hb dX6_stow_154 ?_
                    refine z_sl [.int p2, .long ((f_cells_9 x_17.toNatClampNeg) &&& (x_19 ^^^ (-1 : Int64)))] [.int x_17, .ref a_cells] ⟨hx, hb, hml, hown, hts⟩ (kX6_narrowed l D cA p2 ((f_cells_9 x_17.toNatClampNeg) &&& (x_19 ^^^ (-1 : Int64))) _ hw) (va_cwS 2 hts gX6_stow_X6_narrowed rfl rfl rfl vX6_narrowed ⟨Nat.le_of_ble_eq_true rfl, Nat.le_of_ble_eq_true rfl⟩) hK z_p0 rfl hl.1 rfl (Nat.le_of_ble_eq_true rfl) dX6_stow_155 ⟨Nat.zero_le _, Nat.zero_le _⟩ (fun r_21 hw => ?_)
                    have hq := hw.1
                    have hw := hw.2
                    refine va_last hx hb hK.1 hP hD hS 9 1 rfl rfl hq dX6_stow_158 (fun H locs hP hD hS => ?_)
                    have hP : va_P D vwCl [(a0, .inr (5, [.ref a_state, .ref a_readPage, .ref a_tape, .int f_taped, .int f_fault, .int f_broken, .int f_brokenAt, .int f_spot, .int f_here, .int f_token, .int f_value, .ref a_cutRow, .ref a_cutWeights, .ref a_isKept, .ref a_lanes, .ref a_lengths, .ref a_cells, .int r_14])), (a_state, .inl (cA 0, 579, .inl f_state)), (a_readPage, .inl (cA 0, 193, .inl f_readPage)), (a_tape, .inl (cA 0, 160, .inl f_tape)), (a_cutRow, .inl (cA 0, 128, .inl f_cutRow)), (a_cutWeights, .inl (cA 0, 64, .inl f_cutWeights)), (a_isKept, .inl (cA 3, 2, .inl f_isKept)), (a_lanes, .inl (cA 0, 4, .inl f_lanes)), (a_lengths, .inl (cA 0, 4, .inl f_lengths)), (a_cells, .inl (cA 1, 160, .inr (.inl (vp_updL f_cells_9 x_17.toNatClampNeg r_21))))] H := hP
                    have hD : va_D A [(a0, .inr (5, [.ref a_state, .ref a_readPage, .ref a_tape, .int f_taped, .int f_fault, .int f_broken, .int f_brokenAt, .int f_spot, .int f_here, .int f_token, .int f_value, .ref a_cutRow, .ref a_cutWeights, .ref a_isKept, .ref a_lanes, .ref a_lengths, .ref a_cells, .int r_14])), (a_state, .inl (cA 0, 579, .inl f_state)), (a_readPage, .inl (cA 0, 193, .inl f_readPage)), (a_tape, .inl (cA 0, 160, .inl f_tape)), (a_cutRow, .inl (cA 0, 128, .inl f_cutRow)), (a_cutWeights, .inl (cA 0, 64, .inl f_cutWeights)), (a_isKept, .inl (cA 3, 2, .inl f_isKept)), (a_lanes, .inl (cA 0, 4, .inl f_lanes)), (a_lengths, .inl (cA 0, 4, .inl f_lengths)), (a_cells, .inl (cA 1, 160, .inr (.inl (vp_updL f_cells_9 x_17.toNatClampNeg r_21))))] := hD
                    obtain ⟨x_22, ex_22⟩ : ∃ y : Int32, y = x_7 + (1) := ⟨_, rfl⟩
                    have hw := hw x_22 ex_22
                    refine lv_iinc (v := x_22) (lv' := [(4, .int x_22), (8, .long x_19), (7, .int x_17), (5, .long x_13), (0, .ref a0), (1, .int p1), (2, .int p2), (3, .int p3)]) hx hb dX6_stow_159 hl (k := 7) rfl (by rw [ex_22]; rfl) (by decide) rfl (fun ls hl => ?_)
                    refine lv_goto (tgt := 38) hx hb dX6_stow_162 (by decide) ?_
                    exact ih_6 x_22 r_14 (vp_updL f_cells_9 x_17.toNatClampNeg r_21) _ _ ls (Nat.lt_of_lt_of_le hw.2 (Nat.le_of_lt_succ hmu_6)) hw.1 hP hD hS (lv_sub hl [4, 5, 6, 7, 0] rfl)
                  · have hw := hw.2 c_20
                    refine lv_aload_n hx hb dX6_stow_128 rfl (lv_at hl 3 rfl) ?_
                    refine va_get (D := D) (ci := 5) (v := .ref a_cells) (C := RX6) (T := TX6) (N := 18) hx hb hts iwX6 hown hK.1 hP 0 rfl rfl 16 (by decide) kf35 (fun _ h9 => h9) rfl dX6_stow_129 ?_
                    refine lv_iload hx hb dX6_stow_132 (lv_at hl 1 rfl) ?_
                    have hq := hw.1
                    have hw := hw.2
                    refine va_lald hx hb hK.1 hP 9 1 rfl rfl hq dX6_stow_134 ?_
                    refine lv_lload hx hb dX6_stow_135 (lv_at hl 0 rfl) ?_
                    refine lv_lor hx hb dX6_stow_137 ?_
                    refine lv_goto (tgt := 155) hx hb dX6_stow_138 (by decide) ?_
                    refine z_sl [.int p2, .long ((f_cells_9 x_17.toNatClampNeg) ||| x_19)] [.int x_17, .ref a_cells] ⟨hx, hb, hml, hown, hts⟩ (kX6_narrowed l D cA p2 ((f_cells_9 x_17.toNatClampNeg) ||| x_19) _ hw) (va_cwS 2 hts gX6_stow_X6_narrowed rfl rfl rfl vX6_narrowed ⟨Nat.le_of_ble_eq_true rfl, Nat.le_of_ble_eq_true rfl⟩) hK z_p0 rfl hl.1 rfl (Nat.le_of_ble_eq_true rfl) dX6_stow_155 ⟨Nat.zero_le _, Nat.zero_le _⟩ (fun r_23 hw => ?_)
                    have hq := hw.1
                    have hw := hw.2
                    refine va_last hx hb hK.1 hP hD hS 9 1 rfl rfl hq dX6_stow_158 (fun H locs hP hD hS => ?_)
                    have hP : va_P D vwCl [(a0, .inr (5, [.ref a_state, .ref a_readPage, .ref a_tape, .int f_taped, .int f_fault, .int f_broken, .int f_brokenAt, .int f_spot, .int f_here, .int f_token, .int f_value, .ref a_cutRow, .ref a_cutWeights, .ref a_isKept, .ref a_lanes, .ref a_lengths, .ref a_cells, .int r_14])), (a_state, .inl (cA 0, 579, .inl f_state)), (a_readPage, .inl (cA 0, 193, .inl f_readPage)), (a_tape, .inl (cA 0, 160, .inl f_tape)), (a_cutRow, .inl (cA 0, 128, .inl f_cutRow)), (a_cutWeights, .inl (cA 0, 64, .inl f_cutWeights)), (a_isKept, .inl (cA 3, 2, .inl f_isKept)), (a_lanes, .inl (cA 0, 4, .inl f_lanes)), (a_lengths, .inl (cA 0, 4, .inl f_lengths)), (a_cells, .inl (cA 1, 160, .inr (.inl (vp_updL f_cells_9 x_17.toNatClampNeg r_23))))] H := hP
                    have hD : va_D A [(a0, .inr (5, [.ref a_state, .ref a_readPage, .ref a_tape, .int f_taped, .int f_fault, .int f_broken, .int f_brokenAt, .int f_spot, .int f_here, .int f_token, .int f_value, .ref a_cutRow, .ref a_cutWeights, .ref a_isKept, .ref a_lanes, .ref a_lengths, .ref a_cells, .int r_14])), (a_state, .inl (cA 0, 579, .inl f_state)), (a_readPage, .inl (cA 0, 193, .inl f_readPage)), (a_tape, .inl (cA 0, 160, .inl f_tape)), (a_cutRow, .inl (cA 0, 128, .inl f_cutRow)), (a_cutWeights, .inl (cA 0, 64, .inl f_cutWeights)), (a_isKept, .inl (cA 3, 2, .inl f_isKept)), (a_lanes, .inl (cA 0, 4, .inl f_lanes)), (a_lengths, .inl (cA 0, 4, .inl f_lengths)), (a_cells, .inl (cA 1, 160, .inr (.inl (vp_updL f_cells_9 x_17.toNatClampNeg r_23))))] := hD
                    obtain ⟨x_24, ex_24⟩ : ∃ y : Int32, y = x_7 + (1) := ⟨_, rfl⟩
                    have hw := hw x_24 ex_24
                    refine lv_iinc (v := x_24) (lv' := [(4, .int x_24), (8, .long x_19), (7, .int x_17), (5, .long x_13), (0, .ref a0), (1, .int p1), (2, .int p2), (3, .int p3)]) hx hb dX6_stow_159 hl (k := 7) rfl (by rw [ex_24]; rfl) (by decide) rfl (fun ls hl => ?_)
                    refine lv_goto (tgt := 38) hx hb dX6_stow_162 (by decide) ?_
                    exact ih_6 x_24 r_14 (vp_updL f_cells_9 x_17.toNatClampNeg r_23) _ _ ls (Nat.lt_of_lt_of_le hw.2 (Nat.le_of_lt_succ hmu_6)) hw.1 hP hD hS (lv_sub hl [4, 5, 6, 7, 0] rfl)
        exact lp_6 (mu_6 (0 : Int32) (0 : Int32) f_cells + 1) (0 : Int32) (0 : Int32) f_cells _ _ ls (Nat.lt_succ_self _) hI_6 hP hD hS (lv_sub hl [1, 2, 3, 4, 0] rfl)
      · have hw := hw.2 c_5
        refine lv_iconst (v := -1) hx hb dX6_stow_28 (by decide) ?_
        exact z_iretw (f_torn, f_cells) hx hb hr hlk hw hP hD hS dX6_stow_29
def wX6_torn (f_torn : Int32)  (post : Int32 → Prop) : Prop := post f_torn
abbrev rX6_torn : Room := { frames := 0, cells := 0, slots := 0, locals := 0 }
theorem vX6_torn : yX6_torn.cls = RX6 ∧ yX6_torn.cls ≠ "java/lang/invoke/MethodHandle" ∧ yX6_torn.cls ≠ "java/lang/invoke/VarHandle" ∧ (parseMethodDescriptor yX6_torn.desc).map (fun d => d.parameters.length) = some 0 := by decide +kernel
set_option maxHeartbeats 4000000 in
set_option maxRecDepth 100000 in
theorem kX6_torn (l : Launch) (D : va_G) (cA : Nat → ClassId) (a0 a_state a_readPage a_tape a_cutRow a_cutWeights a_isKept a_lanes a_lengths a_cells : Nat) (f_taped : Int32) (f_fault : Int32) (f_broken : Int32) (f_brokenAt : Int32) (f_spot : Int32) (f_here : Int32) (f_token : Int32) (f_value : Int32) (f_torn : Int32) (f_state : Nat → Int32) (f_readPage : Nat → Int32) (f_tape : Nat → Int32) (f_cutRow : Nat → Int32) (f_cutWeights : Nat → Int32) (f_isKept : Nat → Int32) (f_lanes : Nat → Int32) (f_lengths : Nat → Int32) (f_cells : Nat → Int64)  (post : Int32 → Prop) (h : wX6_torn f_torn post) : Met l yX6_torn wsX6_torn rX6_torn (zPr D cA [.ref a0] [(a0, .inr (5, [.ref a_state, .ref a_readPage, .ref a_tape, .int f_taped, .int f_fault, .int f_broken, .int f_brokenAt, .int f_spot, .int f_here, .int f_token, .int f_value, .ref a_cutRow, .ref a_cutWeights, .ref a_isKept, .ref a_lanes, .ref a_lengths, .ref a_cells, .int f_torn])), (a_state, .inl (cA 0, 579, .inl f_state)), (a_readPage, .inl (cA 0, 193, .inl f_readPage)), (a_tape, .inl (cA 0, 160, .inl f_tape)), (a_cutRow, .inl (cA 0, 128, .inl f_cutRow)), (a_cutWeights, .inl (cA 0, 64, .inl f_cutWeights)), (a_isKept, .inl (cA 3, 2, .inl f_isKept)), (a_lanes, .inl (cA 0, 4, .inl f_lanes)), (a_lengths, .inl (cA 0, 4, .inl f_lengths)), (a_cells, .inl (cA 1, 160, .inr (.inl f_cells)))]) (vp_Si post) 0 0 (fun _ => False) := by
  refine z_ro (cc := cX6_torn) (maxL := 1) (ret := (some .int)) (by decide) rfl (Nat.le_of_ble_eq_true rfl) ?_
  intro p e s m args below meth c ls hx hb hr hlk hml hown hts hK hP hl
  have hown : s.vm.findClass RX6 = some m.cls := hown
  have hl : lv_has ls 1 [(0, .ref a0)] := hl
  have hw := h
  unfold wX6_torn at hw
  have iwX6 : ∀ w ∈ wsX60, w ∈ wsX6_torn := fun w h9 => List.mem_cons_of_mem _ (List.mem_append_right _ h9)
  have kf215 := hts (.fieldLink RX6 215 "ExcessTreeModel" "torn" "I") (by decide +kernel)
  refine lv_aload_n hx hb dX6_torn_0 rfl (lv_at hl 0 rfl) ?_
  refine va_get (D := D) (ci := 5) (v := .int f_torn) (C := RX6) (T := TX6) (N := 18) hx hb hts iwX6 hown hK.1 hP 0 rfl rfl 17 (by decide) kf215 (fun _ h9 => h9) rfl dX6_torn_1 ?_
  exact z_iret hx hb hr hlk hw dX6_torn_4
def wX6_count (f_taped : Int32) (f_state : Nat → Int32) (f_isKept : Nat → Int32) (f_lanes : Nat → Int32) (f_lengths : Nat → Int32) (p1 : Int32) (post : Int32 → Prop) : Prop := (∃ (I_1 : Int32 → Int32 → Prop) (mu_1 : Int32 → Int32 → Nat), I_1 (0 : Int32) (1 : Int32) ∧ ∀ (x_2 : Int32) (x_3 : Int32), I_1 x_2 x_3 → (wX6_places f_state (fun r_4 : Int32 => (((r_4 ≤ x_3 → ((p1 = 0 → (vp_in (0 : Int32) 2 ∧ (((f_isKept (0 : Int32).toNatClampNeg) = 0 → (vp_in (1 : Int32) 2 ∧ (((f_isKept (1 : Int32).toNatClampNeg) = 0 → post ((0 : Int32) + (0 : Int32))) ∧ (¬ (f_isKept (1 : Int32).toNatClampNeg) = 0 → post ((0 : Int32) + (1 : Int32)))))) ∧ (¬ (f_isKept (0 : Int32).toNatClampNeg) = 0 → (vp_in (1 : Int32) 2 ∧ (((f_isKept (1 : Int32).toNatClampNeg) = 0 → post ((1 : Int32) + (0 : Int32))) ∧ (¬ (f_isKept (1 : Int32).toNatClampNeg) = 0 → post ((1 : Int32) + (1 : Int32))))))))) ∧ (p1 = 1 → post f_taped) ∧ (p1 = 2 → (vp_in (0 : Int32) 4 ∧ ((¬ (f_lanes (0 : Int32).toNatClampNeg) = (-4 : Int32) → (vp_in (0 : Int32) 4 ∧ post (f_lengths (0 : Int32).toNatClampNeg))) ∧ ((f_lanes (0 : Int32).toNatClampNeg) = (-4 : Int32) → post (-4 : Int32))))) ∧ (p1 = 3 → post x_2) ∧ (¬ p1 = 0 → ¬ p1 = 1 → ¬ p1 = 2 → ¬ p1 = 3 → post (-1 : Int32)))) ∧ (¬ r_4 ≤ x_3 → (vp_in x_3 579 ∧ (∀ x_14 : Int32, x_14 = (x_2 + (f_state x_3.toNatClampNeg)) → (∀ x_15 : Int32, x_15 = x_3 + (2) → (I_1 x_14 x_15 ∧ mu_1 x_14 x_15 < mu_1 x_2 x_3))))))))))
abbrev rX6_count : Room := { frames := 1, cells := 0, slots := 0, locals := 20 }
theorem vX6_count : yX6_count.cls = RX6 ∧ yX6_count.cls ≠ "java/lang/invoke/MethodHandle" ∧ yX6_count.cls ≠ "java/lang/invoke/VarHandle" ∧ (parseMethodDescriptor yX6_count.desc).map (fun d => d.parameters.length) = some 1 := by decide +kernel
set_option maxHeartbeats 4000000 in
set_option maxRecDepth 100000 in
theorem kX6_count (l : Launch) (D : va_G) (cA : Nat → ClassId) (a0 a_state a_readPage a_tape a_cutRow a_cutWeights a_isKept a_lanes a_lengths a_cells : Nat) (f_taped : Int32) (f_fault : Int32) (f_broken : Int32) (f_brokenAt : Int32) (f_spot : Int32) (f_here : Int32) (f_token : Int32) (f_value : Int32) (f_torn : Int32) (f_state : Nat → Int32) (f_readPage : Nat → Int32) (f_tape : Nat → Int32) (f_cutRow : Nat → Int32) (f_cutWeights : Nat → Int32) (f_isKept : Nat → Int32) (f_lanes : Nat → Int32) (f_lengths : Nat → Int32) (f_cells : Nat → Int64) (p1 : Int32) (post : Int32 → Prop) (h : wX6_count f_taped f_state f_isKept f_lanes f_lengths p1 post) : Met l yX6_count wsX6_count rX6_count (zPr D cA [.ref a0, .int p1] [(a0, .inr (5, [.ref a_state, .ref a_readPage, .ref a_tape, .int f_taped, .int f_fault, .int f_broken, .int f_brokenAt, .int f_spot, .int f_here, .int f_token, .int f_value, .ref a_cutRow, .ref a_cutWeights, .ref a_isKept, .ref a_lanes, .ref a_lengths, .ref a_cells, .int f_torn])), (a_state, .inl (cA 0, 579, .inl f_state)), (a_readPage, .inl (cA 0, 193, .inl f_readPage)), (a_tape, .inl (cA 0, 160, .inl f_tape)), (a_cutRow, .inl (cA 0, 128, .inl f_cutRow)), (a_cutWeights, .inl (cA 0, 64, .inl f_cutWeights)), (a_isKept, .inl (cA 3, 2, .inl f_isKept)), (a_lanes, .inl (cA 0, 4, .inl f_lanes)), (a_lengths, .inl (cA 0, 4, .inl f_lengths)), (a_cells, .inl (cA 1, 160, .inr (.inl f_cells)))]) (vp_Si post) 0 0 (fun _ => False) := by
  refine z_ro (cc := cX6_count) (maxL := 4) (ret := (some .int)) (by decide) rfl (Nat.le_of_ble_eq_true rfl) ?_
  intro p e s m args below meth c ls hx hb hr hlk hml hown hts hK hP hl
  have hown : s.vm.findClass RX6 = some m.cls := hown
  have hl : lv_has ls 4 [(0, .ref a0), (1, .int p1)] := hl
  have hw := h
  unfold wX6_count at hw
  have iwX6 : ∀ w ∈ wsX60, w ∈ wsX6_count := fun w h9 => List.mem_cons_of_mem _ (List.mem_append_right _ h9)
  have kf25 := hts (.fieldLink RX6 25 "ExcessTreeModel" "isKept" "[Z") (by decide +kernel)
  have kf45 := hts (.fieldLink RX6 45 "ExcessTreeModel" "taped" "I") (by decide +kernel)
  have kf29 := hts (.fieldLink RX6 29 "ExcessTreeModel" "lanes" "[I") (by decide +kernel)
  have kf32 := hts (.fieldLink RX6 32 "ExcessTreeModel" "lengths" "[I") (by decide +kernel)
  have kf7 := hts (.fieldLink RX6 7 "ExcessTreeModel" "state" "[I") (by decide +kernel)
  refine lv_iconst (v := 0) hx hb dX6_count_0 (by decide) ?_
  refine lv_istore_n (lv' := [(2, .int (0 : Int32)), (0, .ref a0), (1, .int p1)]) hx hb dX6_count_1 rfl hl (by decide) rfl (fun ls hl => ?_)
  refine lv_iconst (v := 1) hx hb dX6_count_2 (by decide) ?_
  refine lv_istore_n (lv' := [(3, .int (1 : Int32)), (2, .int (0 : Int32)), (0, .ref a0), (1, .int p1)]) hx hb dX6_count_3 rfl hl (by decide) rfl (fun ls hl => ?_)
  obtain ⟨I_1, mu_1, hI_1, hw⟩ := hw
  have lp_1 : ∀ (nn : Nat) (x_2 : Int32) (x_3 : Int32) (ls : Array Slot), mu_1 x_2 x_3 < nn → I_1 x_2 x_3 → lv_has ls 4 [(0, .ref a0), (1, .int p1), (2, .int x_2), (3, .int x_3)] → W p l e rX6_count s m args below meth c s.heap [] 0 0 (MQ below (vp_Si post) args s 0 0 (fun _ => False)) (F0 m 4 ls []) := by
    intro nn
    induction nn with
    | zero => exact fun _ _ _ h0 => absurd h0 (Nat.not_lt_zero _)
    | succ nn ih_1 =>
      intro x_2 x_3 ls hmu_1 hI_1 hl
      have hw := hw x_2 x_3 hI_1
      refine lv_iload_n hx hb dX6_count_4 rfl (lv_at hl 3 rfl) ?_
      refine lv_aload_n hx hb dX6_count_5 rfl (lv_at hl 0 rfl) ?_
      refine z_ri [] [.int x_3] ⟨hx, hb, hml, hown, hts⟩ (kX6_places l D cA a0 a_state a_readPage a_tape a_cutRow a_cutWeights a_isKept a_lanes a_lengths a_cells f_taped f_fault f_broken f_brokenAt f_spot f_here f_token f_value f_torn f_state f_readPage f_tape f_cutRow f_cutWeights f_isKept f_lanes f_lengths f_cells _ hw) (cwV 0 hts gX6_count_X6_places rfl rfl rfl vX6_places ⟨Nat.le_of_ble_eq_true rfl, Nat.le_of_ble_eq_true rfl⟩) hK (hP.sub [0, 1, 2, 3, 4, 5, 6, 7, 8, 9] rfl) (va_recv hK.1 (hP.sub (ws' := [(a0, .inr (5, [.ref a_state, .ref a_readPage, .ref a_tape, .int f_taped, .int f_fault, .int f_broken, .int f_brokenAt, .int f_spot, .int f_here, .int f_token, .int f_value, .ref a_cutRow, .ref a_cutWeights, .ref a_isKept, .ref a_lanes, .ref a_lengths, .ref a_cells, .int f_torn]))]) [0] rfl) (ci := 5) (q0 := 0) rfl rfl) rfl hl.1 rfl (Nat.le_of_ble_eq_true rfl) dX6_count_6 ⟨Nat.zero_le _, Nat.zero_le _⟩ (fun r_4 hw => ?_)
      refine lv_icmp_ge (tgt := 27) hx hb dX6_count_9 (by decide) (fun c_5 => ?_) (fun c_5 => ?_)
      · have hw := hw.1 c_5
        refine lv_iload_n hx hb dX6_count_27 rfl (lv_at hl 1 rfl) ?_
        by_cases c_6 : p1 = 0
        · have hw := hw.1 c_6
          refine lv_tableIn (tgt := 60) (off := 32) hx hb dX6_count_28 (by rw [c_6]; decide) (by rw [c_6]; decide) (by rw [c_6]; decide) (by decide) ?_
          refine lv_aload_n hx hb dX6_count_60 rfl (lv_at hl 0 rfl) ?_
          refine va_get (D := D) (ci := 5) (v := .ref a_isKept) (C := RX6) (T := TX6) (N := 18) hx hb hts iwX6 hown hK.1 hP 0 rfl rfl 13 (by decide) kf25 (fun _ h9 => h9) rfl dX6_count_61 ?_
          refine lv_iconst (v := 0) hx hb dX6_count_64 (by decide) ?_
          have hq := hw.1
          have hw := hw.2
          refine va_zald hx hb hK.1 hP 6 3 rfl rfl hq dX6_count_65 ?_
          refine lv_if_eq (tgt := 73) hx hb dX6_count_66 (by decide) (fun c_7 => ?_) (fun c_7 => ?_)
          · have hw := hw.1 c_7
            refine lv_iconst (v := 0) hx hb dX6_count_73 (by decide) ?_
            refine lv_aload_n hx hb dX6_count_74 rfl (lv_at hl 0 rfl) ?_
            refine va_get (D := D) (ci := 5) (v := .ref a_isKept) (C := RX6) (T := TX6) (N := 18) hx hb hts iwX6 hown hK.1 hP 0 rfl rfl 13 (by decide) kf25 (fun _ h9 => h9) rfl dX6_count_75 ?_
            refine lv_iconst (v := 1) hx hb dX6_count_78 (by decide) ?_
            have hq := hw.1
            have hw := hw.2
            refine va_zald hx hb hK.1 hP 6 3 rfl rfl hq dX6_count_79 ?_
            refine lv_if_eq (tgt := 87) hx hb dX6_count_80 (by decide) (fun c_8 => ?_) (fun c_8 => ?_)
            · have hw := hw.1 c_8
              refine lv_iconst (v := 0) hx hb dX6_count_87 (by decide) ?_
              refine lv_iadd hx hb dX6_count_88 ?_
              exact z_iret hx hb hr hlk hw dX6_count_89
            · have hw := hw.2 c_8
              refine lv_iconst (v := 1) hx hb dX6_count_83 (by decide) ?_
              refine lv_goto (tgt := 88) hx hb dX6_count_84 (by decide) ?_
              refine lv_iadd hx hb dX6_count_88 ?_
              exact z_iret hx hb hr hlk hw dX6_count_89
          · have hw := hw.2 c_7
            refine lv_iconst (v := 1) hx hb dX6_count_69 (by decide) ?_
            refine lv_goto (tgt := 74) hx hb dX6_count_70 (by decide) ?_
            refine lv_aload_n hx hb dX6_count_74 rfl (lv_at hl 0 rfl) ?_
            refine va_get (D := D) (ci := 5) (v := .ref a_isKept) (C := RX6) (T := TX6) (N := 18) hx hb hts iwX6 hown hK.1 hP 0 rfl rfl 13 (by decide) kf25 (fun _ h9 => h9) rfl dX6_count_75 ?_
            refine lv_iconst (v := 1) hx hb dX6_count_78 (by decide) ?_
            have hq := hw.1
            have hw := hw.2
            refine va_zald hx hb hK.1 hP 6 3 rfl rfl hq dX6_count_79 ?_
            refine lv_if_eq (tgt := 87) hx hb dX6_count_80 (by decide) (fun c_9 => ?_) (fun c_9 => ?_)
            · have hw := hw.1 c_9
              refine lv_iconst (v := 0) hx hb dX6_count_87 (by decide) ?_
              refine lv_iadd hx hb dX6_count_88 ?_
              exact z_iret hx hb hr hlk hw dX6_count_89
            · have hw := hw.2 c_9
              refine lv_iconst (v := 1) hx hb dX6_count_83 (by decide) ?_
              refine lv_goto (tgt := 88) hx hb dX6_count_84 (by decide) ?_
              refine lv_iadd hx hb dX6_count_88 ?_
              exact z_iret hx hb hr hlk hw dX6_count_89
        by_cases c_10 : p1 = 1
        · have hw := hw.2.1 c_10
          refine lv_tableIn (tgt := 90) (off := 62) hx hb dX6_count_28 (by rw [c_10]; decide) (by rw [c_10]; decide) (by rw [c_10]; decide) (by decide) ?_
          refine lv_aload_n hx hb dX6_count_90 rfl (lv_at hl 0 rfl) ?_
          refine va_get (D := D) (ci := 5) (v := .int f_taped) (C := RX6) (T := TX6) (N := 18) hx hb hts iwX6 hown hK.1 hP 0 rfl rfl 3 (by decide) kf45 (fun _ h9 => h9) rfl dX6_count_91 ?_
          exact z_iret hx hb hr hlk hw dX6_count_94
        by_cases c_11 : p1 = 2
        · have hw := hw.2.2.1 c_11
          refine lv_tableIn (tgt := 95) (off := 67) hx hb dX6_count_28 (by rw [c_11]; decide) (by rw [c_11]; decide) (by rw [c_11]; decide) (by decide) ?_
          refine lv_aload_n hx hb dX6_count_95 rfl (lv_at hl 0 rfl) ?_
          refine va_get (D := D) (ci := 5) (v := .ref a_lanes) (C := RX6) (T := TX6) (N := 18) hx hb hts iwX6 hown hK.1 hP 0 rfl rfl 14 (by decide) kf29 (fun _ h9 => h9) rfl dX6_count_96 ?_
          refine lv_iconst (v := 0) hx hb dX6_count_99 (by decide) ?_
          have hq := hw.1
          have hw := hw.2
          refine va_iald hx hb hK.1 hP 7 0 rfl rfl hq dX6_count_100 ?_
          refine lv_bipush (v := -4) hx hb dX6_count_101 (by decide) ?_
          refine lv_icmp_ne (tgt := 111) hx hb dX6_count_103 (by decide) (fun c_12 => ?_) (fun c_12 => ?_)
          · have hw := hw.1 c_12
            refine lv_aload_n hx hb dX6_count_111 rfl (lv_at hl 0 rfl) ?_
            refine va_get (D := D) (ci := 5) (v := .ref a_lengths) (C := RX6) (T := TX6) (N := 18) hx hb hts iwX6 hown hK.1 hP 0 rfl rfl 15 (by decide) kf32 (fun _ h9 => h9) rfl dX6_count_112 ?_
            refine lv_iconst (v := 0) hx hb dX6_count_115 (by decide) ?_
            have hq := hw.1
            have hw := hw.2
            refine va_iald hx hb hK.1 hP 8 0 rfl rfl hq dX6_count_116 ?_
            exact z_iret hx hb hr hlk hw dX6_count_117
          · have hw := hw.2 c_12
            refine lv_bipush (v := -4) hx hb dX6_count_106 (by decide) ?_
            refine lv_goto (tgt := 117) hx hb dX6_count_108 (by decide) ?_
            exact z_iret hx hb hr hlk hw dX6_count_117
        by_cases c_13 : p1 = 3
        · have hw := hw.2.2.2.1 c_13
          refine lv_tableIn (tgt := 118) (off := 90) hx hb dX6_count_28 (by rw [c_13]; decide) (by rw [c_13]; decide) (by rw [c_13]; decide) (by decide) ?_
          refine lv_iload_n hx hb dX6_count_118 rfl (lv_at hl 2 rfl) ?_
          exact z_iret hx hb hr hlk hw dX6_count_119
        have hw := hw.2.2.2.2 c_6 c_10 c_11 c_13
        refine lv_tableOut (tgt := 120) hx hb dX6_count_28 (by have q0 := lv_neT c_6 (a := 0) (by decide); have q1 := lv_neT c_10 (a := 1) (by decide); have q2 := lv_neT c_11 (a := 2) (by decide); have q3 := lv_neT c_13 (a := 3) (by decide); omega) (by decide) ?_
        refine lv_iconst (v := -1) hx hb dX6_count_120 (by decide) ?_
        exact z_iret hx hb hr hlk hw dX6_count_121
      · have hw := hw.2 c_5
        refine lv_iload_n hx hb dX6_count_12 rfl (lv_at hl 2 rfl) ?_
        refine lv_aload_n hx hb dX6_count_13 rfl (lv_at hl 0 rfl) ?_
        refine va_get (D := D) (ci := 5) (v := .ref a_state) (C := RX6) (T := TX6) (N := 18) hx hb hts iwX6 hown hK.1 hP 0 rfl rfl 0 (by decide) kf7 (fun _ h9 => h9) rfl dX6_count_14 ?_
        refine lv_iload_n hx hb dX6_count_17 rfl (lv_at hl 3 rfl) ?_
        have hq := hw.1
        have hw := hw.2
        refine va_iald hx hb hK.1 hP 1 0 rfl rfl hq dX6_count_18 ?_
        refine lv_iadd hx hb dX6_count_19 ?_
        refine lv_topi (fun x_14 ex_14 => ?_)
        have hw := hw x_14 ex_14
        refine lv_istore_n (lv' := [(2, .int x_14), (0, .ref a0), (1, .int p1), (3, .int x_3)]) hx hb dX6_count_20 rfl hl (by decide) rfl (fun ls hl => ?_)
        obtain ⟨x_15, ex_15⟩ : ∃ y : Int32, y = x_3 + (2) := ⟨_, rfl⟩
        have hw := hw x_15 ex_15
        refine lv_iinc (v := x_15) (lv' := [(3, .int x_15), (2, .int x_14), (0, .ref a0), (1, .int p1)]) hx hb dX6_count_21 hl (k := 3) rfl (by rw [ex_15]; rfl) (by decide) rfl (fun ls hl => ?_)
        refine lv_goto (tgt := 4) hx hb dX6_count_24 (by decide) ?_
        exact ih_1 x_14 x_15 ls (Nat.lt_of_lt_of_le hw.2 (Nat.le_of_lt_succ hmu_1)) hw.1 (lv_sub hl [2, 3, 1, 0] rfl)
  exact lp_1 (mu_1 (0 : Int32) (1 : Int32) + 1) (0 : Int32) (1 : Int32) ls (Nat.lt_succ_self _) hI_1 (lv_sub hl [2, 3, 1, 0] rfl)
