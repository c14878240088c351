/-! written by wip/whole/gen.py -/
def wX5_stow (f_latestTorn : Int32) (f_tree_row_low : Int64) (f_tree_row_high : Int64) (f_tree_row_places : Int32) (f_sheets_at_kind : Int32) (f_sheets_at_length : Int32) (f_sheets_at_cells : Nat → Int64) (p1 : Int32) (p2 : Int32) (p3 : Int32) (post : Int32 → ((Int32) × (Nat → Int64)) → Prop) : Prop := (wX5_isSheet p1 (fun r_1 : Int32 => (((r_1 = 0 → post (-1 : Int32) (f_latestTorn, f_sheets_at_cells)) ∧ (¬ r_1 = 0 → (wX5_isLane p2 (fun r_3 : Int32 => (((r_3 = 0 → post (-1 : Int32) (f_latestTorn, f_sheets_at_cells)) ∧ (¬ r_3 = 0 → ((0 ≤ p3 → (∃ (I_6 : Int32 → Int32 → (Nat → Int64) → Prop) (mu_6 : Int32 → Int32 → (Nat → Int64) → Nat), I_6 (0 : Int32) (0 : Int32) f_sheets_at_cells ∧ ∀ (x_7 : Int32) (f_latestTorn_8 : Int32) (f_sheets_at_cells_9 : Nat → Int64), I_6 x_7 f_latestTorn_8 f_sheets_at_cells_9 → ((f_tree_row_places ≤ x_7 → post f_tree_row_places (f_latestTorn_8, f_sheets_at_cells_9)) ∧ (¬ f_tree_row_places ≤ x_7 → (vp_in p1 4 ∧ (wX2_faultOfBit f_sheets_at_kind f_sheets_at_length p2 (((p3).toInt64) + ((x_7).toInt64)) (fun r_11 : Int32 => (((r_11 = 0 → (vp_in p1 4 ∧ (wX1_bitAt f_tree_row_low f_tree_row_high x_7 (fun r_13 : Int32 => ((wX2_putBit f_sheets_at_kind f_sheets_at_cells_9 (p3 + x_7) r_13 (fun u_15 : (Nat → Int64) => ((∀ x_16 : Int32, x_16 = x_7 + (1) → (I_6 x_16 r_11 u_15 ∧ mu_6 x_16 r_11 u_15 < mu_6 x_7 f_latestTorn_8 f_sheets_at_cells_9)))))))))) ∧ (¬ r_11 = 0 → post x_7 (r_11, f_sheets_at_cells_9))))))))))) ∧ (¬ 0 ≤ p3 → post (-1 : Int32) (f_latestTorn, f_sheets_at_cells)))))))))))))
abbrev rX5_stow : Room := { frames := 2, cells := 0, slots := 0, locals := 48 }
theorem vX5_stow : yX5_stow.cls = RX5 ∧ yX5_stow.cls ≠ "java/lang/invoke/MethodHandle" ∧ yX5_stow.cls ≠ "java/lang/invoke/VarHandle" ∧ (parseMethodDescriptor yX5_stow.desc).map (fun d => d.parameters.length) = some 3 := by decide +kernel
set_option maxHeartbeats 4000000 in
set_option maxRecDepth 100000 in
theorem kX5_stow (l : Launch) (D : va_G) (cA : Nat → ClassId) (a0 a_tree a_draft a_images a_kept a_tape a_sheets a_tree_row a_tree_weights a_tree_carried a_tree_row_gains a_tree_row_lows a_tree_row_highs a_sheets_at a_sheets_at_cells : Nat) (f_latestTorn : Int32) (f_tree_row_low : Int64) (f_tree_row_high : Int64) (f_tree_row_places : Int32) (f_tree_row_gains : Nat → Int32) (f_tree_row_lows : Nat → Int32) (f_tree_row_highs : Nat → Int32) (f_tree_weights : Nat → Int32) (f_tree_carried : Nat → Int32) (f_sheets : Nat → Option Nat) (f_sheets_at_kind : Int32) (f_sheets_at_length : Int32) (f_sheets_at_cells : Nat → Int64) (sz : Nat) (p1 : Int32) (p2 : Int32) (p3 : Int32) (hsel_sheets : vp_in p1 4 → f_sheets p1.toNatClampNeg = some a_sheets_at) (post : Int32 → ((Int32) × (Nat → Int64)) → Prop) (h : wX5_stow f_latestTorn f_tree_row_low f_tree_row_high f_tree_row_places f_sheets_at_kind f_sheets_at_length f_sheets_at_cells p1 p2 p3 post) : Met l yX5_stow wsX5_stow rX5_stow (zPw D cA [.ref a0, .int p1, .int p2, .int p3] [(a0, .inr (4, [.ref a_tree, .ref a_draft, .ref a_images, .ref a_kept, .ref a_tape, .ref a_sheets, .int f_latestTorn])), (a_tree, .inr (3, [.ref a_tree_row, .ref a_tree_weights, .ref a_tree_carried])), (a_tree_row, .inr (0, [.long f_tree_row_low, .long f_tree_row_high, .int f_tree_row_places, .ref a_tree_row_gains, .ref a_tree_row_lows, .ref a_tree_row_highs])), (a_tree_row_gains, .inl (cA 0, 8, .inl f_tree_row_gains)), (a_tree_row_lows, .inl (cA 0, 8, .inl f_tree_row_lows)), (a_tree_row_highs, .inl (cA 0, 8, .inl f_tree_row_highs)), (a_tree_weights, .inl (cA 0, 64, .inl f_tree_weights)), (a_tree_carried, .inl (cA 0, 64, .inl f_tree_carried)), (a_sheets, .inl (cA 5, 4, .inr (.inr (.inr (.inr f_sheets))))), (a_sheets_at, .inr (1, [.ref a_sheets_at_cells, .int f_sheets_at_kind, .int f_sheets_at_length])), (a_sheets_at_cells, .inl (cA 1, 40, .inr (.inl f_sheets_at_cells)))] sz) (va_Qi post (zB D (va_A [(a0, .inr (4, [.ref a_tree, .ref a_draft, .ref a_images, .ref a_kept, .ref a_tape, .ref a_sheets, .int f_latestTorn])), (a_tree, .inr (3, [.ref a_tree_row, .ref a_tree_weights, .ref a_tree_carried])), (a_tree_row, .inr (0, [.long f_tree_row_low, .long f_tree_row_high, .int f_tree_row_places, .ref a_tree_row_gains, .ref a_tree_row_lows, .ref a_tree_row_highs])), (a_tree_row_gains, .inl (cA 0, 8, .inl f_tree_row_gains)), (a_tree_row_lows, .inl (cA 0, 8, .inl f_tree_row_lows)), (a_tree_row_highs, .inl (cA 0, 8, .inl f_tree_row_highs)), (a_tree_weights, .inl (cA 0, 64, .inl f_tree_weights)), (a_tree_carried, .inl (cA 0, 64, .inl f_tree_carried)), (a_sheets, .inl (cA 5, 4, .inr (.inr (.inr (.inr f_sheets))))), (a_sheets_at, .inr (1, [.ref a_sheets_at_cells, .int f_sheets_at_kind, .int f_sheets_at_length])), (a_sheets_at_cells, .inl (cA 1, 40, .inr (.inl f_sheets_at_cells)))] sz) (fun u : (Int32) × (Nat → Int64) => [(a0, .inr (4, [.ref a_tree, .ref a_draft, .ref a_images, .ref a_kept, .ref a_tape, .ref a_sheets, .int u.1])), (a_tree, .inr (3, [.ref a_tree_row, .ref a_tree_weights, .ref a_tree_carried])), (a_tree_row, .inr (0, [.long f_tree_row_low, .long f_tree_row_high, .int f_tree_row_places, .ref a_tree_row_gains, .ref a_tree_row_lows, .ref a_tree_row_highs])), (a_tree_row_gains, .inl (cA 0, 8, .inl f_tree_row_gains)), (a_tree_row_lows, .inl (cA 0, 8, .inl f_tree_row_lows)), (a_tree_row_highs, .inl (cA 0, 8, .inl f_tree_row_highs)), (a_tree_weights, .inl (cA 0, 64, .inl f_tree_weights)), (a_tree_carried, .inl (cA 0, 64, .inl f_tree_carried)), (a_sheets, .inl (cA 5, 4, .inr (.inr (.inr (.inr f_sheets))))), (a_sheets_at, .inr (1, [.ref a_sheets_at_cells, .int f_sheets_at_kind, .int f_sheets_at_length])), (a_sheets_at_cells, .inl (cA 1, 40, .inr (.inl u.2)))])) (va_A [(a0, .inr (4, [.ref a_tree, .ref a_draft, .ref a_images, .ref a_kept, .ref a_tape, .ref a_sheets, .int f_latestTorn])), (a_tree, .inr (3, [.ref a_tree_row, .ref a_tree_weights, .ref a_tree_carried])), (a_tree_row, .inr (0, [.long f_tree_row_low, .long f_tree_row_high, .int f_tree_row_places, .ref a_tree_row_gains, .ref a_tree_row_lows, .ref a_tree_row_highs])), (a_tree_row_gains, .inl (cA 0, 8, .inl f_tree_row_gains)), (a_tree_row_lows, .inl (cA 0, 8, .inl f_tree_row_lows)), (a_tree_row_highs, .inl (cA 0, 8, .inl f_tree_row_highs)), (a_tree_weights, .inl (cA 0, 64, .inl f_tree_weights)), (a_tree_carried, .inl (cA 0, 64, .inl f_tree_carried)), (a_sheets, .inl (cA 5, 4, .inr (.inr (.inr (.inr f_sheets))))), (a_sheets_at, .inr (1, [.ref a_sheets_at_cells, .int f_sheets_at_kind, .int f_sheets_at_length])), (a_sheets_at_cells, .inl (cA 1, 40, .inr (.inl f_sheets_at_cells)))] sz)) 0 0 (va_A [(a0, .inr (4, [.ref a_tree, .ref a_draft, .ref a_images, .ref a_kept, .ref a_tape, .ref a_sheets, .int f_latestTorn])), (a_tree, .inr (3, [.ref a_tree_row, .ref a_tree_weights, .ref a_tree_carried])), (a_tree_row, .inr (0, [.long f_tree_row_low, .long f_tree_row_high, .int f_tree_row_places, .ref a_tree_row_gains, .ref a_tree_row_lows, .ref a_tree_row_highs])), (a_tree_row_gains, .inl (cA 0, 8, .inl f_tree_row_gains)), (a_tree_row_lows, .inl (cA 0, 8, .inl f_tree_row_lows)), (a_tree_row_highs, .inl (cA 0, 8, .inl f_tree_row_highs)), (a_tree_weights, .inl (cA 0, 64, .inl f_tree_weights)), (a_tree_carried, .inl (cA 0, 64, .inl f_tree_carried)), (a_sheets, .inl (cA 5, 4, .inr (.inr (.inr (.inr f_sheets))))), (a_sheets_at, .inr (1, [.ref a_sheets_at_cells, .int f_sheets_at_kind, .int f_sheets_at_length])), (a_sheets_at_cells, .inl (cA 1, 40, .inr (.inl f_sheets_at_cells)))] sz) := by
  refine z_rw (Qc := fun A => va_Qi post (zB D A (fun u : (Int32) × (Nat → Int64) => [(a0, .inr (4, [.ref a_tree, .ref a_draft, .ref a_images, .ref a_kept, .ref a_tape, .ref a_sheets, .int u.1])), (a_tree, .inr (3, [.ref a_tree_row, .ref a_tree_weights, .ref a_tree_carried])), (a_tree_row, .inr (0, [.long f_tree_row_low, .long f_tree_row_high, .int f_tree_row_places, .ref a_tree_row_gains, .ref a_tree_row_lows, .ref a_tree_row_highs])), (a_tree_row_gains, .inl (cA 0, 8, .inl f_tree_row_gains)), (a_tree_row_lows, .inl (cA 0, 8, .inl f_tree_row_lows)), (a_tree_row_highs, .inl (cA 0, 8, .inl f_tree_row_highs)), (a_tree_weights, .inl (cA 0, 64, .inl f_tree_weights)), (a_tree_carried, .inl (cA 0, 64, .inl f_tree_carried)), (a_sheets, .inl (cA 5, 4, .inr (.inr (.inr (.inr f_sheets))))), (a_sheets_at, .inr (1, [.ref a_sheets_at_cells, .int f_sheets_at_kind, .int f_sheets_at_length])), (a_sheets_at_cells, .inl (cA 1, 40, .inr (.inl u.2)))])) A) (cc := cX5_stow) (maxL := 5) (ret := (some .int)) (by decide) rfl (Nat.le_of_ble_eq_true rfl) ?_
  intro p e s m args below meth c ls A hx hb hr hlk hml hown hts hK hP hD hS hA hl
  have hown : s.vm.findClass RX5 = some m.cls := hown
  have hl : lv_has ls 5 [(0, .ref a0), (1, .int p1), (2, .int p2), (3, .int p3)] := hl
  have hw := h
  unfold wX5_stow at hw
  have iwX5 : ∀ w ∈ wsX50, w ∈ wsX5_stow := fun w h9 => List.mem_cons_of_mem _ (List.mem_append_left _ (List.mem_append_left _ (List.mem_append_left _ (List.mem_append_right _ h9))))
  have kf281 := hts (.fieldLink RX5 281 "ExcessTree" "latestTorn" "I") (by decide +kernel)
  have kf12 := hts (.fieldLink RX5 12 "ExcessTree" "tree" "LExcessTree$Tree;") (by decide +kernel)
  have iwX4 : ∀ w ∈ wsX40, w ∈ wsX5_stow := fun w h9 => List.mem_cons_of_mem _ (List.mem_append_left _ (List.mem_append_left _ (List.mem_append_right _ h9)))
  have kn70 := hK.nest (A := args) 5 rfl
  have iwX1 : ∀ w ∈ wsX10, w ∈ wsX5_stow := fun w h9 => List.mem_cons_of_mem _ (List.mem_append_left _ (List.mem_append_right _ h9))
  have kn74 := hK.nest (A := args) 4 rfl
  have kf36 := hts (.fieldLink RX5 36 "ExcessTree" "sheets" "[LExcessTree$Sheet;") (by decide +kernel)
  refine lv_iload_n hx hb dX5_stow_0 rfl (lv_at hl 1 rfl) ?_
  refine z_si [.int p1] [] ⟨hx, hb, hml, hown, hts⟩ (kX5_isSheet l D cA p1 _ hw) (va_cwS 1 hts gX5_stow_X5_isSheet rfl rfl rfl vX5_isSheet ⟨Nat.le_of_ble_eq_true rfl, Nat.le_of_ble_eq_true rfl⟩) hK z_p0 rfl hl.1 rfl (Nat.le_of_ble_eq_true rfl) dX5_stow_1 ⟨Nat.zero_le _, Nat.zero_le _⟩ (fun r_1 hw => ?_)
  refine lv_if_eq (tgt := 18) hx hb dX5_stow_4 (by decide) (fun c_2 => ?_) (fun c_2 => ?_)
  · have hw := hw.1 c_2
    refine lv_iconst (v := -1) hx hb dX5_stow_18 (by decide) ?_
    exact z_iretw (f_latestTorn, f_sheets_at_cells) hx hb hr hlk hw hP hD hS dX5_stow_19
  · have hw := hw.2 c_2
    refine lv_iload_n hx hb dX5_stow_7 rfl (lv_at hl 2 rfl) ?_
    refine z_si [.int p2] [] ⟨hx, hb, hml, hown, hts⟩ (kX5_isLane l D cA p2 _ hw) (va_cwS 1 hts gX5_stow_X5_isLane rfl rfl rfl vX5_isLane ⟨Nat.le_of_ble_eq_true rfl, Nat.le_of_ble_eq_true rfl⟩) hK z_p0 rfl hl.1 rfl (Nat.le_of_ble_eq_true rfl) dX5_stow_8 ⟨Nat.zero_le _, Nat.zero_le _⟩ (fun r_3 hw => ?_)
    refine lv_if_eq (tgt := 18) hx hb dX5_stow_11 (by decide) (fun c_4 => ?_) (fun c_4 => ?_)
    · have hw := hw.1 c_4
      refine lv_iconst (v := -1) hx hb dX5_stow_18 (by decide) ?_
      exact z_iretw (f_latestTorn, f_sheets_at_cells) hx hb hr hlk hw hP hD hS dX5_stow_19
    · have hw := hw.2 c_4
      refine lv_iload_n hx hb dX5_stow_14 rfl (lv_at hl 3 rfl) ?_
      refine lv_if_ge (tgt := 20) hx hb dX5_stow_15 (by decide) (fun c_5 => ?_) (fun c_5 => ?_)
      · have hw := hw.1 c_5
        refine lv_aload_n hx hb dX5_stow_20 rfl (lv_at hl 0 rfl) ?_
        refine lv_iconst (v := 0) hx hb dX5_stow_21 (by decide) ?_
        refine va_put (D := D) (ci := 4) (v := .int (0 : Int32)) (ty := .int) (C := RX5) (T := TX5) (N := 7) hx hb hts iwX5 tyX5 tyX5_ok nmX5 hown hK.1 hP hD hS 0 rfl rfl 6 (by decide) kf281 (fun _ h9 => h9) rfl (by decide +kernel) rfl rfl (Nat.le_of_ble_eq_true rfl) dX5_stow_22 (fun H locs hP hD hS => ?_)
        have hP : va_P D vwCl [(a0, .inr (4, [.ref a_tree, .ref a_draft, .ref a_images, .ref a_kept, .ref a_tape, .ref a_sheets, .int (0 : Int32)])), (a_tree, .inr (3, [.ref a_tree_row, .ref a_tree_weights, .ref a_tree_carried])), (a_tree_row, .inr (0, [.long f_tree_row_low, .long f_tree_row_high, .int f_tree_row_places, .ref a_tree_row_gains, .ref a_tree_row_lows, .ref a_tree_row_highs])), (a_tree_row_gains, .inl (cA 0, 8, .inl f_tree_row_gains)), (a_tree_row_lows, .inl (cA 0, 8, .inl f_tree_row_lows)), (a_tree_row_highs, .inl (cA 0, 8, .inl f_tree_row_highs)), (a_tree_weights, .inl (cA 0, 64, .inl f_tree_weights)), (a_tree_carried, .inl (cA 0, 64, .inl f_tree_carried)), (a_sheets, .inl (cA 5, 4, .inr (.inr (.inr (.inr f_sheets))))), (a_sheets_at, .inr (1, [.ref a_sheets_at_cells, .int f_sheets_at_kind, .int f_sheets_at_length])), (a_sheets_at_cells, .inl (cA 1, 40, .inr (.inl f_sheets_at_cells)))] H := hP
        have hD : va_D A [(a0, .inr (4, [.ref a_tree, .ref a_draft, .ref a_images, .ref a_kept, .ref a_tape, .ref a_sheets, .int (0 : Int32)])), (a_tree, .inr (3, [.ref a_tree_row, .ref a_tree_weights, .ref a_tree_carried])), (a_tree_row, .inr (0, [.long f_tree_row_low, .long f_tree_row_high, .int f_tree_row_places, .ref a_tree_row_gains, .ref a_tree_row_lows, .ref a_tree_row_highs])), (a_tree_row_gains, .inl (cA 0, 8, .inl f_tree_row_gains)), (a_tree_row_lows, .inl (cA 0, 8, .inl f_tree_row_lows)), (a_tree_row_highs, .inl (cA 0, 8, .inl f_tree_row_highs)), (a_tree_weights, .inl (cA 0, 64, .inl f_tree_weights)), (a_tree_carried, .inl (cA 0, 64, .inl f_tree_carried)), (a_sheets, .inl (cA 5, 4, .inr (.inr (.inr (.inr f_sheets))))), (a_sheets_at, .inr (1, [.ref a_sheets_at_cells, .int f_sheets_at_kind, .int f_sheets_at_length])), (a_sheets_at_cells, .inl (cA 1, 40, .inr (.inl f_sheets_at_cells)))] := hD
        refine lv_iconst (v := 0) hx hb dX5_stow_25 (by decide) ?_
        refine lv_istore (lv' := [(4, .int (0 : Int32)), (0, .ref a0), (1, .int p1), (2, .int p2), (3, .int p3)]) hx hb dX5_stow_26 hl (by decide) rfl (fun ls hl => ?_)
        obtain ⟨I_6, mu_6, hI_6, hw⟩ := hw
        have lp_6 : ∀ (nn : Nat) (x_7 : Int32) (f_latestTorn_8 : Int32) (f_sheets_at_cells_9 : Nat → Int64) (H : Heap) (locs : List Loc) (ls : Array Slot), mu_6 x_7 f_latestTorn_8 f_sheets_at_cells_9 < nn → I_6 x_7 f_latestTorn_8 f_sheets_at_cells_9 → va_P D vwCl [(a0, .inr (4, [.ref a_tree, .ref a_draft, .ref a_images, .ref a_kept, .ref a_tape, .ref a_sheets, .int f_latestTorn_8])), (a_tree, .inr (3, [.ref a_tree_row, .ref a_tree_weights, .ref a_tree_carried])), (a_tree_row, .inr (0, [.long f_tree_row_low, .long f_tree_row_high, .int f_tree_row_places, .ref a_tree_row_gains, .ref a_tree_row_lows, .ref a_tree_row_highs])), (a_tree_row_gains, .inl (cA 0, 8, .inl f_tree_row_gains)), (a_tree_row_lows, .inl (cA 0, 8, .inl f_tree_row_lows)), (a_tree_row_highs, .inl (cA 0, 8, .inl f_tree_row_highs)), (a_tree_weights, .inl (cA 0, 64, .inl f_tree_weights)), (a_tree_carried, .inl (cA 0, 64, .inl f_tree_carried)), (a_sheets, .inl (cA 5, 4, .inr (.inr (.inr (.inr f_sheets))))), (a_sheets_at, .inr (1, [.ref a_sheets_at_cells, .int f_sheets_at_kind, .int f_sheets_at_length])), (a_sheets_at_cells, .inl (cA 1, 40, .inr (.inl f_sheets_at_cells_9)))] H → va_D A [(a0, .inr (4, [.ref a_tree, .ref a_draft, .ref a_images, .ref a_kept, .ref a_tape, .ref a_sheets, .int f_latestTorn_8])), (a_tree, .inr (3, [.ref a_tree_row, .ref a_tree_weights, .ref a_tree_carried])), (a_tree_row, .inr (0, [.long f_tree_row_low, .long f_tree_row_high, .int f_tree_row_places, .ref a_tree_row_gains, .ref a_tree_row_lows, .ref a_tree_row_highs])), (a_tree_row_gains, .inl (cA 0, 8, .inl f_tree_row_gains)), (a_tree_row_lows, .inl (cA 0, 8, .inl f_tree_row_lows)), (a_tree_row_highs, .inl (cA 0, 8, .inl f_tree_row_highs)), (a_tree_weights, .inl (cA 0, 64, .inl f_tree_weights)), (a_tree_carried, .inl (cA 0, 64, .inl f_tree_carried)), (a_sheets, .inl (cA 5, 4, .inr (.inr (.inr (.inr f_sheets))))), (a_sheets_at, .inr (1, [.ref a_sheets_at_cells, .int f_sheets_at_kind, .int f_sheets_at_length])), (a_sheets_at_cells, .inl (cA 1, 40, .inr (.inl f_sheets_at_cells_9)))] → va_S A s.heap H locs → lv_has ls 5 [(0, .ref a0), (1, .int p1), (2, .int p2), (3, .int p3), (4, .int x_7)] → W p l e rX5_stow s m args below meth c H locs 0 0 (MQ below (va_Qi post (zB D A (fun u : (Int32) × (Nat → Int64) => [(a0, .inr (4, [.ref a_tree, .ref a_draft, .ref a_images, .ref a_kept, .ref a_tape, .ref a_sheets, .int u.1])), (a_tree, .inr (3, [.ref a_tree_row, .ref a_tree_weights, .ref a_tree_carried])), (a_tree_row, .inr (0, [.long f_tree_row_low, .long f_tree_row_high, .int f_tree_row_places, .ref a_tree_row_gains, .ref a_tree_row_lows, .ref a_tree_row_highs])), (a_tree_row_gains, .inl (cA 0, 8, .inl f_tree_row_gains)), (a_tree_row_lows, .inl (cA 0, 8, .inl f_tree_row_lows)), (a_tree_row_highs, .inl (cA 0, 8, .inl f_tree_row_highs)), (a_tree_weights, .inl (cA 0, 64, .inl f_tree_weights)), (a_tree_carried, .inl (cA 0, 64, .inl f_tree_carried)), (a_sheets, .inl (cA 5, 4, .inr (.inr (.inr (.inr f_sheets))))), (a_sheets_at, .inr (1, [.ref a_sheets_at_cells, .int f_sheets_at_kind, .int f_sheets_at_length])), (a_sheets_at_cells, .inl (cA 1, 40, .inr (.inl u.2)))])) A) args s 0 0 A) (F0 m 28 ls []) := by
          intro nn
          induction nn with
          | zero => exact fun _ _ _ _ _ _ h0 => absurd h0 (Nat.not_lt_zero _)
          | succ nn ih_6 =>
            intro x_7 f_latestTorn_8 f_sheets_at_cells_9 H locs ls hmu_6 hI_6 hP hD hS hl
            have hw := hw x_7 f_latestTorn_8 f_sheets_at_cells_9 hI_6
            refine lv_iload hx hb dX5_stow_28 (lv_at hl 4 rfl) ?_
            refine lv_aload_n hx hb dX5_stow_30 rfl (lv_at hl 0 rfl) ?_
            refine va_get (D := D) (ci := 4) (v := .ref a_tree) (C := RX5) (T := TX5) (N := 7) hx hb hts iwX5 hown hK.1 hP 0 rfl rfl 0 (by decide) kf12 (fun _ h9 => h9) rfl dX5_stow_31 ?_
            refine va_getN (own := RX5) (index := 70) (ref := "ExcessTree$Tree") (host := "ExcessTree") (D := D) (ci := 3) (v := .ref a_tree_row) (C := RX4) (T := TX4) (N := 3) hx hb hts iwX4 hown hK.1 hP 1 rfl rfl 0 (by decide) kn70 (fun _ h9 => h9) rfl dX5_stow_34 ?_
            refine va_getN (own := RX5) (index := 74) (ref := "ExcessTree$Row") (host := "ExcessTree") (D := D) (ci := 0) (v := .int f_tree_row_places) (C := RX1) (T := TX1) (N := 6) hx hb hts iwX1 hown hK.1 hP 2 rfl rfl 2 (by decide) kn74 (fun _ h9 => h9) rfl dX5_stow_37 ?_
            refine lv_icmp_ge (tgt := 104) hx hb dX5_stow_40 (by decide) (fun c_10 => ?_) (fun c_10 => ?_)
            · have hw := hw.1 c_10
              refine lv_aload_n hx hb dX5_stow_104 rfl (lv_at hl 0 rfl) ?_
              refine va_get (D := D) (ci := 4) (v := .ref a_tree) (C := RX5) (T := TX5) (N := 7) hx hb hts iwX5 hown hK.1 hP 0 rfl rfl 0 (by decide) kf12 (fun _ h9 => h9) rfl dX5_stow_105 ?_
              refine va_getN (own := RX5) (index := 70) (ref := "ExcessTree$Tree") (host := "ExcessTree") (D := D) (ci := 3) (v := .ref a_tree_row) (C := RX4) (T := TX4) (N := 3) hx hb hts iwX4 hown hK.1 hP 1 rfl rfl 0 (by decide) kn70 (fun _ h9 => h9) rfl dX5_stow_108 ?_
              refine va_getN (own := RX5) (index := 74) (ref := "ExcessTree$Row") (host := "ExcessTree") (D := D) (ci := 0) (v := .int f_tree_row_places) (C := RX1) (T := TX1) (N := 6) hx hb hts iwX1 hown hK.1 hP 2 rfl rfl 2 (by decide) kn74 (fun _ h9 => h9) rfl dX5_stow_111 ?_
              exact z_iretw (f_latestTorn_8, f_sheets_at_cells_9) hx hb hr hlk hw hP hD hS dX5_stow_114
            · have hw := hw.2 c_10
              refine lv_aload_n hx hb dX5_stow_43 rfl (lv_at hl 0 rfl) ?_
              refine lv_aload_n hx hb dX5_stow_44 rfl (lv_at hl 0 rfl) ?_
              refine va_get (D := D) (ci := 4) (v := .ref a_sheets) (C := RX5) (T := TX5) (N := 7) hx hb hts iwX5 hown hK.1 hP 0 rfl rfl 5 (by decide) kf36 (fun _ h9 => h9) rfl dX5_stow_45 ?_
              refine lv_iload_n hx hb dX5_stow_48 rfl (lv_at hl 1 rfl) ?_
              have hq := hw.1
              have hw := hw.2
              refine z_aldq hx hb hK hP 8 5 rfl rfl hq hsel_sheets dX5_stow_49 ?_
              refine lv_iload_n hx hb dX5_stow_50 rfl (lv_at hl 2 rfl) ?_
              refine lv_iload_n hx hb dX5_stow_51 rfl (lv_at hl 3 rfl) ?_
              refine lv_i2l (v := ((p3).toInt64)) hx hb dX5_stow_52 rfl ?_
              refine lv_iload hx hb dX5_stow_53 (lv_at hl 4 rfl) ?_
              refine lv_i2l (v := ((x_7).toInt64)) hx hb dX5_stow_55 rfl ?_
              refine lv_ladd hx hb dX5_stow_56 ?_
              refine z_ri [.int p2, .long (((p3).toInt64) + ((x_7).toInt64))] [.ref a0] ⟨hx, hb, hml, hown, hts⟩ (kX2_faultOfBit l D cA a_sheets_at a_sheets_at_cells f_sheets_at_kind f_sheets_at_length f_sheets_at_cells_9 p2 (((p3).toInt64) + ((x_7).toInt64)) _ hw) (cwV 2 hts gX5_stow_X2_faultOfBit rfl rfl rfl vX2_faultOfBit ⟨Nat.le_of_ble_eq_true rfl, Nat.le_of_ble_eq_true rfl⟩) hK (hP.sub [9, 10] rfl) (va_recv hK.1 (hP.sub (ws' := [(a_sheets_at, .inr (1, [.ref a_sheets_at_cells, .int f_sheets_at_kind, .int f_sheets_at_length]))]) [9] rfl) (ci := 1) (q0 := 0) rfl rfl) rfl hl.1 rfl (Nat.le_of_ble_eq_true rfl) dX5_stow_57 ⟨Nat.zero_le _, Nat.zero_le _⟩ (fun r_11 hw => ?_)
              refine va_put (D := D) (ci := 4) (v := .int r_11) (ty := .int) (C := RX5) (T := TX5) (N := 7) hx hb hts iwX5 tyX5 tyX5_ok nmX5 hown hK.1 hP hD hS 0 rfl rfl 6 (by decide) kf281 (fun _ h9 => h9) rfl (by decide +kernel) rfl rfl (Nat.le_of_ble_eq_true rfl) dX5_stow_60 (fun H locs hP hD hS => ?_)
              have hP : va_P D vwCl [(a0, .inr (4, [.ref a_tree, .ref a_draft, .ref a_images, .ref a_kept, .ref a_tape, .ref a_sheets, .int r_11])), (a_tree, .inr (3, [.ref a_tree_row, .ref a_tree_weights, .ref a_tree_carried])), (a_tree_row, .inr (0, [.long f_tree_row_low, .long f_tree_row_high, .int f_tree_row_places, .ref a_tree_row_gains, .ref a_tree_row_lows, .ref a_tree_row_highs])), (a_tree_row_gains, .inl (cA 0, 8, .inl f_tree_row_gains)), (a_tree_row_lows, .inl (cA 0, 8, .inl f_tree_row_lows)), (a_tree_row_highs, .inl (cA 0, 8, .inl f_tree_row_highs)), (a_tree_weights, .inl (cA 0, 64, .inl f_tree_weights)), (a_tree_carried, .inl (cA 0, 64, .inl f_tree_carried)), (a_sheets, .inl (cA 5, 4, .inr (.inr (.inr (.inr f_sheets))))), (a_sheets_at, .inr (1, [.ref a_sheets_at_cells, .int f_sheets_at_kind, .int f_sheets_at_length])), (a_sheets_at_cells, .inl (cA 1, 40, .inr (.inl f_sheets_at_cells_9)))] H := hP
              have hD : va_D A [(a0, .inr (4, [.ref a_tree, .ref a_draft, .ref a_images, .ref a_kept, .ref a_tape, .ref a_sheets, .int r_11])), (a_tree, .inr (3, [.ref a_tree_row, .ref a_tree_weights, .ref a_tree_carried])), (a_tree_row, .inr (0, [.long f_tree_row_low, .long f_tree_row_high, .int f_tree_row_places, .ref a_tree_row_gains, .ref a_tree_row_lows, .ref a_tree_row_highs])), (a_tree_row_gains, .inl (cA 0, 8, .inl f_tree_row_gains)), (a_tree_row_lows, .inl (cA 0, 8, .inl f_tree_row_lows)), (a_tree_row_highs, .inl (cA 0, 8, .inl f_tree_row_highs)), (a_tree_weights, .inl (cA 0, 64, .inl f_tree_weights)), (a_tree_carried, .inl (cA 0, 64, .inl f_tree_carried)), (a_sheets, .inl (cA 5, 4, .inr (.inr (.inr (.inr f_sheets))))), (a_sheets_at, .inr (1, [.ref a_sheets_at_cells, .int f_sheets_at_kind, .int f_sheets_at_length])), (a_sheets_at_cells, .inl (cA 1, 40, .inr (.inl f_sheets_at_cells_9)))] := hD
              refine lv_aload_n hx hb dX5_stow_63 rfl (lv_at hl 0 rfl) ?_
              refine va_get (D := D) (ci := 4) (v := .int r_11) (C := RX5) (T := TX5) (N := 7) hx hb hts iwX5 hown hK.1 hP 0 rfl rfl 6 (by decide) kf281 (fun _ h9 => h9) rfl dX5_stow_64 ?_
              refine lv_if_eq (tgt := 73) hx hb dX5_stow_67 (by decide) (fun c_12 => ?_) (fun c_12 => ?_)
              · have hw := hw.1 c_12
                refine lv_aload_n hx hb dX5_stow_73 rfl (lv_at hl 0 rfl) ?_
                refine va_get (D := D) (ci := 4) (v := .ref a_sheets) (C := RX5) (T := TX5) (N := 7) hx hb hts iwX5 hown hK.1 hP 0 rfl rfl 5 (by decide) kf36 (fun _ h9 => h9) rfl dX5_stow_74 ?_
                refine lv_iload_n hx hb dX5_stow_77 rfl (lv_at hl 1 rfl) ?_
                have hq := hw.1
                have hw := hw.2
                refine z_aldq hx hb hK hP 8 5 rfl rfl hq hsel_sheets dX5_stow_78 ?_
                refine lv_iload_n hx hb dX5_stow_79 rfl (lv_at hl 3 rfl) ?_
                refine lv_iload hx hb dX5_stow_80 (lv_at hl 4 rfl) ?_
                refine lv_iadd hx hb dX5_stow_82 ?_
                refine lv_aload_n hx hb dX5_stow_83 rfl (lv_at hl 0 rfl) ?_
                refine va_get (D := D) (ci := 4) (v := .ref a_tree) (C := RX5) (T := TX5) (N := 7) hx hb hts iwX5 hown hK.1 hP 0 rfl rfl 0 (by decide) kf12 (fun _ h9 => h9) rfl dX5_stow_84 ?_
                refine va_getN (own := RX5) (index := 70) (ref := "ExcessTree$Tree") (host := "ExcessTree") (D := D) (ci := 3) (v := .ref a_tree_row) (C := RX4) (T := TX4) (N := 3) hx hb hts iwX4 hown hK.1 hP 1 rfl rfl 0 (by decide) kn70 (fun _ h9 => h9) rfl dX5_stow_87 ?_
                refine lv_iload hx hb dX5_stow_90 (lv_at hl 4 rfl) ?_
                refine z_ri [.int x_7] [.int (p3 + x_7), .ref a_sheets_at] ⟨hx, hb, hml, hown, hts⟩ (kX1_bitAt l D cA a_tree_row a_tree_row_gains a_tree_row_lows a_tree_row_highs f_tree_row_low f_tree_row_high f_tree_row_places f_tree_row_gains f_tree_row_lows f_tree_row_highs x_7 _ hw) (cwV 1 hts gX5_stow_X1_bitAt rfl rfl rfl vX1_bitAt ⟨Nat.le_of_ble_eq_true rfl, Nat.le_of_ble_eq_true rfl⟩) hK (hP.sub [2, 3, 4, 5] rfl) (va_recv hK.1 (hP.sub (ws' := [(a_tree_row, .inr (0, [.long f_tree_row_low, .long f_tree_row_high, .int f_tree_row_places, .ref a_tree_row_gains, .ref a_tree_row_lows, .ref a_tree_row_highs]))]) [2] rfl) (ci := 0) (q0 := 0) rfl rfl) rfl hl.1 rfl (Nat.le_of_ble_eq_true rfl) dX5_stow_92 ⟨Nat.zero_le _, Nat.zero_le _⟩ (fun r_13 hw => ?_)
                refine z_wv (wr := [(a0, .inr (4, [.ref a_tree, .ref a_draft, .ref a_images, .ref a_kept, .ref a_tape, .ref a_sheets, .int r_11])), (a_tree, .inr (3, [.ref a_tree_row, .ref a_tree_weights, .ref a_tree_carried])), (a_tree_row, .inr (0, [.long f_tree_row_low, .long f_tree_row_high, .int f_tree_row_places, .ref a_tree_row_gains, .ref a_tree_row_lows, .ref a_tree_row_highs])), (a_tree_row_gains, .inl (cA 0, 8, .inl f_tree_row_gains)), (a_tree_row_lows, .inl (cA 0, 8, .inl f_tree_row_lows)), (a_tree_row_highs, .inl (cA 0, 8, .inl f_tree_row_highs)), (a_tree_weights, .inl (cA 0, 64, .inl f_tree_weights)), (a_tree_carried, .inl (cA 0, 64, .inl f_tree_carried)), (a_sheets, .inl (cA 5, 4, .inr (.inr (.inr (.inr f_sheets)))))]) (wn := (fun u : (Nat → Int64) => [(a0, .inr (4, [.ref a_tree, .ref a_draft, .ref a_images, .ref a_kept, .ref a_tape, .ref a_sheets, .int r_11])), (a_tree, .inr (3, [.ref a_tree_row, .ref a_tree_weights, .ref a_tree_carried])), (a_tree_row, .inr (0, [.long f_tree_row_low, .long f_tree_row_high, .int f_tree_row_places, .ref a_tree_row_gains, .ref a_tree_row_lows, .ref a_tree_row_highs])), (a_tree_row_gains, .inl (cA 0, 8, .inl f_tree_row_gains)), (a_tree_row_lows, .inl (cA 0, 8, .inl f_tree_row_lows)), (a_tree_row_highs, .inl (cA 0, 8, .inl f_tree_row_highs)), (a_tree_weights, .inl (cA 0, 64, .inl f_tree_weights)), (a_tree_carried, .inl (cA 0, 64, .inl f_tree_carried)), (a_sheets, .inl (cA 5, 4, .inr (.inr (.inr (.inr f_sheets))))), (a_sheets_at, .inr (1, [.ref a_sheets_at_cells, .int f_sheets_at_kind, .int f_sheets_at_length])), (a_sheets_at_cells, .inl (cA 1, 40, .inr (.inl u)))])) [.int (p3 + x_7), .int r_13] [] ⟨hx, hb, hml, hown, hts⟩ (kX2_putBit l D cA a_sheets_at a_sheets_at_cells f_sheets_at_kind f_sheets_at_length f_sheets_at_cells_9 _ (p3 + x_7) r_13 _ hw) (cwV 2 hts gX5_stow_X2_putBit rfl rfl rfl vX2_putBit ⟨Nat.le_of_ble_eq_true rfl, Nat.le_of_ble_eq_true rfl⟩) hK hP hD hS hA [9, 10] [0, 1, 2, 3, 4, 5, 6, 7, 8] [0, 1, 2, 3, 4, 5, 6, 7, 8, 9, 10] rfl (by decide) rfl (by decide) (by decide) (fun u => rfl) (by decide) (va_recv hK.1 (hP.sub (ws' := [(a_sheets_at, .inr (1, [.ref a_sheets_at_cells, .int f_sheets_at_kind, .int f_sheets_at_length]))]) [9] rfl) (ci := 1) (q0 := 0) rfl rfl) rfl hl.1 rfl (Nat.le_of_ble_eq_true rfl) dX5_stow_95 ⟨Nat.zero_le _, Nat.zero_le _⟩ (fun u_15 H locs hw hP hD hS => ?_)
                have hP : va_P D vwCl [(a0, .inr (4, [.ref a_tree, .ref a_draft, .ref a_images, .ref a_kept, .ref a_tape, .ref a_sheets, .int r_11])), (a_tree, .inr (3, [.ref a_tree_row, .ref a_tree_weights, .ref a_tree_carried])), (a_tree_row, .inr (0, [.long f_tree_row_low, .long f_tree_row_high, .int f_tree_row_places, .ref a_tree_row_gains, .ref a_tree_row_lows, .ref a_tree_row_highs])), (a_tree_row_gains, .inl (cA 0, 8, .inl f_tree_row_gains)), (a_tree_row_lows, .inl (cA 0, 8, .inl f_tree_row_lows)), (a_tree_row_highs, .inl (cA 0, 8, .inl f_tree_row_highs)), (a_tree_weights, .inl (cA 0, 64, .inl f_tree_weights)), (a_tree_carried, .inl (cA 0, 64, .inl f_tree_carried)), (a_sheets, .inl (cA 5, 4, .inr (.inr (.inr (.inr f_sheets))))), (a_sheets_at, .inr (1, [.ref a_sheets_at_cells, .int f_sheets_at_kind, .int f_sheets_at_length])), (a_sheets_at_cells, .inl (cA 1, 40, .inr (.inl u_15)))] H := hP
                have hD : va_D A [(a0, .inr (4, [.ref a_tree, .ref a_draft, .ref a_images, .ref a_kept, .ref a_tape, .ref a_sheets, .int r_11])), (a_tree, .inr (3, [.ref a_tree_row, .ref a_tree_weights, .ref a_tree_carried])), (a_tree_row, .inr (0, [.long f_tree_row_low, .long f_tree_row_high, .int f_tree_row_places, .ref a_tree_row_gains, .ref a_tree_row_lows, .ref a_tree_row_highs])), (a_tree_row_gains, .inl (cA 0, 8, .inl f_tree_row_gains)), (a_tree_row_lows, .inl (cA 0, 8, .inl f_tree_row_lows)), (a_tree_row_highs, .inl (cA 0, 8, .inl f_tree_row_highs)), (a_tree_weights, .inl (cA 0, 64, .inl f_tree_weights)), (a_tree_carried, .inl (cA 0, 64, .inl f_tree_carried)), (a_sheets, .inl (cA 5, 4, .inr (.inr (.inr (.inr f_sheets))))), (a_sheets_at, .inr (1, [.ref a_sheets_at_cells, .int f_sheets_at_kind, .int f_sheets_at_length])), (a_sheets_at_cells, .inl (cA 1, 40, .inr (.inl u_15)))] := hD
                obtain ⟨x_16, ex_16⟩ : ∃ y : Int32, y = x_7 + (1) := ⟨_, rfl⟩
                have hw := hw x_16 ex_16
                refine lv_iinc (v := x_16) (lv' := [(4, .int x_16), (0, .ref a0), (1, .int p1), (2, .int p2), (3, .int p3)]) hx hb dX5_stow_98 hl (k := 4) rfl (by rw [ex_16]; rfl) (by decide) rfl (fun ls hl => ?_)
                refine lv_goto (tgt := 28) hx hb dX5_stow_101 (by decide) ?_
                exact ih_6 x_16 r_11 u_15 _ _ ls (Nat.lt_of_lt_of_le hw.2 (Nat.le_of_lt_succ hmu_6)) hw.1 hP hD hS (lv_sub hl [1, 2, 3, 4, 0] rfl)
              · have hw := hw.2 c_12
                refine lv_iload hx hb dX5_stow_70 (lv_at hl 4 rfl) ?_
                exact z_iretw (r_11, f_sheets_at_cells_9) hx hb hr hlk hw hP hD hS dX5_stow_72
        exact lp_6 (mu_6 (0 : Int32) (0 : Int32) f_sheets_at_cells + 1) (0 : Int32) (0 : Int32) f_sheets_at_cells _ _ ls (Nat.lt_succ_self _) hI_6 hP hD hS (lv_sub hl [1, 2, 3, 4, 0] rfl)
      · have hw := hw.2 c_5
        refine lv_iconst (v := -1) hx hb dX5_stow_18 (by decide) ?_
        exact z_iretw (f_latestTorn, f_sheets_at_cells) hx hb hr hlk hw hP hD hS dX5_stow_19
def wX5_torn (f_latestTorn : Int32)  (post : Int32 → Prop) : Prop := post f_latestTorn
abbrev rX5_torn : Room := { frames := 0, cells := 0, slots := 0, locals := 0 }
theorem vX5_torn : yX5_torn.cls = RX5 ∧ yX5_torn.cls ≠ "java/lang/invoke/MethodHandle" ∧ yX5_torn.cls ≠ "java/lang/invoke/VarHandle" ∧ (parseMethodDescriptor yX5_torn.desc).map (fun d => d.parameters.length) = some 0 := by decide +kernel
set_option maxHeartbeats 4000000 in
set_option maxRecDepth 100000 in
theorem kX5_torn (l : Launch) (D : va_G) (cA : Nat → ClassId) (a0 a_tree a_draft a_images a_kept a_tape a_sheets : Nat) (f_latestTorn : Int32)  (post : Int32 → Prop) (h : wX5_torn f_latestTorn post) : Met l yX5_torn wsX5_torn rX5_torn (zPr D cA [.ref a0] [(a0, .inr (4, [.ref a_tree, .ref a_draft, .ref a_images, .ref a_kept, .ref a_tape, .ref a_sheets, .int f_latestTorn]))]) (vp_Si post) 0 0 (fun _ => False) := by
  refine z_ro (cc := cX5_torn) (maxL := 1) (ret := (some .int)) (by decide) rfl (Nat.le_of_ble_eq_true rfl) ?_
  intro p e s m args below meth c ls hx hb hr hlk hml hown hts hK hP hl
  have hown : s.vm.findClass RX5 = some m.cls := hown
  have hl : lv_has ls 1 [(0, .ref a0)] := hl
  have hw := h
  unfold wX5_torn at hw
  have iwX5 : ∀ w ∈ wsX50, w ∈ wsX5_torn := fun w h9 => List.mem_cons_of_mem _ (List.mem_append_right _ h9)
  have kf281 := hts (.fieldLink RX5 281 "ExcessTree" "latestTorn" "I") (by decide +kernel)
  refine lv_aload_n hx hb dX5_torn_0 rfl (lv_at hl 0 rfl) ?_
  refine va_get (D := D) (ci := 4) (v := .int f_latestTorn) (C := RX5) (T := TX5) (N := 7) hx hb hts iwX5 hown hK.1 hP 0 rfl rfl 6 (by decide) kf281 (fun _ h9 => h9) rfl dX5_torn_1 ?_
  exact z_iret hx hb hr hlk hw dX5_torn_4
def wX5_count (f_tree_row_low : Int64) (f_tree_row_high : Int64) (f_kept : Nat → Int32) (f_tape_length : Int32) (f_sheets_at_kind : Int32) (f_sheets_at_length : Int32) (p1 : Int32) (post : Int32 → Prop) : Prop := ((p1 = 0 → (vp_in (0 : Int32) 2 ∧ (((f_kept (0 : Int32).toNatClampNeg) = 0 → (vp_in (1 : Int32) 2 ∧ (((f_kept (1 : Int32).toNatClampNeg) = 0 → post ((0 : Int32) + (0 : Int32))) ∧ (¬ (f_kept (1 : Int32).toNatClampNeg) = 0 → post ((0 : Int32) + (1 : Int32)))))) ∧ (¬ (f_kept (0 : Int32).toNatClampNeg) = 0 → (vp_in (1 : Int32) 2 ∧ (((f_kept (1 : Int32).toNatClampNeg) = 0 → post ((1 : Int32) + (0 : Int32))) ∧ (¬ (f_kept (1 : Int32).toNatClampNeg) = 0 → post ((1 : Int32) + (1 : Int32))))))))) ∧ (p1 = 1 → post f_tape_length) ∧ (p1 = 2 → (vp_in (0 : Int32) 4 ∧ (wX2_isNothing f_sheets_at_kind (fun r_7 : Int32 => (((r_7 = 0 → (vp_in (0 : Int32) 4 ∧ post f_sheets_at_length)) ∧ (¬ r_7 = 0 → post (-4 : Int32)))))))) ∧ (p1 = 3 → (wX1_opensAtOddPlaces f_tree_row_low f_tree_row_high (fun r_10 : Int32 => (post r_10)))) ∧ (¬ p1 = 0 → ¬ p1 = 1 → ¬ p1 = 2 → ¬ p1 = 3 → post (-1 : Int32)))
abbrev rX5_count : Room := { frames := 2, cells := 0, slots := 0, locals := 43 }
theorem vX5_count : yX5_count.cls = RX5 ∧ yX5_count.cls ≠ "java/lang/invoke/MethodHandle" ∧ yX5_count.cls ≠ "java/lang/invoke/VarHandle" ∧ (parseMethodDescriptor yX5_count.desc).map (fun d => d.parameters.length) = some 1 := by decide +kernel
set_option maxHeartbeats 4000000 in
set_option maxRecDepth 100000 in
theorem kX5_count (l : Launch) (D : va_G) (cA : Nat → ClassId) (a0 a_tree a_draft a_images a_kept a_tape a_sheets a_tree_row a_tree_weights a_tree_carried a_tree_row_gains a_tree_row_lows a_tree_row_highs a_tape_bytes a_sheets_at a_sheets_at_cells : Nat) (f_latestTorn : Int32) (f_tree_row_low : Int64) (f_tree_row_high : Int64) (f_tree_row_places : Int32) (f_tree_row_gains : Nat → Int32) (f_tree_row_lows : Nat → Int32) (f_tree_row_highs : Nat → Int32) (f_tree_weights : Nat → Int32) (f_tree_carried : Nat → Int32) (f_kept : Nat → Int32) (f_tape_length : Int32) (f_tape_at : Int32) (f_tape_start : Int32) (f_tape_number : Int32) (f_tape_latestFault : Int32) (f_tape_bytes : Nat → Int32) (f_sheets : Nat → Option Nat) (f_sheets_at_kind : Int32) (f_sheets_at_length : Int32) (f_sheets_at_cells : Nat → Int64) (p1 : Int32) (hsel_sheets : vp_in (0 : Int32) 4 → f_sheets (0 : Int32).toNatClampNeg = some a_sheets_at) (post : Int32 → Prop) (h : wX5_count f_tree_row_low f_tree_row_high f_kept f_tape_length f_sheets_at_kind f_sheets_at_length p1 post) : Met l yX5_count wsX5_count rX5_count (zPr D cA [.ref a0, .int p1] [(a0, .inr (4, [.ref a_tree, .ref a_draft, .ref a_images, .ref a_kept, .ref a_tape, .ref a_sheets, .int f_latestTorn])), (a_tree, .inr (3, [.ref a_tree_row, .ref a_tree_weights, .ref a_tree_carried])), (a_tree_row, .inr (0, [.long f_tree_row_low, .long f_tree_row_high, .int f_tree_row_places, .ref a_tree_row_gains, .ref a_tree_row_lows, .ref a_tree_row_highs])), (a_tree_row_gains, .inl (cA 0, 8, .inl f_tree_row_gains)), (a_tree_row_lows, .inl (cA 0, 8, .inl f_tree_row_lows)), (a_tree_row_highs, .inl (cA 0, 8, .inl f_tree_row_highs)), (a_tree_weights, .inl (cA 0, 64, .inl f_tree_weights)), (a_tree_carried, .inl (cA 0, 64, .inl f_tree_carried)), (a_kept, .inl (cA 3, 2, .inl f_kept)), (a_tape, .inr (2, [.ref a_tape_bytes, .int f_tape_length, .int f_tape_at, .int f_tape_start, .int f_tape_number, .int f_tape_latestFault])), (a_tape_bytes, .inl (cA 2, 160, .inl f_tape_bytes)), (a_sheets, .inl (cA 5, 4, .inr (.inr (.inr (.inr f_sheets))))), (a_sheets_at, .inr (1, [.ref a_sheets_at_cells, .int f_sheets_at_kind, .int f_sheets_at_length])), (a_sheets_at_cells, .inl (cA 1, 40, .inr (.inl f_sheets_at_cells)))]) (vp_Si post) 0 0 (fun _ => False) := by
  refine z_ro (cc := cX5_count) (maxL := 2) (ret := (some .int)) (by decide) rfl (Nat.le_of_ble_eq_true rfl) ?_
  intro p e s m args below meth c ls hx hb hr hlk hml hown hts hK hP hl
  have hown : s.vm.findClass RX5 = some m.cls := hown
  have hl : lv_has ls 2 [(0, .ref a0), (1, .int p1)] := hl
  have hw := h
  unfold wX5_count at hw
  have iwX5 : ∀ w ∈ wsX50, w ∈ wsX5_count := fun w h9 => List.mem_cons_of_mem _ (List.mem_append_left _ (List.mem_append_left _ (List.mem_append_left _ (List.mem_append_left _ (List.mem_append_right _ h9)))))
  have kf23 := hts (.fieldLink RX5 23 "ExcessTree" "kept" "[Z") (by decide +kernel)
  have kf30 := hts (.fieldLink RX5 30 "ExcessTree" "tape" "LExcessTree$Tape;") (by decide +kernel)
  have iwX3 : ∀ w ∈ wsX30, w ∈ wsX5_count := fun w h9 => List.mem_cons_of_mem _ (List.mem_append_left _ (List.mem_append_left _ (List.mem_append_left _ (List.mem_append_right _ h9))))
  have kn49 := hK.nest (A := args) 8 rfl
  have kf36 := hts (.fieldLink RX5 36 "ExcessTree" "sheets" "[LExcessTree$Sheet;") (by decide +kernel)
  have iwX2 : ∀ w ∈ wsX20, w ∈ wsX5_count := fun w h9 => List.mem_cons_of_mem _ (List.mem_append_left _ (List.mem_append_left _ (List.mem_append_right _ h9)))
  have kn287 := hK.nest (A := args) 9 rfl
  have kf12 := hts (.fieldLink RX5 12 "ExcessTree" "tree" "LExcessTree$Tree;") (by decide +kernel)
  have iwX4 : ∀ w ∈ wsX40, w ∈ wsX5_count := fun w h9 => List.mem_cons_of_mem _ (List.mem_append_left _ (List.mem_append_right _ h9))
  have kn70 := hK.nest (A := args) 5 rfl
  refine lv_iload_n hx hb dX5_count_0 rfl (lv_at hl 1 rfl) ?_
  by_cases c_1 : p1 = 0
  · have hw := hw.1 c_1
    refine lv_tableIn (tgt := 32) (off := 31) hx hb dX5_count_1 (by rw [c_1]; decide) (by rw [c_1]; decide) (by rw [c_1]; decide) (by decide) ?_
    refine lv_aload_n hx hb dX5_count_32 rfl (lv_at hl 0 rfl) ?_
    refine va_get (D := D) (ci := 4) (v := .ref a_kept) (C := RX5) (T := TX5) (N := 7) hx hb hts iwX5 hown hK.1 hP 0 rfl rfl 3 (by decide) kf23 (fun _ h9 => h9) rfl dX5_count_33 ?_
    refine lv_iconst (v := 0) hx hb dX5_count_36 (by decide) ?_
    have hq := hw.1
    have hw := hw.2
    refine va_zald hx hb hK.1 hP 8 3 rfl rfl hq dX5_count_37 ?_
    refine lv_if_eq (tgt := 45) hx hb dX5_count_38 (by decide) (fun c_2 => ?_) (fun c_2 => ?_)
    · have hw := hw.1 c_2
      refine lv_iconst (v := 0) hx hb dX5_count_45 (by decide) ?_
      refine lv_aload_n hx hb dX5_count_46 rfl (lv_at hl 0 rfl) ?_
      refine va_get (D := D) (ci := 4) (v := .ref a_kept) (C := RX5) (T := TX5) (N := 7) hx hb hts iwX5 hown hK.1 hP 0 rfl rfl 3 (by decide) kf23 (fun _ h9 => h9) rfl dX5_count_47 ?_
      refine lv_iconst (v := 1) hx hb dX5_count_50 (by decide) ?_
      have hq := hw.1
      have hw := hw.2
      refine va_zald hx hb hK.1 hP 8 3 rfl rfl hq dX5_count_51 ?_
      refine lv_if_eq (tgt := 59) hx hb dX5_count_52 (by decide) (fun c_3 => ?_) (fun c_3 => ?_)
      · have hw := hw.1 c_3
        refine lv_iconst (v := 0) hx hb dX5_count_59 (by decide) ?_
        refine lv_iadd hx hb dX5_count_60 ?_
        exact z_iret hx hb hr hlk hw dX5_count_61
      · have hw := hw.2 c_3
        refine lv_iconst (v := 1) hx hb dX5_count_55 (by decide) ?_
        refine lv_goto (tgt := 60) hx hb dX5_count_56 (by decide) ?_
        refine lv_iadd hx hb dX5_count_60 ?_
        exact z_iret hx hb hr hlk hw dX5_count_61
    · have hw := hw.2 c_2
      refine lv_iconst (v := 1) hx hb dX5_count_41 (by decide) ?_
      refine lv_goto (tgt := 46) hx hb dX5_count_42 (by decide) ?_
      refine lv_aload_n hx hb dX5_count_46 rfl (lv_at hl 0 rfl) ?_
      refine va_get (D := D) (ci := 4) (v := .ref a_kept) (C := RX5) (T := TX5) (N := 7) hx hb hts iwX5 hown hK.1 hP 0 rfl rfl 3 (by decide) kf23 (fun _ h9 => h9) rfl dX5_count_47 ?_
      refine lv_iconst (v := 1) hx hb dX5_count_50 (by decide) ?_
      have hq := hw.1
      have hw := hw.2
      refine va_zald hx hb hK.1 hP 8 3 rfl rfl hq dX5_count_51 ?_
      refine lv_if_eq (tgt := 59) hx hb dX5_count_52 (by decide) (fun c_4 => ?_) (fun c_4 => ?_)
      · have hw := hw.1 c_4
        refine lv_iconst (v := 0) hx hb dX5_count_59 (by decide) ?_
        refine lv_iadd hx hb dX5_count_60 ?_
        exact z_iret hx hb hr hlk hw dX5_count_61
      · have hw := hw.2 c_4
        refine lv_iconst (v := 1) hx hb dX5_count_55 (by decide) ?_
        refine lv_goto (tgt := 60) hx hb dX5_count_56 (by decide) ?_
        refine lv_iadd hx hb dX5_count_60 ?_
        exact z_iret hx hb hr hlk hw dX5_count_61
  by_cases c_5 : p1 = 1
  · have hw := hw.2.1 c_5
    refine lv_tableIn (tgt := 62) (off := 61) hx hb dX5_count_1 (by rw [c_5]; decide) (by rw [c_5]; decide) (by rw [c_5]; decide) (by decide) ?_
    refine lv_aload_n hx hb dX5_count_62 rfl (lv_at hl 0 rfl) ?_
    refine va_get (D := D) (ci := 4) (v := .ref a_tape) (C := RX5) (T := TX5) (N := 7) hx hb hts iwX5 hown hK.1 hP 0 rfl rfl 4 (by decide) kf30 (fun _ h9 => h9) rfl dX5_count_63 ?_
    refine va_getN (own := RX5) (index := 49) (ref := "ExcessTree$Tape") (host := "ExcessTree") (D := D) (ci := 2) (v := .int f_tape_length) (C := RX3) (T := TX3) (N := 6) hx hb hts iwX3 hown hK.1 hP 9 rfl rfl 1 (by decide) kn49 (fun _ h9 => h9) rfl dX5_count_66 ?_
    exact z_iret hx hb hr hlk hw dX5_count_69
  by_cases c_6 : p1 = 2
  · have hw := hw.2.2.1 c_6
    refine lv_tableIn (tgt := 70) (off := 69) hx hb dX5_count_1 (by rw [c_6]; decide) (by rw [c_6]; decide) (by rw [c_6]; decide) (by decide) ?_
    refine lv_aload_n hx hb dX5_count_70 rfl (lv_at hl 0 rfl) ?_
    refine va_get (D := D) (ci := 4) (v := .ref a_sheets) (C := RX5) (T := TX5) (N := 7) hx hb hts iwX5 hown hK.1 hP 0 rfl rfl 5 (by decide) kf36 (fun _ h9 => h9) rfl dX5_count_71 ?_
    refine lv_iconst (v := 0) hx hb dX5_count_74 (by decide) ?_
    have hq := hw.1
    have hw := hw.2
    refine z_aldq hx hb hK hP 11 5 rfl rfl hq hsel_sheets dX5_count_75 ?_
    refine z_ri [] [] ⟨hx, hb, hml, hown, hts⟩ (kX2_isNothing l D cA a_sheets_at a_sheets_at_cells f_sheets_at_kind f_sheets_at_length f_sheets_at_cells _ hw) (cwV 0 hts gX5_count_X2_isNothing rfl rfl rfl vX2_isNothing ⟨Nat.le_of_ble_eq_true rfl, Nat.le_of_ble_eq_true rfl⟩) hK (hP.sub [12, 13] rfl) (va_recv hK.1 (hP.sub (ws' := [(a_sheets_at, .inr (1, [.ref a_sheets_at_cells, .int f_sheets_at_kind, .int f_sheets_at_length]))]) [12] rfl) (ci := 1) (q0 := 0) rfl rfl) rfl hl.1 rfl (Nat.le_of_ble_eq_true rfl) dX5_count_76 ⟨Nat.zero_le _, Nat.zero_le _⟩ (fun r_7 hw => ?_)
    refine lv_if_eq (tgt := 87) hx hb dX5_count_79 (by decide) (fun c_8 => ?_) (fun c_8 => ?_)
    · have hw := hw.1 c_8
      refine lv_aload_n hx hb dX5_count_87 rfl (lv_at hl 0 rfl) ?_
      refine va_get (D := D) (ci := 4) (v := .ref a_sheets) (C := RX5) (T := TX5) (N := 7) hx hb hts iwX5 hown hK.1 hP 0 rfl rfl 5 (by decide) kf36 (fun _ h9 => h9) rfl dX5_count_88 ?_
      refine lv_iconst (v := 0) hx hb dX5_count_91 (by decide) ?_
      have hq := hw.1
      have hw := hw.2
      refine z_aldq hx hb hK hP 11 5 rfl rfl hq hsel_sheets dX5_count_92 ?_
      refine va_getN (own := RX5) (index := 287) (ref := "ExcessTree$Sheet") (host := "ExcessTree") (D := D) (ci := 1) (v := .int f_sheets_at_length) (C := RX2) (T := TX2) (N := 3) hx hb hts iwX2 hown hK.1 hP 12 rfl rfl 2 (by decide) kn287 (fun _ h9 => h9) rfl dX5_count_93 ?_
      exact z_iret hx hb hr hlk hw dX5_count_96
    · have hw := hw.2 c_8
      refine lv_bipush (v := -4) hx hb dX5_count_82 (by decide) ?_
      refine lv_goto (tgt := 96) hx hb dX5_count_84 (by decide) ?_
      exact z_iret hx hb hr hlk hw dX5_count_96
  by_cases c_9 : p1 = 3
  · have hw := hw.2.2.2.1 c_9
    refine lv_tableIn (tgt := 97) (off := 96) hx hb dX5_count_1 (by rw [c_9]; decide) (by rw [c_9]; decide) (by rw [c_9]; decide) (by decide) ?_
    refine lv_aload_n hx hb dX5_count_97 rfl (lv_at hl 0 rfl) ?_
    refine va_get (D := D) (ci := 4) (v := .ref a_tree) (C := RX5) (T := TX5) (N := 7) hx hb hts iwX5 hown hK.1 hP 0 rfl rfl 0 (by decide) kf12 (fun _ h9 => h9) rfl dX5_count_98 ?_
    refine va_getN (own := RX5) (index := 70) (ref := "ExcessTree$Tree") (host := "ExcessTree") (D := D) (ci := 3) (v := .ref a_tree_row) (C := RX4) (T := TX4) (N := 3) hx hb hts iwX4 hown hK.1 hP 1 rfl rfl 0 (by decide) kn70 (fun _ h9 => h9) rfl dX5_count_101 ?_
    refine z_ri [] [] ⟨hx, hb, hml, hown, hts⟩ (kX1_opensAtOddPlaces l D cA a_tree_row a_tree_row_gains a_tree_row_lows a_tree_row_highs f_tree_row_low f_tree_row_high f_tree_row_places f_tree_row_gains f_tree_row_lows f_tree_row_highs _ hw) (cwV 0 hts gX5_count_X1_opensAtOddPlaces rfl rfl rfl vX1_opensAtOddPlaces ⟨Nat.le_of_ble_eq_true rfl, Nat.le_of_ble_eq_true rfl⟩) hK (hP.sub [2, 3, 4, 5] rfl) (va_recv hK.1 (hP.sub (ws' := [(a_tree_row, .inr (0, [.long f_tree_row_low, .long f_tree_row_high, .int f_tree_row_places, .ref a_tree_row_gains, .ref a_tree_row_lows, .ref a_tree_row_highs]))]) [2] rfl) (ci := 0) (q0 := 0) rfl rfl) rfl hl.1 rfl (Nat.le_of_ble_eq_true rfl) dX5_count_104 ⟨Nat.zero_le _, Nat.zero_le _⟩ (fun r_10 hw => ?_)
    exact z_iret hx hb hr hlk hw dX5_count_107
  have hw := hw.2.2.2.2 c_1 c_5 c_6 c_9
  refine lv_tableOut (tgt := 108) hx hb dX5_count_1 (by have q0 := lv_neT c_1 (a := 0) (by decide); have q1 := lv_neT c_5 (a := 1) (by decide); have q2 := lv_neT c_6 (a := 2) (by decide); have q3 := lv_neT c_9 (a := 3) (by decide); omega) (by decide) ?_
  refine lv_iconst (v := -1) hx hb dX5_count_108 (by decide) ?_
  exact z_iret hx hb hr hlk hw dX5_count_109
