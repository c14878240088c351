/-! written by wip/whole/gen.py -/
def wX5_isPoint (f_tree_row_places : Int32) (p1 : Int32) (post : Int32 → Prop) : Prop := (wX5_within p1 (0 : Int32) f_tree_row_places (fun r_1 : Int32 => ((narrow .boolean (.int r_1) = .int r_1 ∧ post r_1))))
abbrev rX5_isPoint : Room := { frames := 1, cells := 0, slots := 0, locals := 22 }
theorem vX5_isPoint : yX5_isPoint.cls = RX5 ∧ yX5_isPoint.cls ≠ "java/lang/invoke/MethodHandle" ∧ yX5_isPoint.cls ≠ "java/lang/invoke/VarHandle" ∧ (parseMethodDescriptor yX5_isPoint.desc).map (fun d => d.parameters.length) = some 1 := by decide +kernel
set_option maxHeartbeats 4000000 in
set_option maxRecDepth 100000 in
theorem kX5_isPoint (l : Launch) (D : va_G) (cA : Nat → ClassId) (a0 a_tree a_draft a_images a_kept a_tape a_sheets a_tree_row a_tree_weights a_tree_carried a_tree_row_gains a_tree_row_lows a_tree_row_highs : Nat) (f_latestTorn : Int32) (f_tree_row_low : Int64) (f_tree_row_high : Int64) (f_tree_row_places : Int32) (f_tree_row_gains : Nat → Int32) (f_tree_row_lows : Nat → Int32) (f_tree_row_highs : Nat → Int32) (f_tree_weights : Nat → Int32) (f_tree_carried : Nat → Int32) (p1 : Int32) (post : Int32 → Prop) (h : wX5_isPoint f_tree_row_places p1 post) : Met l yX5_isPoint wsX5_isPoint rX5_isPoint (zPr D cA [.ref a0, .int p1] [(a0, .inr (4, [.ref a_tree, .ref a_draft, .ref a_images, .ref a_kept, .ref a_tape, .ref a_sheets, .int f_latestTorn])), (a_tree, .inr (3, [.ref a_tree_row, .ref a_tree_weights, .ref a_tree_carried])), (a_tree_row, .inr (0, [.long f_tree_row_low, .long f_tree_row_high, .int f_tree_row_places, .ref a_tree_row_gains, .ref a_tree_row_lows, .ref a_tree_row_highs])), (a_tree_row_gains, .inl (cA 0, 8, .inl f_tree_row_gains)), (a_tree_row_lows, .inl (cA 0, 8, .inl f_tree_row_lows)), (a_tree_row_highs, .inl (cA 0, 8, .inl f_tree_row_highs)), (a_tree_weights, .inl (cA 0, 64, .inl f_tree_weights)), (a_tree_carried, .inl (cA 0, 64, .inl f_tree_carried))]) (vp_Si post) 0 0 (fun _ => False) := by
  refine z_ro (cc := cX5_isPoint) (maxL := 2) (ret := (some .boolean)) (by decide) rfl (Nat.le_of_ble_eq_true rfl) ?_
  intro p e s m args below meth c ls hx hb hr hlk hml hown hts hK hP hl
  have hown : s.vm.findClass RX5 = some m.cls := hown
  have hl : lv_has ls 2 [(0, .ref a0), (1, .int p1)] := hl
  have hw := h
  unfold wX5_isPoint at hw
  have iwX5 : ∀ w ∈ wsX50, w ∈ wsX5_isPoint := fun w h9 => List.mem_cons_of_mem _ (List.mem_append_left _ (List.mem_append_left _ (List.mem_append_right _ h9)))
  have kf12 := hts (.fieldLink RX5 12 "ExcessTree" "tree" "LExcessTree$Tree;") (by decide +kernel)
  have iwX4 : ∀ w ∈ wsX40, w ∈ wsX5_isPoint := fun w h9 => List.mem_cons_of_mem _ (List.mem_append_left _ (List.mem_append_right _ h9))
  have kn70 := hK.nest (A := args) 5 rfl
  have iwX1 : ∀ w ∈ wsX10, w ∈ wsX5_isPoint := fun w h9 => List.mem_cons_of_mem _ (List.mem_append_right _ h9)
  have kn74 := hK.nest (A := args) 4 rfl
  refine lv_iload_n hx hb dX5_isPoint_0 rfl (lv_at hl 1 rfl) ?_
  refine lv_iconst (v := 0) hx hb dX5_isPoint_1 (by decide) ?_
  refine lv_aload_n hx hb dX5_isPoint_2 rfl (lv_at hl 0 rfl) ?_
  refine va_get (D := D) (ci := 4) (v := .ref a_tree) (C := RX5) (T := TX5) (N := 7) hx hb hts iwX5 hown hK.1 hP 0 rfl rfl 0 (by decide) kf12 (fun _ h9 => h9) rfl dX5_isPoint_3 ?_
  refine va_getN (own := RX5) (index := 70) (ref := "ExcessTree$Tree") (host := "ExcessTree") (D := D) (ci := 3) (v := .ref a_tree_row) (C := RX4) (T := TX4) (N := 3) hx hb hts iwX4 hown hK.1 hP 1 rfl rfl 0 (by decide) kn70 (fun _ h9 => h9) rfl dX5_isPoint_6 ?_
  refine va_getN (own := RX5) (index := 74) (ref := "ExcessTree$Row") (host := "ExcessTree") (D := D) (ci := 0) (v := .int f_tree_row_places) (C := RX1) (T := TX1) (N := 6) hx hb hts iwX1 hown hK.1 hP 2 rfl rfl 2 (by decide) kn74 (fun _ h9 => h9) rfl dX5_isPoint_9 ?_
  refine z_si [.int p1, .int (0 : Int32), .int f_tree_row_places] [] ⟨hx, hb, hml, hown, hts⟩ (kX5_within l D cA p1 (0 : Int32) f_tree_row_places _ hw) (va_cwS 3 hts gX5_isPoint_X5_within rfl rfl rfl vX5_within ⟨Nat.le_of_ble_eq_true rfl, Nat.le_of_ble_eq_true rfl⟩) hK z_p0 rfl hl.1 rfl (Nat.le_of_ble_eq_true rfl) dX5_isPoint_12 ⟨Nat.zero_le _, Nat.zero_le _⟩ (fun r_1 hw => ?_)
  exact z_zret hx hb hr hlk hw.1 hw.2 dX5_isPoint_15
def wX5_excess (f_tree_row_low : Int64) (f_tree_row_high : Int64) (f_tree_row_places : Int32) (p1 : Int32) (post : Int32 → Prop) : Prop := (wX5_isPoint f_tree_row_places p1 (fun r_1 : Int32 => (((r_1 = 0 → post (-1 : Int32)) ∧ (¬ r_1 = 0 → (wX1_excessAt f_tree_row_low f_tree_row_high p1 (fun r_3 : Int32 => (post r_3))))))))
abbrev rX5_excess : Room := { frames := 2, cells := 0, slots := 0, locals := 43 }
theorem vX5_excess : yX5_excess.cls = RX5 ∧ yX5_excess.cls ≠ "java/lang/invoke/MethodHandle" ∧ yX5_excess.cls ≠ "java/lang/invoke/VarHandle" ∧ (parseMethodDescriptor yX5_excess.desc).map (fun d => d.parameters.length) = some 1 := by decide +kernel
set_option maxHeartbeats 4000000 in
set_option maxRecDepth 100000 in
theorem kX5_excess (l : Launch) (D : va_G) (cA : Nat → ClassId) (a0 a_tree a_draft a_images a_kept a_tape a_sheets a_tree_row a_tree_weights a_tree_carried a_tree_row_gains a_tree_row_lows a_tree_row_highs : Nat) (f_latestTorn : Int32) (f_tree_row_low : Int64) (f_tree_row_high : Int64) (f_tree_row_places : Int32) (f_tree_row_gains : Nat → Int32) (f_tree_row_lows : Nat → Int32) (f_tree_row_highs : Nat → Int32) (f_tree_weights : Nat → Int32) (f_tree_carried : Nat → Int32) (p1 : Int32) (post : Int32 → Prop) (h : wX5_excess f_tree_row_low f_tree_row_high f_tree_row_places p1 post) : Met l yX5_excess wsX5_excess rX5_excess (zPr D cA [.ref a0, .int p1] [(a0, .inr (4, [.ref a_tree, .ref a_draft, .ref a_images, .ref a_kept, .ref a_tape, .ref a_sheets, .int f_latestTorn])), (a_tree, .inr (3, [.ref a_tree_row, .ref a_tree_weights, .ref a_tree_carried])), (a_tree_row, .inr (0, [.long f_tree_row_low, .long f_tree_row_high, .int f_tree_row_places, .ref a_tree_row_gains, .ref a_tree_row_lows, .ref a_tree_row_highs])), (a_tree_row_gains, .inl (cA 0, 8, .inl f_tree_row_gains)), (a_tree_row_lows, .inl (cA 0, 8, .inl f_tree_row_lows)), (a_tree_row_highs, .inl (cA 0, 8, .inl f_tree_row_highs)), (a_tree_weights, .inl (cA 0, 64, .inl f_tree_weights)), (a_tree_carried, .inl (cA 0, 64, .inl f_tree_carried))]) (vp_Si post) 0 0 (fun _ => False) := by
  refine z_ro (cc := cX5_excess) (maxL := 2) (ret := (some .int)) (by decide) rfl (Nat.le_of_ble_eq_true rfl) ?_
  intro p e s m args below meth c ls hx hb hr hlk hml hown hts hK hP hl
  have hown : s.vm.findClass RX5 = some m.cls := hown
  have hl : lv_has ls 2 [(0, .ref a0), (1, .int p1)] := hl
  have hw := h
  unfold wX5_excess at hw
  have iwX5 : ∀ w ∈ wsX50, w ∈ wsX5_excess := fun w h9 => List.mem_cons_of_mem _ (List.mem_append_left _ (List.mem_append_left _ (List.mem_append_right _ h9)))
  have kf12 := hts (.fieldLink RX5 12 "ExcessTree" "tree" "LExcessTree$Tree;") (by decide +kernel)
  have iwX4 : ∀ w ∈ wsX40, w ∈ wsX5_excess := fun w h9 => List.mem_cons_of_mem _ (List.mem_append_left _ (List.mem_append_right _ h9))
  have kn70 := hK.nest (A := args) 5 rfl
  refine lv_aload_n hx hb dX5_excess_0 rfl (lv_at hl 0 rfl) ?_
  refine lv_iload_n hx hb dX5_excess_1 rfl (lv_at hl 1 rfl) ?_
  refine z_ri [.int p1] [] ⟨hx, hb, hml, hown, hts⟩ (kX5_isPoint l D cA a0 a_tree a_draft a_images a_kept a_tape a_sheets a_tree_row a_tree_weights a_tree_carried a_tree_row_gains a_tree_row_lows a_tree_row_highs f_latestTorn f_tree_row_low f_tree_row_high f_tree_row_places f_tree_row_gains f_tree_row_lows f_tree_row_highs f_tree_weights f_tree_carried p1 _ hw) (cwV 1 hts gX5_excess_X5_isPoint rfl rfl rfl vX5_isPoint ⟨Nat.le_of_ble_eq_true rfl, Nat.le_of_ble_eq_true rfl⟩) hK (hP.sub [0, 1, 2, 3, 4, 5, 6, 7] rfl) (va_recv hK.1 (hP.sub (ws' := [(a0, .inr (4, [.ref a_tree, .ref a_draft, .ref a_images, .ref a_kept, .ref a_tape, .ref a_sheets, .int f_latestTorn]))]) [0] rfl) (ci := 4) (q0 := 0) rfl rfl) rfl hl.1 rfl (Nat.le_of_ble_eq_true rfl) dX5_excess_2 ⟨Nat.zero_le _, Nat.zero_le _⟩ (fun r_1 hw => ?_)
  refine lv_if_eq (tgt := 22) hx hb dX5_excess_5 (by decide) (fun c_2 => ?_) (fun c_2 => ?_)
  · have hw := hw.1 c_2
    refine lv_iconst (v := -1) hx hb dX5_excess_22 (by decide) ?_
    exact z_iret hx hb hr hlk hw dX5_excess_23
  · have hw := hw.2 c_2
    refine lv_aload_n hx hb dX5_excess_8 rfl (lv_at hl 0 rfl) ?_
    refine va_get (D := D) (ci := 4) (v := .ref a_tree) (C := RX5) (T := TX5) (N := 7) hx hb hts iwX5 hown hK.1 hP 0 rfl rfl 0 (by decide) kf12 (fun _ h9 => h9) rfl dX5_excess_9 ?_
    refine va_getN (own := RX5) (index := 70) (ref := "ExcessTree$Tree") (host := "ExcessTree") (D := D) (ci := 3) (v := .ref a_tree_row) (C := RX4) (T := TX4) (N := 3) hx hb hts iwX4 hown hK.1 hP 1 rfl rfl 0 (by decide) kn70 (fun _ h9 => h9) rfl dX5_excess_12 ?_
    refine lv_iload_n hx hb dX5_excess_15 rfl (lv_at hl 1 rfl) ?_
    refine z_ri [.int p1] [] ⟨hx, hb, hml, hown, hts⟩ (kX1_excessAt l D cA a_tree_row a_tree_row_gains a_tree_row_lows a_tree_row_highs f_tree_row_low f_tree_row_high f_tree_row_places f_tree_row_gains f_tree_row_lows f_tree_row_highs p1 _ hw) (cwV 1 hts gX5_excess_X1_excessAt rfl rfl rfl vX1_excessAt ⟨Nat.le_of_ble_eq_true rfl, Nat.le_of_ble_eq_true rfl⟩) hK (hP.sub [2, 3, 4, 5] rfl) (va_recv hK.1 (hP.sub (ws' := [(a_tree_row, .inr (0, [.long f_tree_row_low, .long f_tree_row_high, .int f_tree_row_places, .ref a_tree_row_gains, .ref a_tree_row_lows, .ref a_tree_row_highs]))]) [2] rfl) (ci := 0) (q0 := 0) rfl rfl) rfl hl.1 rfl (Nat.le_of_ble_eq_true rfl) dX5_excess_16 ⟨Nat.zero_le _, Nat.zero_le _⟩ (fun r_3 hw => ?_)
    refine lv_goto (tgt := 23) hx hb dX5_excess_19 (by decide) ?_
    exact z_iret hx hb hr hlk hw dX5_excess_23
def wX5_rank (f_tree_row_low : Int64) (f_tree_row_high : Int64) (f_tree_row_places : Int32) (p1 : Int32) (p2 : Int32) (post : Int32 → Prop) : Prop := (wX5_isPoint f_tree_row_places p1 (fun r_1 : Int32 => (((r_1 = 0 → post (-1 : Int32)) ∧ (¬ r_1 = 0 → (wX5_within p2 (0 : Int32) (2 : Int32) (fun r_3 : Int32 => (((¬ r_3 = 0 → ((¬ p2 = (2 : Int32) → (wX1_signsAhead f_tree_row_low f_tree_row_high f_tree_row_places p1 p2 (fun r_6 : Int32 => (post r_6)))) ∧ (p2 = (2 : Int32) → (wX1_signsAhead f_tree_row_low f_tree_row_high f_tree_row_places (p1 - (1 : Int32)) p2 (fun r_7 : Int32 => (post r_7)))))) ∧ (r_3 = 0 → post (-1 : Int32)))))))))))
abbrev rX5_rank : Room := { frames := 3, cells := 0, slots := 0, locals := 67 }
theorem vX5_rank : yX5_rank.cls = RX5 ∧ yX5_rank.cls ≠ "java/lang/invoke/MethodHandle" ∧ yX5_rank.cls ≠ "java/lang/invoke/VarHandle" ∧ (parseMethodDescriptor yX5_rank.desc).map (fun d => d.parameters.length) = some 2 := by decide +kernel
set_option maxHeartbeats 4000000 in
set_option maxRecDepth 100000 in
theorem kX5_rank (l : Launch) (D : va_G) (cA : Nat → ClassId) (a0 a_tree a_draft a_images a_kept a_tape a_sheets a_tree_row a_tree_weights a_tree_carried a_tree_row_gains a_tree_row_lows a_tree_row_highs : Nat) (f_latestTorn : Int32) (f_tree_row_low : Int64) (f_tree_row_high : Int64) (f_tree_row_places : Int32) (f_tree_row_gains : Nat → Int32) (f_tree_row_lows : Nat → Int32) (f_tree_row_highs : Nat → Int32) (f_tree_weights : Nat → Int32) (f_tree_carried : Nat → Int32) (p1 : Int32) (p2 : Int32) (post : Int32 → Prop) (h : wX5_rank f_tree_row_low f_tree_row_high f_tree_row_places p1 p2 post) : Met l yX5_rank wsX5_rank rX5_rank (zPr D cA [.ref a0, .int p1, .int p2] [(a0, .inr (4, [.ref a_tree, .ref a_draft, .ref a_images, .ref a_kept, .ref a_tape, .ref a_sheets, .int f_latestTorn])), (a_tree, .inr (3, [.ref a_tree_row, .ref a_tree_weights, .ref a_tree_carried])), (a_tree_row, .inr (0, [.long f_tree_row_low, .long f_tree_row_high, .int f_tree_row_places, .ref a_tree_row_gains, .ref a_tree_row_lows, .ref a_tree_row_highs])), (a_tree_row_gains, .inl (cA 0, 8, .inl f_tree_row_gains)), (a_tree_row_lows, .inl (cA 0, 8, .inl f_tree_row_lows)), (a_tree_row_highs, .inl (cA 0, 8, .inl f_tree_row_highs)), (a_tree_weights, .inl (cA 0, 64, .inl f_tree_weights)), (a_tree_carried, .inl (cA 0, 64, .inl f_tree_carried))]) (vp_Si post) 0 0 (fun _ => False) := by
  refine z_ro (cc := cX5_rank) (maxL := 3) (ret := (some .int)) (by decide) rfl (Nat.le_of_ble_eq_true rfl) ?_
  intro p e s m args below meth c ls hx hb hr hlk hml hown hts hK hP hl
  have hown : s.vm.findClass RX5 = some m.cls := hown
  have hl : lv_has ls 3 [(0, .ref a0), (1, .int p1), (2, .int p2)] := hl
  have hw := h
  unfold wX5_rank at hw
  have iwX5 : ∀ w ∈ wsX50, w ∈ wsX5_rank := fun w h9 => List.mem_cons_of_mem _ (List.mem_append_left _ (List.mem_append_left _ (List.mem_append_right _ h9)))
  have kf12 := hts (.fieldLink RX5 12 "ExcessTree" "tree" "LExcessTree$Tree;") (by decide +kernel)
  have iwX4 : ∀ w ∈ wsX40, w ∈ wsX5_rank := fun w h9 => List.mem_cons_of_mem _ (List.mem_append_left _ (List.mem_append_right _ h9))
  have kn70 := hK.nest (A := args) 5 rfl
  refine lv_aload_n hx hb dX5_rank_0 rfl (lv_at hl 0 rfl) ?_
  refine lv_iload_n hx hb dX5_rank_1 rfl (lv_at hl 1 rfl) ?_
  refine z_ri [.int p1] [] ⟨hx, hb, hml, hown, hts⟩ (kX5_isPoint l D cA a0 a_tree a_draft a_images a_kept a_tape a_sheets a_tree_row a_tree_weights a_tree_carried a_tree_row_gains a_tree_row_lows a_tree_row_highs f_latestTorn f_tree_row_low f_tree_row_high f_tree_row_places f_tree_row_gains f_tree_row_lows f_tree_row_highs f_tree_weights f_tree_carried p1 _ hw) (cwV 1 hts gX5_rank_X5_isPoint rfl rfl rfl vX5_isPoint ⟨Nat.le_of_ble_eq_true rfl, Nat.le_of_ble_eq_true rfl⟩) hK (hP.sub [0, 1, 2, 3, 4, 5, 6, 7] rfl) (va_recv hK.1 (hP.sub (ws' := [(a0, .inr (4, [.ref a_tree, .ref a_draft, .ref a_images, .ref a_kept, .ref a_tape, .ref a_sheets, .int f_latestTorn]))]) [0] rfl) (ci := 4) (q0 := 0) rfl rfl) rfl hl.1 rfl (Nat.le_of_ble_eq_true rfl) dX5_rank_2 ⟨Nat.zero_le _, Nat.zero_le _⟩ (fun r_1 hw => ?_)
  refine lv_if_eq (tgt := 17) hx hb dX5_rank_5 (by decide) (fun c_2 => ?_) (fun c_2 => ?_)
  · have hw := hw.1 c_2
    refine lv_iconst (v := -1) hx hb dX5_rank_17 (by decide) ?_
    exact z_iret hx hb hr hlk hw dX5_rank_18
  · have hw := hw.2 c_2
    refine lv_iload_n hx hb dX5_rank_8 rfl (lv_at hl 2 rfl) ?_
    refine lv_iconst (v := 0) hx hb dX5_rank_9 (by decide) ?_
    refine lv_iconst (v := 2) hx hb dX5_rank_10 (by decide) ?_
    refine z_si [.int p2, .int (0 : Int32), .int (2 : Int32)] [] ⟨hx, hb, hml, hown, hts⟩ (kX5_within l D cA p2 (0 : Int32) (2 : Int32) _ hw) (va_cwS 3 hts gX5_rank_X5_within rfl rfl rfl vX5_within ⟨Nat.le_of_ble_eq_true rfl, Nat.le_of_ble_eq_true rfl⟩) hK z_p0 rfl hl.1 rfl (Nat.le_of_ble_eq_true rfl) dX5_rank_11 ⟨Nat.zero_le _, Nat.zero_le _⟩ (fun r_3 hw => ?_)
    refine lv_if_ne (tgt := 19) hx hb dX5_rank_14 (by decide) (fun c_4 => ?_) (fun c_4 => ?_)
    · have hw := hw.1 c_4
      refine lv_aload_n hx hb dX5_rank_19 rfl (lv_at hl 0 rfl) ?_
      refine va_get (D := D) (ci := 4) (v := .ref a_tree) (C := RX5) (T := TX5) (N := 7) hx hb hts iwX5 hown hK.1 hP 0 rfl rfl 0 (by decide) kf12 (fun _ h9 => h9) rfl dX5_rank_20 ?_
      refine va_getN (own := RX5) (index := 70) (ref := "ExcessTree$Tree") (host := "ExcessTree") (D := D) (ci := 3) (v := .ref a_tree_row) (C := RX4) (T := TX4) (N := 3) hx hb hts iwX4 hown hK.1 hP 1 rfl rfl 0 (by decide) kn70 (fun _ h9 => h9) rfl dX5_rank_23 ?_
      refine lv_iload_n hx hb dX5_rank_26 rfl (lv_at hl 2 rfl) ?_
      refine lv_iconst (v := 2) hx hb dX5_rank_27 (by decide) ?_
      refine lv_icmp_ne (tgt := 37) hx hb dX5_rank_28 (by decide) (fun c_5 => ?_) (fun c_5 => ?_)
      · have hw := hw.1 c_5
        refine lv_iload_n hx hb dX5_rank_37 rfl (lv_at hl 1 rfl) ?_
        refine lv_iload_n hx hb dX5_rank_38 rfl (lv_at hl 2 rfl) ?_
        refine z_ri [.int p1, .int p2] [] ⟨hx, hb, hml, hown, hts⟩ (kX1_signsAhead l D cA a_tree_row a_tree_row_gains a_tree_row_lows a_tree_row_highs f_tree_row_low f_tree_row_high f_tree_row_places f_tree_row_gains f_tree_row_lows f_tree_row_highs p1 p2 _ hw) (cwV 2 hts gX5_rank_X1_signsAhead rfl rfl rfl vX1_signsAhead ⟨Nat.le_of_ble_eq_true rfl, Nat.le_of_ble_eq_true rfl⟩) hK (hP.sub [2, 3, 4, 5] rfl) (va_recv hK.1 (hP.sub (ws' := [(a_tree_row, .inr (0, [.long f_tree_row_low, .long f_tree_row_high, .int f_tree_row_places, .ref a_tree_row_gains, .ref a_tree_row_lows, .ref a_tree_row_highs]))]) [2] rfl) (ci := 0) (q0 := 0) rfl rfl) rfl hl.1 rfl (Nat.le_of_ble_eq_true rfl) dX5_rank_39 ⟨Nat.zero_le _, Nat.zero_le _⟩ (fun r_6 hw => ?_)
        exact z_iret hx hb hr hlk hw dX5_rank_42
      · have hw := hw.2 c_5
        refine lv_iload_n hx hb dX5_rank_31 rfl (lv_at hl 1 rfl) ?_
        refine lv_iconst (v := 1) hx hb dX5_rank_32 (by decide) ?_
        refine lv_isub hx hb dX5_rank_33 ?_
        refine lv_goto (tgt := 38) hx hb dX5_rank_34 (by decide) ?_
        refine lv_iload_n hx hb dX5_rank_38 rfl (lv_at hl 2 rfl) ?_
        refine z_ri [.int (p1 - (1 : Int32)), .int p2] [] ⟨hx, hb, hml, hown, hts⟩ (kX1_signsAhead l D cA a_tree_row a_tree_row_gains a_tree_row_lows a_tree_row_highs f_tree_row_low f_tree_row_high f_tree_row_places f_tree_row_gains f_tree_row_lows f_tree_row_highs (p1 - (1 : Int32)) p2 _ hw) (cwV 2 hts gX5_rank_X1_signsAhead rfl rfl rfl vX1_signsAhead ⟨Nat.le_of_ble_eq_true rfl, Nat.le_of_ble_eq_true rfl⟩) hK (hP.sub [2, 3, 4, 5] rfl) (va_recv hK.1 (hP.sub (ws' := [(a_tree_row, .inr (0, [.long f_tree_row_low, .long f_tree_row_high, .int f_tree_row_places, .ref a_tree_row_gains, .ref a_tree_row_lows, .ref a_tree_row_highs]))]) [2] rfl) (ci := 0) (q0 := 0) rfl rfl) rfl hl.1 rfl (Nat.le_of_ble_eq_true rfl) dX5_rank_39 ⟨Nat.zero_le _, Nat.zero_le _⟩ (fun r_7 hw => ?_)
        exact z_iret hx hb hr hlk hw dX5_rank_42
    · have hw := hw.2 c_4
      refine lv_iconst (v := -1) hx hb dX5_rank_17 (by decide) ?_
      exact z_iret hx hb hr hlk hw dX5_rank_18
def wX5_select (f_tree_row_low : Int64) (f_tree_row_high : Int64) (f_tree_row_places : Int32) (p1 : Int32) (p2 : Int32) (post : Int32 → Prop) : Prop := ((p1 < 0 → post (-1 : Int32)) ∧ (¬ p1 < 0 → (wX5_within p2 (0 : Int32) (2 : Int32) (fun r_2 : Int32 => (((¬ r_2 = 0 → (wX1_placeOfSign f_tree_row_low f_tree_row_high f_tree_row_places p1 p2 (fun r_4 : Int32 => (post r_4)))) ∧ (r_2 = 0 → post (-1 : Int32))))))))
abbrev rX5_select : Room := { frames := 3, cells := 0, slots := 0, locals := 74 }
theorem vX5_select : yX5_select.cls = RX5 ∧ yX5_select.cls ≠ "java/lang/invoke/MethodHandle" ∧ yX5_select.cls ≠ "java/lang/invoke/VarHandle" ∧ (parseMethodDescriptor yX5_select.desc).map (fun d => d.parameters.length) = some 2 := by decide +kernel
set_option maxHeartbeats 4000000 in
set_option maxRecDepth 100000 in
theorem kX5_select (l : Launch) (D : va_G) (cA : Nat → ClassId) (a0 a_tree a_draft a_images a_kept a_tape a_sheets a_tree_row a_tree_weights a_tree_carried a_tree_row_gains a_tree_row_lows a_tree_row_highs : Nat) (f_latestTorn : Int32) (f_tree_row_low : Int64) (f_tree_row_high : Int64) (f_tree_row_places : Int32) (f_tree_row_gains : Nat → Int32) (f_tree_row_lows : Nat → Int32) (f_tree_row_highs : Nat → Int32) (f_tree_weights : Nat → Int32) (f_tree_carried : Nat → Int32) (p1 : Int32) (p2 : Int32) (post : Int32 → Prop) (h : wX5_select f_tree_row_low f_tree_row_high f_tree_row_places p1 p2 post) : Met l yX5_select wsX5_select rX5_select (zPr D cA [.ref a0, .int p1, .int p2] [(a0, .inr (4, [.ref a_tree, .ref a_draft, .ref a_images, .ref a_kept, .ref a_tape, .ref a_sheets, .int f_latestTorn])), (a_tree, .inr (3, [.ref a_tree_row, .ref a_tree_weights, .ref a_tree_carried])), (a_tree_row, .inr (0, [.long f_tree_row_low, .long f_tree_row_high, .int f_tree_row_places, .ref a_tree_row_gains, .ref a_tree_row_lows, .ref a_tree_row_highs])), (a_tree_row_gains, .inl (cA 0, 8, .inl f_tree_row_gains)), (a_tree_row_lows, .inl (cA 0, 8, .inl f_tree_row_lows)), (a_tree_row_highs, .inl (cA 0, 8, .inl f_tree_row_highs)), (a_tree_weights, .inl (cA 0, 64, .inl f_tree_weights)), (a_tree_carried, .inl (cA 0, 64, .inl f_tree_carried))]) (vp_Si post) 0 0 (fun _ => False) := by
  refine z_ro (cc := cX5_select) (maxL := 3) (ret := (some .int)) (by decide) rfl (Nat.le_of_ble_eq_true rfl) ?_
  intro p e s m args below meth c ls hx hb hr hlk hml hown hts hK hP hl
  have hown : s.vm.findClass RX5 = some m.cls := hown
  have hl : lv_has ls 3 [(0, .ref a0), (1, .int p1), (2, .int p2)] := hl
  have hw := h
  unfold wX5_select at hw
  have iwX5 : ∀ w ∈ wsX50, w ∈ wsX5_select := fun w h9 => List.mem_cons_of_mem _ (List.mem_append_left _ (List.mem_append_left _ (List.mem_append_right _ h9)))
  have kf12 := hts (.fieldLink RX5 12 "ExcessTree" "tree" "LExcessTree$Tree;") (by decide +kernel)
  have iwX4 : ∀ w ∈ wsX40, w ∈ wsX5_select := fun w h9 => List.mem_cons_of_mem _ (List.mem_append_left _ (List.mem_append_right _ h9))
  have kn70 := hK.nest (A := args) 5 rfl
  refine lv_iload_n hx hb dX5_select_0 rfl (lv_at hl 1 rfl) ?_
  refine lv_if_lt (tgt := 13) hx hb dX5_select_1 (by decide) (fun c_1 => ?_) (fun c_1 => ?_)
  · have hw := hw.1 c_1
    refine lv_iconst (v := -1) hx hb dX5_select_13 (by decide) ?_
    exact z_iret hx hb hr hlk hw dX5_select_14
  · have hw := hw.2 c_1
    refine lv_iload_n hx hb dX5_select_4 rfl (lv_at hl 2 rfl) ?_
    refine lv_iconst (v := 0) hx hb dX5_select_5 (by decide) ?_
    refine lv_iconst (v := 2) hx hb dX5_select_6 (by decide) ?_
    refine z_si [.int p2, .int (0 : Int32), .int (2 : Int32)] [] ⟨hx, hb, hml, hown, hts⟩ (kX5_within l D cA p2 (0 : Int32) (2 : Int32) _ hw) (va_cwS 3 hts gX5_select_X5_within rfl rfl rfl vX5_within ⟨Nat.le_of_ble_eq_true rfl, Nat.le_of_ble_eq_true rfl⟩) hK z_p0 rfl hl.1 rfl (Nat.le_of_ble_eq_true rfl) dX5_select_7 ⟨Nat.zero_le _, Nat.zero_le _⟩ (fun r_2 hw => ?_)
    refine lv_if_ne (tgt := 15) hx hb dX5_select_10 (by decide) (fun c_3 => ?_) (fun c_3 => ?_)
    · have hw := hw.1 c_3
      refine lv_aload_n hx hb dX5_select_15 rfl (lv_at hl 0 rfl) ?_
      refine va_get (D := D) (ci := 4) (v := .ref a_tree) (C := RX5) (T := TX5) (N := 7) hx hb hts iwX5 hown hK.1 hP 0 rfl rfl 0 (by decide) kf12 (fun _ h9 => h9) rfl dX5_select_16 ?_
      refine va_getN (own := RX5) (index := 70) (ref := "ExcessTree$Tree") (host := "ExcessTree") (D := D) (ci := 3) (v := .ref a_tree_row) (C := RX4) (T := TX4) (N := 3) hx hb hts iwX4 hown hK.1 hP 1 rfl rfl 0 (by decide) kn70 (fun _ h9 => h9) rfl dX5_select_19 ?_
      refine lv_iload_n hx hb dX5_select_22 rfl (lv_at hl 1 rfl) ?_
      refine lv_iload_n hx hb dX5_select_23 rfl (lv_at hl 2 rfl) ?_
      refine z_ri [.int p1, .int p2] [] ⟨hx, hb, hml, hown, hts⟩ (kX1_placeOfSign l D cA a_tree_row a_tree_row_gains a_tree_row_lows a_tree_row_highs f_tree_row_low f_tree_row_high f_tree_row_places f_tree_row_gains f_tree_row_lows f_tree_row_highs p1 p2 _ hw) (cwV 2 hts gX5_select_X1_placeOfSign rfl rfl rfl vX1_placeOfSign ⟨Nat.le_of_ble_eq_true rfl, Nat.le_of_ble_eq_true rfl⟩) hK (hP.sub [2, 3, 4, 5] rfl) (va_recv hK.1 (hP.sub (ws' := [(a_tree_row, .inr (0, [.long f_tree_row_low, .long f_tree_row_high, .int f_tree_row_places, .ref a_tree_row_gains, .ref a_tree_row_lows, .ref a_tree_row_highs]))]) [2] rfl) (ci := 0) (q0 := 0) rfl rfl) rfl hl.1 rfl (Nat.le_of_ble_eq_true rfl) dX5_select_24 ⟨Nat.zero_le _, Nat.zero_le _⟩ (fun r_4 hw => ?_)
      exact z_iret hx hb hr hlk hw dX5_select_27
    · have hw := hw.2 c_3
      refine lv_iconst (v := -1) hx hb dX5_select_13 (by decide) ?_
      exact z_iret hx hb hr hlk hw dX5_select_14
def wX5_forward (f_tree_row_low : Int64) (f_tree_row_high : Int64) (f_tree_row_places : Int32) (f_tree_row_gains : Nat → Int32) (f_tree_row_lows : Nat → Int32) (f_tree_row_highs : Nat → Int32) (p1 : Int32) (p2 : Int32) (post : Int32 → Prop) : Prop := (wX5_isPoint f_tree_row_places p1 (fun r_1 : Int32 => (((r_1 = 0 → post (-1 : Int32)) ∧ (¬ r_1 = 0 → (wX1_searchOn f_tree_row_low f_tree_row_high f_tree_row_places f_tree_row_gains f_tree_row_lows f_tree_row_highs p1 p2 (fun r_3 : Int32 => (post r_3))))))))
abbrev rX5_forward : Room := { frames := 3, cells := 0, slots := 0, locals := 66 }
theorem vX5_forward : yX5_forward.cls = RX5 ∧ yX5_forward.cls ≠ "java/lang/invoke/MethodHandle" ∧ yX5_forward.cls ≠ "java/lang/invoke/VarHandle" ∧ (parseMethodDescriptor yX5_forward.desc).map (fun d => d.parameters.length) = some 2 := by decide +kernel
set_option maxHeartbeats 4000000 in
set_option maxRecDepth 100000 in
theorem kX5_forward (l : Launch) (D : va_G) (cA : Nat → ClassId) (a0 a_tree a_draft a_images a_kept a_tape a_sheets a_tree_row a_tree_weights a_tree_carried a_tree_row_gains a_tree_row_lows a_tree_row_highs : Nat) (f_latestTorn : Int32) (f_tree_row_low : Int64) (f_tree_row_high : Int64) (f_tree_row_places : Int32) (f_tree_row_gains : Nat → Int32) (f_tree_row_lows : Nat → Int32) (f_tree_row_highs : Nat → Int32) (f_tree_weights : Nat → Int32) (f_tree_carried : Nat → Int32) (p1 : Int32) (p2 : Int32) (post : Int32 → Prop) (h : wX5_forward f_tree_row_low f_tree_row_high f_tree_row_places f_tree_row_gains f_tree_row_lows f_tree_row_highs p1 p2 post) : Met l yX5_forward wsX5_forward rX5_forward (zPr D cA [.ref a0, .int p1, .int p2] [(a0, .inr (4, [.ref a_tree, .ref a_draft, .ref a_images, .ref a_kept, .ref a_tape, .ref a_sheets, .int f_latestTorn])), (a_tree, .inr (3, [.ref a_tree_row, .ref a_tree_weights, .ref a_tree_carried])), (a_tree_row, .inr (0, [.long f_tree_row_low, .long f_tree_row_high, .int f_tree_row_places, .ref a_tree_row_gains, .ref a_tree_row_lows, .ref a_tree_row_highs])), (a_tree_row_gains, .inl (cA 0, 8, .inl f_tree_row_gains)), (a_tree_row_lows, .inl (cA 0, 8, .inl f_tree_row_lows)), (a_tree_row_highs, .inl (cA 0, 8, .inl f_tree_row_highs)), (a_tree_weights, .inl (cA 0, 64, .inl f_tree_weights)), (a_tree_carried, .inl (cA 0, 64, .inl f_tree_carried))]) (vp_Si post) 0 0 (fun _ => False) := by
  refine z_ro (cc := cX5_forward) (maxL := 3) (ret := (some .int)) (by decide) rfl (Nat.le_of_ble_eq_true rfl) ?_
  intro p e s m args below meth c ls hx hb hr hlk hml hown hts hK hP hl
  have hown : s.vm.findClass RX5 = some m.cls := hown
  have hl : lv_has ls 3 [(0, .ref a0), (1, .int p1), (2, .int p2)] := hl
  have hw := h
  unfold wX5_forward at hw
  have iwX5 : ∀ w ∈ wsX50, w ∈ wsX5_forward := fun w h9 => List.mem_cons_of_mem _ (List.mem_append_left _ (List.mem_append_left _ (List.mem_append_right _ h9)))
  have kf12 := hts (.fieldLink RX5 12 "ExcessTree" "tree" "LExcessTree$Tree;") (by decide +kernel)
  have iwX4 : ∀ w ∈ wsX40, w ∈ wsX5_forward := fun w h9 => List.mem_cons_of_mem _ (List.mem_append_left _ (List.mem_append_right _ h9))
  have kn70 := hK.nest (A := args) 5 rfl
  refine lv_aload_n hx hb dX5_forward_0 rfl (lv_at hl 0 rfl) ?_
  refine lv_iload_n hx hb dX5_forward_1 rfl (lv_at hl 1 rfl) ?_
  refine z_ri [.int p1] [] ⟨hx, hb, hml, hown, hts⟩ (kX5_isPoint l D cA a0 a_tree a_draft a_images a_kept a_tape a_sheets a_tree_row a_tree_weights a_tree_carried a_tree_row_gains a_tree_row_lows a_tree_row_highs f_latestTorn f_tree_row_low f_tree_row_high f_tree_row_places f_tree_row_gains f_tree_row_lows f_tree_row_highs f_tree_weights f_tree_carried p1 _ hw) (cwV 1 hts gX5_forward_X5_isPoint rfl rfl rfl vX5_isPoint ⟨Nat.le_of_ble_eq_true rfl, Nat.le_of_ble_eq_true rfl⟩) hK (hP.sub [0, 1, 2, 3, 4, 5, 6, 7] rfl) (va_recv hK.1 (hP.sub (ws' := [(a0, .inr (4, [.ref a_tree, .ref a_draft, .ref a_images, .ref a_kept, .ref a_tape, .ref a_sheets, .int f_latestTorn]))]) [0] rfl) (ci := 4) (q0 := 0) rfl rfl) rfl hl.1 rfl (Nat.le_of_ble_eq_true rfl) dX5_forward_2 ⟨Nat.zero_le _, Nat.zero_le _⟩ (fun r_1 hw => ?_)
  refine lv_if_eq (tgt := 23) hx hb dX5_forward_5 (by decide) (fun c_2 => ?_) (fun c_2 => ?_)
  · have hw := hw.1 c_2
    refine lv_iconst (v := -1) hx hb dX5_forward_23 (by decide) ?_
    exact z_iret hx hb hr hlk hw dX5_forward_24
  · have hw := hw.2 c_2
    refine lv_aload_n hx hb dX5_forward_8 rfl (lv_at hl 0 rfl) ?_
    refine va_get (D := D) (ci := 4) (v := .ref a_tree) (C := RX5) (T := TX5) (N := 7) hx hb hts iwX5 hown hK.1 hP 0 rfl rfl 0 (by decide) kf12 (fun _ h9 => h9) rfl dX5_forward_9 ?_
    refine va_getN (own := RX5) (index := 70) (ref := "ExcessTree$Tree") (host := "ExcessTree") (D := D) (ci := 3) (v := .ref a_tree_row) (C := RX4) (T := TX4) (N := 3) hx hb hts iwX4 hown hK.1 hP 1 rfl rfl 0 (by decide) kn70 (fun _ h9 => h9) rfl dX5_forward_12 ?_
    refine lv_iload_n hx hb dX5_forward_15 rfl (lv_at hl 1 rfl) ?_
    refine lv_iload_n hx hb dX5_forward_16 rfl (lv_at hl 2 rfl) ?_
    refine z_ri [.int p1, .int p2] [] ⟨hx, hb, hml, hown, hts⟩ (kX1_searchOn l D cA a_tree_row a_tree_row_gains a_tree_row_lows a_tree_row_highs f_tree_row_low f_tree_row_high f_tree_row_places f_tree_row_gains f_tree_row_lows f_tree_row_highs p1 p2 _ hw) (cwV 2 hts gX5_forward_X1_searchOn rfl rfl rfl vX1_searchOn ⟨Nat.le_of_ble_eq_true rfl, Nat.le_of_ble_eq_true rfl⟩) hK (hP.sub [2, 3, 4, 5] rfl) (va_recv hK.1 (hP.sub (ws' := [(a_tree_row, .inr (0, [.long f_tree_row_low, .long f_tree_row_high, .int f_tree_row_places, .ref a_tree_row_gains, .ref a_tree_row_lows, .ref a_tree_row_highs]))]) [2] rfl) (ci := 0) (q0 := 0) rfl rfl) rfl hl.1 rfl (Nat.le_of_ble_eq_true rfl) dX5_forward_17 ⟨Nat.zero_le _, Nat.zero_le _⟩ (fun r_3 hw => ?_)
    refine lv_goto (tgt := 24) hx hb dX5_forward_20 (by decide) ?_
    exact z_iret hx hb hr hlk hw dX5_forward_24
def wX5_backward (f_tree_row_low : Int64) (f_tree_row_high : Int64) (f_tree_row_places : Int32) (f_tree_row_gains : Nat → Int32) (f_tree_row_lows : Nat → Int32) (f_tree_row_highs : Nat → Int32) (p1 : Int32) (p2 : Int32) (post : Int32 → Prop) : Prop := (wX5_isPoint f_tree_row_places p1 (fun r_1 : Int32 => (((r_1 = 0 → post (-1 : Int32)) ∧ (¬ r_1 = 0 → (wX1_searchBack f_tree_row_low f_tree_row_high f_tree_row_gains f_tree_row_lows f_tree_row_highs p1 p2 (fun r_3 : Int32 => (post r_3))))))))
abbrev rX5_backward : Room := { frames := 3, cells := 0, slots := 0, locals := 66 }
theorem vX5_backward : yX5_backward.cls = RX5 ∧ yX5_backward.cls ≠ "java/lang/invoke/MethodHandle" ∧ yX5_backward.cls ≠ "java/lang/invoke/VarHandle" ∧ (parseMethodDescriptor yX5_backward.desc).map (fun d => d.parameters.length) = some 2 := by decide +kernel
set_option maxHeartbeats 4000000 in
set_option maxRecDepth 100000 in
theorem kX5_backward (l : Launch) (D : va_G) (cA : Nat → ClassId) (a0 a_tree a_draft a_images a_kept a_tape a_sheets a_tree_row a_tree_weights a_tree_carried a_tree_row_gains a_tree_row_lows a_tree_row_highs : Nat) (f_latestTorn : Int32) (f_tree_row_low : Int64) (f_tree_row_high : Int64) (f_tree_row_places : Int32) (f_tree_row_gains : Nat → Int32) (f_tree_row_lows : Nat → Int32) (f_tree_row_highs : Nat → Int32) (f_tree_weights : Nat → Int32) (f_tree_carried : Nat → Int32) (p1 : Int32) (p2 : Int32) (post : Int32 → Prop) (h : wX5_backward f_tree_row_low f_tree_row_high f_tree_row_places f_tree_row_gains f_tree_row_lows f_tree_row_highs p1 p2 post) : Met l yX5_backward wsX5_backward rX5_backward (zPr D cA [.ref a0, .int p1, .int p2] [(a0, .inr (4, [.ref a_tree, .ref a_draft, .ref a_images, .ref a_kept, .ref a_tape, .ref a_sheets, .int f_latestTorn])), (a_tree, .inr (3, [.ref a_tree_row, .ref a_tree_weights, .ref a_tree_carried])), (a_tree_row, .inr (0, [.long f_tree_row_low, .long f_tree_row_high, .int f_tree_row_places, .ref a_tree_row_gains, .ref a_tree_row_lows, .ref a_tree_row_highs])), (a_tree_row_gains, .inl (cA 0, 8, .inl f_tree_row_gains)), (a_tree_row_lows, .inl (cA 0, 8, .inl f_tree_row_lows)), (a_tree_row_highs, .inl (cA 0, 8, .inl f_tree_row_highs)), (a_tree_weights, .inl (cA 0, 64, .inl f_tree_weights)), (a_tree_carried, .inl (cA 0, 64, .inl f_tree_carried))]) (vp_Si post) 0 0 (fun _ => False) := by
  refine z_ro (cc := cX5_backward) (maxL := 3) (ret := (some .int)) (by decide) rfl (Nat.le_of_ble_eq_true rfl) ?_
  intro p e s m args below meth c ls hx hb hr hlk hml hown hts hK hP hl
  have hown : s.vm.findClass RX5 = some m.cls := hown
  have hl : lv_has ls 3 [(0, .ref a0), (1, .int p1), (2, .int p2)] := hl
  have hw := h
  unfold wX5_backward at hw
  have iwX5 : ∀ w ∈ wsX50, w ∈ wsX5_backward := fun w h9 => List.mem_cons_of_mem _ (List.mem_append_left _ (List.mem_append_left _ (List.mem_append_right _ h9)))
  have kf12 := hts (.fieldLink RX5 12 "ExcessTree" "tree" "LExcessTree$Tree;") (by decide +kernel)
  have iwX4 : ∀ w ∈ wsX40, w ∈ wsX5_backward := fun w h9 => List.mem_cons_of_mem _ (List.mem_append_left _ (List.mem_append_right _ h9))
  have kn70 := hK.nest (A := args) 5 rfl
  refine lv_aload_n hx hb dX5_backward_0 rfl (lv_at hl 0 rfl) ?_
  refine lv_iload_n hx hb dX5_backward_1 rfl (lv_at hl 1 rfl) ?_
  refine z_ri [.int p1] [] ⟨hx, hb, hml, hown, hts⟩ (kX5_isPoint l D cA a0 a_tree a_draft a_images a_kept a_tape a_sheets a_tree_row a_tree_weights a_tree_carried a_tree_row_gains a_tree_row_lows a_tree_row_highs f_latestTorn f_tree_row_low f_tree_row_high f_tree_row_places f_tree_row_gains f_tree_row_lows f_tree_row_highs f_tree_weights f_tree_carried p1 _ hw) (cwV 1 hts gX5_backward_X5_isPoint rfl rfl rfl vX5_isPoint ⟨Nat.le_of_ble_eq_true rfl, Nat.le_of_ble_eq_true rfl⟩) hK (hP.sub [0, 1, 2, 3, 4, 5, 6, 7] rfl) (va_recv hK.1 (hP.sub (ws' := [(a0, .inr (4, [.ref a_tree, .ref a_draft, .ref a_images, .ref a_kept, .ref a_tape, .ref a_sheets, .int f_latestTorn]))]) [0] rfl) (ci := 4) (q0 := 0) rfl rfl) rfl hl.1 rfl (Nat.le_of_ble_eq_true rfl) dX5_backward_2 ⟨Nat.zero_le _, Nat.zero_le _⟩ (fun r_1 hw => ?_)
  refine lv_if_eq (tgt := 23) hx hb dX5_backward_5 (by decide) (fun c_2 => ?_) (fun c_2 => ?_)
  · have hw := hw.1 c_2
    refine lv_iconst (v := -1) hx hb dX5_backward_23 (by decide) ?_
    exact z_iret hx hb hr hlk hw dX5_backward_24
  · have hw := hw.2 c_2
    refine lv_aload_n hx hb dX5_backward_8 rfl (lv_at hl 0 rfl) ?_
    refine va_get (D := D) (ci := 4) (v := .ref a_tree) (C := RX5) (T := TX5) (N := 7) hx hb hts iwX5 hown hK.1 hP 0 rfl rfl 0 (by decide) kf12 (fun _ h9 => h9) rfl dX5_backward_9 ?_
    refine va_getN (own := RX5) (index := 70) (ref := "ExcessTree$Tree") (host := "ExcessTree") (D := D) (ci := 3) (v := .ref a_tree_row) (C := RX4) (T := TX4) (N := 3) hx hb hts iwX4 hown hK.1 hP 1 rfl rfl 0 (by decide) kn70 (fun _ h9 => h9) rfl dX5_backward_12 ?_
    refine lv_iload_n hx hb dX5_backward_15 rfl (lv_at hl 1 rfl) ?_
    refine lv_iload_n hx hb dX5_backward_16 rfl (lv_at hl 2 rfl) ?_
    refine z_ri [.int p1, .int p2] [] ⟨hx, hb, hml, hown, hts⟩ (kX1_searchBack l D cA a_tree_row a_tree_row_gains a_tree_row_lows a_tree_row_highs f_tree_row_low f_tree_row_high f_tree_row_places f_tree_row_gains f_tree_row_lows f_tree_row_highs p1 p2 _ hw) (cwV 2 hts gX5_backward_X1_searchBack rfl rfl rfl vX1_searchBack ⟨Nat.le_of_ble_eq_true rfl, Nat.le_of_ble_eq_true rfl⟩) hK (hP.sub [2, 3, 4, 5] rfl) (va_recv hK.1 (hP.sub (ws' := [(a_tree_row, .inr (0, [.long f_tree_row_low, .long f_tree_row_high, .int f_tree_row_places, .ref a_tree_row_gains, .ref a_tree_row_lows, .ref a_tree_row_highs]))]) [2] rfl) (ci := 0) (q0 := 0) rfl rfl) rfl hl.1 rfl (Nat.le_of_ble_eq_true rfl) dX5_backward_17 ⟨Nat.zero_le _, Nat.zero_le _⟩ (fun r_3 hw => ?_)
    refine lv_goto (tgt := 24) hx hb dX5_backward_20 (by decide) ?_
    exact z_iret hx hb hr hlk hw dX5_backward_24
def wX5_match (f_tree_row_low : Int64) (f_tree_row_high : Int64) (f_tree_row_places : Int32) (f_tree_row_gains : Nat → Int32) (f_tree_row_lows : Nat → Int32) (f_tree_row_highs : Nat → Int32) (p1 : Int32) (post : Int32 → Prop) : Prop := (wX5_isPlace f_tree_row_places p1 (fun r_1 : Int32 => (((r_1 = 0 → post (-1 : Int32)) ∧ (¬ r_1 = 0 → (wX1_partnerOf f_tree_row_low f_tree_row_high f_tree_row_places f_tree_row_gains f_tree_row_lows f_tree_row_highs p1 (fun r_3 : Int32 => (post r_3))))))))
abbrev rX5_match : Room := { frames := 4, cells := 0, slots := 0, locals := 87 }
theorem vX5_match : yX5_match.cls = RX5 ∧ yX5_match.cls ≠ "java/lang/invoke/MethodHandle" ∧ yX5_match.cls ≠ "java/lang/invoke/VarHandle" ∧ (parseMethodDescriptor yX5_match.desc).map (fun d => d.parameters.length) = some 1 := by decide +kernel
set_option maxHeartbeats 4000000 in
set_option maxRecDepth 100000 in
theorem kX5_match (l : Launch) (D : va_G) (cA : Nat → ClassId) (a0 a_tree a_draft a_images a_kept a_tape a_sheets a_tree_row a_tree_weights a_tree_carried a_tree_row_gains a_tree_row_lows a_tree_row_highs : Nat) (f_latestTorn : Int32) (f_tree_row_low : Int64) (f_tree_row_high : Int64) (f_tree_row_places : Int32) (f_tree_row_gains : Nat → Int32) (f_tree_row_lows : Nat → Int32) (f_tree_row_highs : Nat → Int32) (f_tree_weights : Nat → Int32) (f_tree_carried : Nat → Int32) (p1 : Int32) (post : Int32 → Prop) (h : wX5_match f_tree_row_low f_tree_row_high f_tree_row_places f_tree_row_gains f_tree_row_lows f_tree_row_highs p1 post) : Met l yX5_match wsX5_match rX5_match (zPr D cA [.ref a0, .int p1] [(a0, .inr (4, [.ref a_tree, .ref a_draft, .ref a_images, .ref a_kept, .ref a_tape, .ref a_sheets, .int f_latestTorn])), (a_tree, .inr (3, [.ref a_tree_row, .ref a_tree_weights, .ref a_tree_carried])), (a_tree_row, .inr (0, [.long f_tree_row_low, .long f_tree_row_high, .int f_tree_row_places, .ref a_tree_row_gains, .ref a_tree_row_lows, .ref a_tree_row_highs])), (a_tree_row_gains, .inl (cA 0, 8, .inl f_tree_row_gains)), (a_tree_row_lows, .inl (cA 0, 8, .inl f_tree_row_lows)), (a_tree_row_highs, .inl (cA 0, 8, .inl f_tree_row_highs)), (a_tree_weights, .inl (cA 0, 64, .inl f_tree_weights)), (a_tree_carried, .inl (cA 0, 64, .inl f_tree_carried))]) (vp_Si post) 0 0 (fun _ => False) := by
  refine z_ro (cc := cX5_match) (maxL := 2) (ret := (some .int)) (by decide) rfl (Nat.le_of_ble_eq_true rfl) ?_
  intro p e s m args below meth c ls hx hb hr hlk hml hown hts hK hP hl
  have hown : s.vm.findClass RX5 = some m.cls := hown
  have hl : lv_has ls 2 [(0, .ref a0), (1, .int p1)] := hl
  have hw := h
  unfold wX5_match at hw
  have iwX5 : ∀ w ∈ wsX50, w ∈ wsX5_match := fun w h9 => List.mem_cons_of_mem _ (List.mem_append_left _ (List.mem_append_left _ (List.mem_append_right _ h9)))
  have kf12 := hts (.fieldLink RX5 12 "ExcessTree" "tree" "LExcessTree$Tree;") (by decide +kernel)
  have iwX4 : ∀ w ∈ wsX40, w ∈ wsX5_match := fun w h9 => List.mem_cons_of_mem _ (List.mem_append_left _ (List.mem_append_right _ h9))
  have kn70 := hK.nest (A := args) 5 rfl
  refine lv_aload_n hx hb dX5_match_0 rfl (lv_at hl 0 rfl) ?_
  refine lv_iload_n hx hb dX5_match_1 rfl (lv_at hl 1 rfl) ?_
  refine z_ri [.int p1] [] ⟨hx, hb, hml, hown, hts⟩ (kX5_isPlace l D cA a0 a_tree a_draft a_images a_kept a_tape a_sheets a_tree_row a_tree_weights a_tree_carried a_tree_row_gains a_tree_row_lows a_tree_row_highs f_latestTorn f_tree_row_low f_tree_row_high f_tree_row_places f_tree_row_gains f_tree_row_lows f_tree_row_highs f_tree_weights f_tree_carried p1 _ hw) (cwV 1 hts gX5_match_X5_isPlace rfl rfl rfl vX5_isPlace ⟨Nat.le_of_ble_eq_true rfl, Nat.le_of_ble_eq_true rfl⟩) hK (hP.sub [0, 1, 2, 3, 4, 5, 6, 7] rfl) (va_recv hK.1 (hP.sub (ws' := [(a0, .inr (4, [.ref a_tree, .ref a_draft, .ref a_images, .ref a_kept, .ref a_tape, .ref a_sheets, .int f_latestTorn]))]) [0] rfl) (ci := 4) (q0 := 0) rfl rfl) rfl hl.1 rfl (Nat.le_of_ble_eq_true rfl) dX5_match_2 ⟨Nat.zero_le _, Nat.zero_le _⟩ (fun r_1 hw => ?_)
  refine lv_if_eq (tgt := 22) hx hb dX5_match_5 (by decide) (fun c_2 => ?_) (fun c_2 => ?_)
  · have hw := hw.1 c_2
    refine lv_iconst (v := -1) hx hb dX5_match_22 (by decide) ?_
    exact z_iret hx hb hr hlk hw dX5_match_23
  · have hw := hw.2 c_2
    refine lv_aload_n hx hb dX5_match_8 rfl (lv_at hl 0 rfl) ?_
    refine va_get (D := D) (ci := 4) (v := .ref a_tree) (C := RX5) (T := TX5) (N := 7) hx hb hts iwX5 hown hK.1 hP 0 rfl rfl 0 (by decide) kf12 (fun _ h9 => h9) rfl dX5_match_9 ?_
    refine va_getN (own := RX5) (index := 70) (ref := "ExcessTree$Tree") (host := "ExcessTree") (D := D) (ci := 3) (v := .ref a_tree_row) (C := RX4) (T := TX4) (N := 3) hx hb hts iwX4 hown hK.1 hP 1 rfl rfl 0 (by decide) kn70 (fun _ h9 => h9) rfl dX5_match_12 ?_
    refine lv_iload_n hx hb dX5_match_15 rfl (lv_at hl 1 rfl) ?_
    refine z_ri [.int p1] [] ⟨hx, hb, hml, hown, hts⟩ (kX1_partnerOf l D cA a_tree_row a_tree_row_gains a_tree_row_lows a_tree_row_highs f_tree_row_low f_tree_row_high f_tree_row_places f_tree_row_gains f_tree_row_lows f_tree_row_highs p1 _ hw) (cwV 1 hts gX5_match_X1_partnerOf rfl rfl rfl vX1_partnerOf ⟨Nat.le_of_ble_eq_true rfl, Nat.le_of_ble_eq_true rfl⟩) hK (hP.sub [2, 3, 4, 5] rfl) (va_recv hK.1 (hP.sub (ws' := [(a_tree_row, .inr (0, [.long f_tree_row_low, .long f_tree_row_high, .int f_tree_row_places, .ref a_tree_row_gains, .ref a_tree_row_lows, .ref a_tree_row_highs]))]) [2] rfl) (ci := 0) (q0 := 0) rfl rfl) rfl hl.1 rfl (Nat.le_of_ble_eq_true rfl) dX5_match_16 ⟨Nat.zero_le _, Nat.zero_le _⟩ (fun r_3 hw => ?_)
    refine lv_goto (tgt := 23) hx hb dX5_match_19 (by decide) ?_
    exact z_iret hx hb hr hlk hw dX5_match_23
def wX5_least (f_tree_row_low : Int64) (f_tree_row_high : Int64) (f_tree_row_places : Int32) (f_tree_row_gains : Nat → Int32) (f_tree_row_lows : Nat → Int32) (f_tree_row_highs : Nat → Int32) (p1 : Int32) (p2 : Int32) (p3 : Int32) (post : Int32 → Prop) : Prop := (wX5_isPoint f_tree_row_places p1 (fun r_1 : Int32 => (((r_1 = 0 → post (-1 : Int32)) ∧ (¬ r_1 = 0 → (wX5_isPoint f_tree_row_places p2 (fun r_3 : Int32 => (((r_3 = 0 → post (-1 : Int32)) ∧ (¬ r_3 = 0 → ((p1 ≤ p2 → ((p3 = 0 → (wX1_extremeIn f_tree_row_low f_tree_row_high f_tree_row_gains f_tree_row_lows f_tree_row_highs p1 p2 (0 : Int32) (fun r_7 : Int32 => (post r_7)))) ∧ (p3 = 1 → (wX1_extremeIn f_tree_row_low f_tree_row_high f_tree_row_gains f_tree_row_lows f_tree_row_highs p1 p2 (0 : Int32) (fun r_9 : Int32 => ((wX1_firstWith f_tree_row_low f_tree_row_high f_tree_row_places f_tree_row_gains f_tree_row_lows f_tree_row_highs p1 r_9 (fun r_10 : Int32 => (post r_10))))))) ∧ (p3 = 2 → (wX1_extremeIn f_tree_row_low f_tree_row_high f_tree_row_gains f_tree_row_lows f_tree_row_highs p1 p2 (0 : Int32) (fun r_12 : Int32 => ((wX1_pointsWith f_tree_row_low f_tree_row_high p1 p2 r_12 (fun r_13 : Int32 => (post r_13))))))) ∧ (p3 = 3 → (wX1_extremeIn f_tree_row_low f_tree_row_high f_tree_row_gains f_tree_row_lows f_tree_row_highs p1 p2 (1 : Int32) (fun r_15 : Int32 => (post r_15)))) ∧ (¬ p3 = 0 → ¬ p3 = 1 → ¬ p3 = 2 → ¬ p3 = 3 → post (-1 : Int32)))) ∧ (¬ p1 ≤ p2 → post (-1 : Int32)))))))))))))
abbrev rX5_least : Room := { frames := 4, cells := 0, slots := 0, locals := 88 }
theorem vX5_least : yX5_least.cls = RX5 ∧ yX5_least.cls ≠ "java/lang/invoke/MethodHandle" ∧ yX5_least.cls ≠ "java/lang/invoke/VarHandle" ∧ (parseMethodDescriptor yX5_least.desc).map (fun d => d.parameters.length) = some 3 := by decide +kernel
set_option maxHeartbeats 4000000 in
set_option maxRecDepth 100000 in
theorem kX5_least (l : Launch) (D : va_G) (cA : Nat → ClassId) (a0 a_tree a_draft a_images a_kept a_tape a_sheets a_tree_row a_tree_weights a_tree_carried a_tree_row_gains a_tree_row_lows a_tree_row_highs : Nat) (f_latestTorn : Int32) (f_tree_row_low : Int64) (f_tree_row_high : Int64) (f_tree_row_places : Int32) (f_tree_row_gains : Nat → Int32) (f_tree_row_lows : Nat → Int32) (f_tree_row_highs : Nat → Int32) (f_tree_weights : Nat → Int32) (f_tree_carried : Nat → Int32) (p1 : Int32) (p2 : Int32) (p3 : Int32) (post : Int32 → Prop) (h : wX5_least f_tree_row_low f_tree_row_high f_tree_row_places f_tree_row_gains f_tree_row_lows f_tree_row_highs p1 p2 p3 post) : Met l yX5_least wsX5_least rX5_least (zPr D cA [.ref a0, .int p1, .int p2, .int p3] [(a0, .inr (4, [.ref a_tree, .ref a_draft, .ref a_images, .ref a_kept, .ref a_tape, .ref a_sheets, .int f_latestTorn])), (a_tree, .inr (3, [.ref a_tree_row, .ref a_tree_weights, .ref a_tree_carried])), (a_tree_row, .inr (0, [.long f_tree_row_low, .long f_tree_row_high, .int f_tree_row_places, .ref a_tree_row_gains, .ref a_tree_row_lows, .ref a_tree_row_highs])), (a_tree_row_gains, .inl (cA 0, 8, .inl f_tree_row_gains)), (a_tree_row_lows, .inl (cA 0, 8, .inl f_tree_row_lows)), (a_tree_row_highs, .inl (cA 0, 8, .inl f_tree_row_highs)), (a_tree_weights, .inl (cA 0, 64, .inl f_tree_weights)), (a_tree_carried, .inl (cA 0, 64, .inl f_tree_carried))]) (vp_Si post) 0 0 (fun _ => False) := by
  refine z_ro (cc := cX5_least) (maxL := 4) (ret := (some .int)) (by decide) rfl (Nat.le_of_ble_eq_true rfl) ?_
  intro p e s m args below meth c ls hx hb hr hlk hml hown hts hK hP hl
  have hown : s.vm.findClass RX5 = some m.cls := hown
  have hl : lv_has ls 4 [(0, .ref a0), (1, .int p1), (2, .int p2), (3, .int p3)] := hl
  have hw := h
  unfold wX5_least at hw
  have iwX5 : ∀ w ∈ wsX50, w ∈ wsX5_least := fun w h9 => List.mem_cons_of_mem _ (List.mem_append_left _ (List.mem_append_left _ (List.mem_append_right _ h9)))
  have kf12 := hts (.fieldLink RX5 12 "ExcessTree" "tree" "LExcessTree$Tree;") (by decide +kernel)
  have iwX4 : ∀ w ∈ wsX40, w ∈ wsX5_least := fun w h9 => List.mem_cons_of_mem _ (List.mem_append_left _ (List.mem_append_right _ h9))
  have kn70 := hK.nest (A := args) 5 rfl
  refine lv_aload_n hx hb dX5_least_0 rfl (lv_at hl 0 rfl) ?_
  refine lv_iload_n hx hb dX5_least_1 rfl (lv_at hl 1 rfl) ?_
  refine z_ri [.int p1] [] ⟨hx, hb, hml, hown, hts⟩ (kX5_isPoint l D cA a0 a_tree a_draft a_images a_kept a_tape a_sheets a_tree_row a_tree_weights a_tree_carried a_tree_row_gains a_tree_row_lows a_tree_row_highs f_latestTorn f_tree_row_low f_tree_row_high f_tree_row_places f_tree_row_gains f_tree_row_lows f_tree_row_highs f_tree_weights f_tree_carried p1 _ hw) (cwV 1 hts gX5_least_X5_isPoint rfl rfl rfl vX5_isPoint ⟨Nat.le_of_ble_eq_true rfl, Nat.le_of_ble_eq_true rfl⟩) hK (hP.sub [0, 1, 2, 3, 4, 5, 6, 7] rfl) (va_recv hK.1 (hP.sub (ws' := [(a0, .inr (4, [.ref a_tree, .ref a_draft, .ref a_images, .ref a_kept, .ref a_tape, .ref a_sheets, .int f_latestTorn]))]) [0] rfl) (ci := 4) (q0 := 0) rfl rfl) rfl hl.1 rfl (Nat.le_of_ble_eq_true rfl) dX5_least_2 ⟨Nat.zero_le _, Nat.zero_le _⟩ (fun r_1 hw => ?_)
  refine lv_if_eq (tgt := 21) hx hb dX5_least_5 (by decide) (fun c_2 => ?_) (fun c_2 => ?_)
  · have hw := hw.1 c_2
    refine lv_iconst (v := -1) hx hb dX5_least_21 (by decide) ?_
    exact z_iret hx hb hr hlk hw dX5_least_22
  · have hw := hw.2 c_2
    refine lv_aload_n hx hb dX5_least_8 rfl (lv_at hl 0 rfl) ?_
    refine lv_iload_n hx hb dX5_least_9 rfl (lv_at hl 2 rfl) ?_
    refine z_ri [.int p2] [] ⟨hx, hb, hml, hown, hts⟩ (kX5_isPoint l D cA a0 a_tree a_draft a_images a_kept a_tape a_sheets a_tree_row a_tree_weights a_tree_carried a_tree_row_gains a_tree_row_lows a_tree_row_highs f_latestTorn f_tree_row_low f_tree_row_high f_tree_row_places f_tree_row_gains f_tree_row_lows f_tree_row_highs f_tree_weights f_tree_carried p2 _ hw) (cwV 1 hts gX5_least_X5_isPoint rfl rfl rfl vX5_isPoint ⟨Nat.le_of_ble_eq_true rfl, Nat.le_of_ble_eq_true rfl⟩) hK (hP.sub [0, 1, 2, 3, 4, 5, 6, 7] rfl) (va_recv hK.1 (hP.sub (ws' := [(a0, .inr (4, [.ref a_tree, .ref a_draft, .ref a_images, .ref a_kept, .ref a_tape, .ref a_sheets, .int f_latestTorn]))]) [0] rfl) (ci := 4) (q0 := 0) rfl rfl) rfl hl.1 rfl (Nat.le_of_ble_eq_true rfl) dX5_least_10 ⟨Nat.zero_le _, Nat.zero_le _⟩ (fun r_3 hw => ?_)
    refine lv_if_eq (tgt := 21) hx hb dX5_least_13 (by decide) (fun c_4 => ?_) (fun c_4 => ?_)
    · have hw := hw.1 c_4
      refine lv_iconst (v := -1) hx hb dX5_least_21 (by decide) ?_
      exact z_iret hx hb hr hlk hw dX5_least_22
    · have hw := hw.2 c_4
      refine lv_iload_n hx hb dX5_least_16 rfl (lv_at hl 1 rfl) ?_
      refine lv_iload_n hx hb dX5_least_17 rfl (lv_at hl 2 rfl) ?_
      refine lv_icmp_le (tgt := 23) hx hb dX5_least_18 (by decide) (fun c_5 => ?_) (fun c_5 => ?_)
      · have hw := hw.1 c_5
        refine lv_iload_n hx hb dX5_least_23 rfl (lv_at hl 3 rfl) ?_
        by_cases c_6 : p3 = 0
        · have hw := hw.1 c_6
          refine lv_tableIn (tgt := 56) (off := 32) hx hb dX5_least_24 (by rw [c_6]; decide) (by rw [c_6]; decide) (by rw [c_6]; decide) (by decide) ?_
          refine lv_aload_n hx hb dX5_least_56 rfl (lv_at hl 0 rfl) ?_
          refine va_get (D := D) (ci := 4) (v := .ref a_tree) (C := RX5) (T := TX5) (N := 7) hx hb hts iwX5 hown hK.1 hP 0 rfl rfl 0 (by decide) kf12 (fun _ h9 => h9) rfl dX5_least_57 ?_
          refine va_getN (own := RX5) (index := 70) (ref := "ExcessTree$Tree") (host := "ExcessTree") (D := D) (ci := 3) (v := .ref a_tree_row) (C := RX4) (T := TX4) (N := 3) hx hb hts iwX4 hown hK.1 hP 1 rfl rfl 0 (by decide) kn70 (fun _ h9 => h9) rfl dX5_least_60 ?_
          refine lv_iload_n hx hb dX5_least_63 rfl (lv_at hl 1 rfl) ?_
          refine lv_iload_n hx hb dX5_least_64 rfl (lv_at hl 2 rfl) ?_
          refine lv_iconst (v := 0) hx hb dX5_least_65 (by decide) ?_
          refine z_ri [.int p1, .int p2, .int (0 : Int32)] [] ⟨hx, hb, hml, hown, hts⟩ (kX1_extremeIn l D cA a_tree_row a_tree_row_gains a_tree_row_lows a_tree_row_highs f_tree_row_low f_tree_row_high f_tree_row_places f_tree_row_gains f_tree_row_lows f_tree_row_highs p1 p2 (0 : Int32) _ hw) (cwV 3 hts gX5_least_X1_extremeIn rfl rfl rfl vX1_extremeIn ⟨Nat.le_of_ble_eq_true rfl, Nat.le_of_ble_eq_true rfl⟩) hK (hP.sub [2, 3, 4, 5] rfl) (va_recv hK.1 (hP.sub (ws' := [(a_tree_row, .inr (0, [.long f_tree_row_low, .long f_tree_row_high, .int f_tree_row_places, .ref a_tree_row_gains, .ref a_tree_row_lows, .ref a_tree_row_highs]))]) [2] rfl) (ci := 0) (q0 := 0) rfl rfl) rfl hl.1 rfl (Nat.le_of_ble_eq_true rfl) dX5_least_66 ⟨Nat.zero_le _, Nat.zero_le _⟩ (fun r_7 hw => ?_)
          exact z_iret hx hb hr hlk hw dX5_least_69
        by_cases c_8 : p3 = 1
        · have hw := hw.2.1 c_8
          refine lv_tableIn (tgt := 70) (off := 46) hx hb dX5_least_24 (by rw [c_8]; decide) (by rw [c_8]; decide) (by rw [c_8]; decide) (by decide) ?_
          refine lv_aload_n hx hb dX5_least_70 rfl (lv_at hl 0 rfl) ?_
          refine va_get (D := D) (ci := 4) (v := .ref a_tree) (C := RX5) (T := TX5) (N := 7) hx hb hts iwX5 hown hK.1 hP 0 rfl rfl 0 (by decide) kf12 (fun _ h9 => h9) rfl dX5_least_71 ?_
          refine va_getN (own := RX5) (index := 70) (ref := "ExcessTree$Tree") (host := "ExcessTree") (D := D) (ci := 3) (v := .ref a_tree_row) (C := RX4) (T := TX4) (N := 3) hx hb hts iwX4 hown hK.1 hP 1 rfl rfl 0 (by decide) kn70 (fun _ h9 => h9) rfl dX5_least_74 ?_
          refine lv_iload_n hx hb dX5_least_77 rfl (lv_at hl 1 rfl) ?_
          refine lv_aload_n hx hb dX5_least_78 rfl (lv_at hl 0 rfl) ?_
          refine va_get (D := D) (ci := 4) (v := .ref a_tree) (C := RX5) (T := TX5) (N := 7) hx hb hts iwX5 hown hK.1 hP 0 rfl rfl 0 (by decide) kf12 (fun _ h9 => h9) rfl dX5_least_79 ?_
          refine va_getN (own := RX5) (index := 70) (ref := "ExcessTree$Tree") (host := "ExcessTree") (D := D) (ci := 3) (v := .ref a_tree_row) (C := RX4) (T := TX4) (N := 3) hx hb hts iwX4 hown hK.1 hP 1 rfl rfl 0 (by decide) kn70 (fun _ h9 => h9) rfl dX5_least_82 ?_
          refine lv_iload_n hx hb dX5_least_85 rfl (lv_at hl 1 rfl) ?_
          refine lv_iload_n hx hb dX5_least_86 rfl (lv_at hl 2 rfl) ?_
          refine lv_iconst (v := 0) hx hb dX5_least_87 (by decide) ?_
          refine z_ri [.int p1, .int p2, .int (0 : Int32)] [.int p1, .ref a_tree_row] ⟨hx, hb, hml, hown, hts⟩ (kX1_extremeIn l D cA a_tree_row a_tree_row_gains a_tree_row_lows a_tree_row_highs f_tree_row_low f_tree_row_high f_tree_row_places f_tree_row_gains f_tree_row_lows f_tree_row_highs p1 p2 (0 : Int32) _ hw) (cwV 3 hts gX5_least_X1_extremeIn rfl rfl rfl vX1_extremeIn ⟨Nat.le_of_ble_eq_true rfl, Nat.le_of_ble_eq_true rfl⟩) hK (hP.sub [2, 3, 4, 5] rfl) (va_recv hK.1 (hP.sub (ws' := [(a_tree_row, .inr (0, [.long f_tree_row_low, .long f_tree_row_high, .int f_tree_row_places, .ref a_tree_row_gains, .ref a_tree_row_lows, .ref a_tree_row_highs]))]) [2] rfl) (ci := 0) (q0 := 0) rfl rfl) rfl hl.1 rfl (Nat.le_of_ble_eq_true rfl) dX5_least_88 ⟨Nat.zero_le _, Nat.zero_le _⟩ (fun r_9 hw => ?_)
          refine z_ri [.int p1, .int r_9] [] ⟨hx, hb, hml, hown, hts⟩ (kX1_firstWith l D cA a_tree_row a_tree_row_gains a_tree_row_lows a_tree_row_highs f_tree_row_low f_tree_row_high f_tree_row_places f_tree_row_gains f_tree_row_lows f_tree_row_highs p1 r_9 _ hw) (cwV 2 hts gX5_least_X1_firstWith rfl rfl rfl vX1_firstWith ⟨Nat.le_of_ble_eq_true rfl, Nat.le_of_ble_eq_true rfl⟩) hK (hP.sub [2, 3, 4, 5] rfl) (va_recv hK.1 (hP.sub (ws' := [(a_tree_row, .inr (0, [.long f_tree_row_low, .long f_tree_row_high, .int f_tree_row_places, .ref a_tree_row_gains, .ref a_tree_row_lows, .ref a_tree_row_highs]))]) [2] rfl) (ci := 0) (q0 := 0) rfl rfl) rfl hl.1 rfl (Nat.le_of_ble_eq_true rfl) dX5_least_91 ⟨Nat.zero_le _, Nat.zero_le _⟩ (fun r_10 hw => ?_)
          exact z_iret hx hb hr hlk hw dX5_least_94
        by_cases c_11 : p3 = 2
        · have hw := hw.2.2.1 c_11
          refine lv_tableIn (tgt := 95) (off := 71) hx hb dX5_least_24 (by rw [c_11]; decide) (by rw [c_11]; decide) (by rw [c_11]; decide) (by decide) ?_
          refine lv_aload_n hx hb dX5_least_95 rfl (lv_at hl 0 rfl) ?_
          refine va_get (D := D) (ci := 4) (v := .ref a_tree) (C := RX5) (T := TX5) (N := 7) hx hb hts iwX5 hown hK.1 hP 0 rfl rfl 0 (by decide) kf12 (fun _ h9 => h9) rfl dX5_least_96 ?_
          refine va_getN (own := RX5) (index := 70) (ref := "ExcessTree$Tree") (host := "ExcessTree") (D := D) (ci := 3) (v := .ref a_tree_row) (C := RX4) (T := TX4) (N := 3) hx hb hts iwX4 hown hK.1 hP 1 rfl rfl 0 (by decide) kn70 (fun _ h9 => h9) rfl dX5_least_99 ?_
          refine lv_iload_n hx hb dX5_least_102 rfl (lv_at hl 1 rfl) ?_
          refine lv_iload_n hx hb dX5_least_103 rfl (lv_at hl 2 rfl) ?_
          refine lv_aload_n hx hb dX5_least_104 rfl (lv_at hl 0 rfl) ?_
          refine va_get (D := D) (ci := 4) (v := .ref a_tree) (C := RX5) (T := TX5) (N := 7) hx hb hts iwX5 hown hK.1 hP 0 rfl rfl 0 (by decide) kf12 (fun _ h9 => h9) rfl dX5_least_105 ?_
          refine va_getN (own := RX5) (index := 70) (ref := "ExcessTree$Tree") (host := "ExcessTree") (D := D) (ci := 3) (v := .ref a_tree_row) (C := RX4) (T := TX4) (N := 3) hx hb hts iwX4 hown hK.1 hP 1 rfl rfl 0 (by decide) kn70 (fun _ h9 => h9) rfl dX5_least_108 ?_
          refine lv_iload_n hx hb dX5_least_111 rfl (lv_at hl 1 rfl) ?_
          refine lv_iload_n hx hb dX5_least_112 rfl (lv_at hl 2 rfl) ?_
          refine lv_iconst (v := 0) hx hb dX5_least_113 (by decide) ?_
          refine z_ri [.int p1, .int p2, .int (0 : Int32)] [.int p2, .int p1, .ref a_tree_row] ⟨hx, hb, hml, hown, hts⟩ (kX1_extremeIn l D cA a_tree_row a_tree_row_gains a_tree_row_lows a_tree_row_highs f_tree_row_low f_tree_row_high f_tree_row_places f_tree_row_gains f_tree_row_lows f_tree_row_highs p1 p2 (0 : Int32) _ hw) (cwV 3 hts gX5_least_X1_extremeIn rfl rfl rfl vX1_extremeIn ⟨Nat.le_of_ble_eq_true rfl, Nat.le_of_ble_eq_true rfl⟩) hK (hP.sub [2, 3, 4, 5] rfl) (va_recv hK.1 (hP.sub (ws' := [(a_tree_row, .inr (0, [.long f_tree_row_low, .long f_tree_row_high, .int f_tree_row_places, .ref a_tree_row_gains, .ref a_tree_row_lows, .ref a_tree_row_highs]))]) [2] rfl) (ci := 0) (q0 := 0) rfl rfl) rfl hl.1 rfl (Nat.le_of_ble_eq_true rfl) dX5_least_114 ⟨Nat.zero_le _, Nat.zero_le _⟩ (fun r_12 hw => ?_)
          refine z_ri [.int p1, .int p2, .int r_12] [] ⟨hx, hb, hml, hown, hts⟩ (kX1_pointsWith l D cA a_tree_row a_tree_row_gains a_tree_row_lows a_tree_row_highs f_tree_row_low f_tree_row_high f_tree_row_places f_tree_row_gains f_tree_row_lows f_tree_row_highs p1 p2 r_12 _ hw) (cwV 3 hts gX5_least_X1_pointsWith rfl rfl rfl vX1_pointsWith ⟨Nat.le_of_ble_eq_true rfl, Nat.le_of_ble_eq_true rfl⟩) hK (hP.sub [2, 3, 4, 5] rfl) (va_recv hK.1 (hP.sub (ws' := [(a_tree_row, .inr (0, [.long f_tree_row_low, .long f_tree_row_high, .int f_tree_row_places, .ref a_tree_row_gains, .ref a_tree_row_lows, .ref a_tree_row_highs]))]) [2] rfl) (ci := 0) (q0 := 0) rfl rfl) rfl hl.1 rfl (Nat.le_of_ble_eq_true rfl) dX5_least_117 ⟨Nat.zero_le _, Nat.zero_le _⟩ (fun r_13 hw => ?_)
          exact z_iret hx hb hr hlk hw dX5_least_120
        by_cases c_14 : p3 = 3
        · have hw := hw.2.2.2.1 c_14
          refine lv_tableIn (tgt := 121) (off := 97) hx hb dX5_least_24 (by rw [c_14]; decide) (by rw [c_14]; decide) (by rw [c_14]; decide) (by decide) ?_
          refine lv_aload_n hx hb dX5_least_121 rfl (lv_at hl 0 rfl) ?_
          refine va_get (D := D) (ci := 4) (v := .ref a_tree) (C := RX5) (T := TX5) (N := 7) hx hb hts iwX5 hown hK.1 hP 0 rfl rfl 0 (by decide) kf12 (fun _ h9 => h9) rfl dX5_least_122 ?_
          refine va_getN (own := RX5) (index := 70) (ref := "ExcessTree$Tree") (host := "ExcessTree") (D := D) (ci := 3) (v := .ref a_tree_row) (C := RX4) (T := TX4) (N := 3) hx hb hts iwX4 hown hK.1 hP 1 rfl rfl 0 (by decide) kn70 (fun _ h9 => h9) rfl dX5_least_125 ?_
          refine lv_iload_n hx hb dX5_least_128 rfl (lv_at hl 1 rfl) ?_
          refine lv_iload_n hx hb dX5_least_129 rfl (lv_at hl 2 rfl) ?_
          refine lv_iconst (v := 1) hx hb dX5_least_130 (by decide) ?_
          refine z_ri [.int p1, .int p2, .int (1 : Int32)] [] ⟨hx, hb, hml, hown, hts⟩ (kX1_extremeIn l D cA a_tree_row a_tree_row_gains a_tree_row_lows a_tree_row_highs f_tree_row_low f_tree_row_high f_tree_row_places f_tree_row_gains f_tree_row_lows f_tree_row_highs p1 p2 (1 : Int32) _ hw) (cwV 3 hts gX5_least_X1_extremeIn rfl rfl rfl vX1_extremeIn ⟨Nat.le_of_ble_eq_true rfl, Nat.le_of_ble_eq_true rfl⟩) hK (hP.sub [2, 3, 4, 5] rfl) (va_recv hK.1 (hP.sub (ws' := [(a_tree_row, .inr (0, [.long f_tree_row_low, .long f_tree_row_high, .int f_tree_row_places, .ref a_tree_row_gains, .ref a_tree_row_lows, .ref a_tree_row_highs]))]) [2] rfl) (ci := 0) (q0 := 0) rfl rfl) rfl hl.1 rfl (Nat.le_of_ble_eq_true rfl) dX5_least_131 ⟨Nat.zero_le _, Nat.zero_le _⟩ (fun r_15 hw => ?_)
          exact z_iret hx hb hr hlk hw dX5_least_134
        have hw := hw.2.2.2.2 c_6 c_8 c_11 c_14
        refine lv_tableOut (tgt := 135) hx hb dX5_least_24 (by have q0 := lv_neT c_6 (a := 0) (by decide); have q1 := lv_neT c_8 (a := 1) (by decide); have q2 := lv_neT c_11 (a := 2) (by decide); have q3 := lv_neT c_14 (a := 3) (by decide); omega) (by decide) ?_
        refine lv_iconst (v := -1) hx hb dX5_least_135 (by decide) ?_
        exact z_iret hx hb hr hlk hw dX5_least_136
      · have hw := hw.2 c_5
        refine lv_iconst (v := -1) hx hb dX5_least_21 (by decide) ?_
        exact z_iret hx hb hr hlk hw dX5_least_22
def wX5_block (f_tree_row_places : Int32) (f_tree_row_gains : Nat → Int32) (f_tree_row_lows : Nat → Int32) (f_tree_row_highs : Nat → Int32) (p1 : Int32) (p2 : Int32) (post : Int32 → Prop) : Prop := (wX1_blocks f_tree_row_places (fun r_1 : Int32 => ((wX5_within p1 (0 : Int32) (r_1 - (1 : Int32)) (fun r_2 : Int32 => (((¬ r_2 = 0 → ((p2 = 0 → (vp_in p1 8 ∧ post ((100 : Int32) + (f_tree_row_gains p1.toNatClampNeg)))) ∧ (p2 = 1 → (vp_in p1 8 ∧ post ((100 : Int32) + (f_tree_row_lows p1.toNatClampNeg)))) ∧ (p2 = 2 → (vp_in p1 8 ∧ post ((100 : Int32) + (f_tree_row_highs p1.toNatClampNeg)))) ∧ (¬ p2 = 0 → ¬ p2 = 1 → ¬ p2 = 2 → post (-1 : Int32)))) ∧ (r_2 = 0 → post (-1 : Int32)))))))))
abbrev rX5_block : Room := { frames := 1, cells := 0, slots := 0, locals := 22 }
theorem vX5_block : yX5_block.cls = RX5 ∧ yX5_block.cls ≠ "java/lang/invoke/MethodHandle" ∧ yX5_block.cls ≠ "java/lang/invoke/VarHandle" ∧ (parseMethodDescriptor yX5_block.desc).map (fun d => d.parameters.length) = some 2 := by decide +kernel
set_option maxHeartbeats 4000000 in
set_option maxRecDepth 100000 in
theorem kX5_block (l : Launch) (D : va_G) (cA : Nat → ClassId) (a0 a_tree a_draft a_images a_kept a_tape a_sheets a_tree_row a_tree_weights a_tree_carried a_tree_row_gains a_tree_row_lows a_tree_row_highs : Nat) (f_latestTorn : Int32) (f_tree_row_low : Int64) (f_tree_row_high : Int64) (f_tree_row_places : Int32) (f_tree_row_gains : Nat → Int32) (f_tree_row_lows : Nat → Int32) (f_tree_row_highs : Nat → Int32) (f_tree_weights : Nat → Int32) (f_tree_carried : Nat → Int32) (p1 : Int32) (p2 : Int32) (post : Int32 → Prop) (h : wX5_block f_tree_row_places f_tree_row_gains f_tree_row_lows f_tree_row_highs p1 p2 post) : Met l yX5_block wsX5_block rX5_block (zPr D cA [.ref a0, .int p1, .int p2] [(a0, .inr (4, [.ref a_tree, .ref a_draft, .ref a_images, .ref a_kept, .ref a_tape, .ref a_sheets, .int f_latestTorn])), (a_tree, .inr (3, [.ref a_tree_row, .ref a_tree_weights, .ref a_tree_carried])), (a_tree_row, .inr (0, [.long f_tree_row_low, .long f_tree_row_high, .int f_tree_row_places, .ref a_tree_row_gains, .ref a_tree_row_lows, .ref a_tree_row_highs])), (a_tree_row_gains, .inl (cA 0, 8, .inl f_tree_row_gains)), (a_tree_row_lows, .inl (cA 0, 8, .inl f_tree_row_lows)), (a_tree_row_highs, .inl (cA 0, 8, .inl f_tree_row_highs)), (a_tree_weights, .inl (cA 0, 64, .inl f_tree_weights)), (a_tree_carried, .inl (cA 0, 64, .inl f_tree_carried))]) (vp_Si post) 0 0 (fun _ => False) := by
  refine z_ro (cc := cX5_block) (maxL := 3) (ret := (some .int)) (by decide) rfl (Nat.le_of_ble_eq_true rfl) ?_
  intro p e s m args below meth c ls hx hb hr hlk hml hown hts hK hP hl
  have hown : s.vm.findClass RX5 = some m.cls := hown
  have hl : lv_has ls 3 [(0, .ref a0), (1, .int p1), (2, .int p2)] := hl
  have hw := h
  unfold wX5_block at hw
  have iwX5 : ∀ w ∈ wsX50, w ∈ wsX5_block := fun w h9 => List.mem_cons_of_mem _ (List.mem_append_left _ (List.mem_append_left _ (List.mem_append_right _ h9)))
  have kf12 := hts (.fieldLink RX5 12 "ExcessTree" "tree" "LExcessTree$Tree;") (by decide +kernel)
  have iwX4 : ∀ w ∈ wsX40, w ∈ wsX5_block := fun w h9 => List.mem_cons_of_mem _ (List.mem_append_left _ (List.mem_append_right _ h9))
  have kn70 := hK.nest (A := args) 5 rfl
  have iwX1 : ∀ w ∈ wsX10, w ∈ wsX5_block := fun w h9 => List.mem_cons_of_mem _ (List.mem_append_right _ h9)
  have kn125 := hK.nest (A := args) 14 rfl
  have kn129 := hK.nest (A := args) 13 rfl
  have kn132 := hK.nest (A := args) 12 rfl
  refine lv_iload_n hx hb dX5_block_0 rfl (lv_at hl 1 rfl) ?_
  refine lv_iconst (v := 0) hx hb dX5_block_1 (by decide) ?_
  refine lv_aload_n hx hb dX5_block_2 rfl (lv_at hl 0 rfl) ?_
  refine va_get (D := D) (ci := 4) (v := .ref a_tree) (C := RX5) (T := TX5) (N := 7) hx hb hts iwX5 hown hK.1 hP 0 rfl rfl 0 (by decide) kf12 (fun _ h9 => h9) rfl dX5_block_3 ?_
  refine va_getN (own := RX5) (index := 70) (ref := "ExcessTree$Tree") (host := "ExcessTree") (D := D) (ci := 3) (v := .ref a_tree_row) (C := RX4) (T := TX4) (N := 3) hx hb hts iwX4 hown hK.1 hP 1 rfl rfl 0 (by decide) kn70 (fun _ h9 => h9) rfl dX5_block_6 ?_
  refine z_ri [] [.int (0 : Int32), .int p1] ⟨hx, hb, hml, hown, hts⟩ (kX1_blocks l D cA a_tree_row a_tree_row_gains a_tree_row_lows a_tree_row_highs f_tree_row_low f_tree_row_high f_tree_row_places f_tree_row_gains f_tree_row_lows f_tree_row_highs _ hw) (cwV 0 hts gX5_block_X1_blocks rfl rfl rfl vX1_blocks ⟨Nat.le_of_ble_eq_true rfl, Nat.le_of_ble_eq_true rfl⟩) hK (hP.sub [2, 3, 4, 5] rfl) (va_recv hK.1 (hP.sub (ws' := [(a_tree_row, .inr (0, [.long f_tree_row_low, .long f_tree_row_high, .int f_tree_row_places, .ref a_tree_row_gains, .ref a_tree_row_lows, .ref a_tree_row_highs]))]) [2] rfl) (ci := 0) (q0 := 0) rfl rfl) rfl hl.1 rfl (Nat.le_of_ble_eq_true rfl) dX5_block_9 ⟨Nat.zero_le _, Nat.zero_le _⟩ (fun r_1 hw => ?_)
  refine lv_iconst (v := 1) hx hb dX5_block_12 (by decide) ?_
  refine lv_isub hx hb dX5_block_13 ?_
  refine z_si [.int p1, .int (0 : Int32), .int (r_1 - (1 : Int32))] [] ⟨hx, hb, hml, hown, hts⟩ (kX5_within l D cA p1 (0 : Int32) (r_1 - (1 : Int32)) _ hw) (va_cwS 3 hts gX5_block_X5_within rfl rfl rfl vX5_within ⟨Nat.le_of_ble_eq_true rfl, Nat.le_of_ble_eq_true rfl⟩) hK z_p0 rfl hl.1 rfl (Nat.le_of_ble_eq_true rfl) dX5_block_14 ⟨Nat.zero_le _, Nat.zero_le _⟩ (fun r_2 hw => ?_)
  refine lv_if_ne (tgt := 22) hx hb dX5_block_17 (by decide) (fun c_3 => ?_) (fun c_3 => ?_)
  · have hw := hw.1 c_3
    refine lv_iload_n hx hb dX5_block_22 rfl (lv_at hl 2 rfl) ?_
    by_cases c_4 : p2 = 0
    · have hw := hw.1 c_4
      refine lv_tableIn (tgt := 48) (off := 25) hx hb dX5_block_23 (by rw [c_4]; decide) (by rw [c_4]; decide) (by rw [c_4]; decide) (by decide) ?_
      refine lv_bipush (v := 100) hx hb dX5_block_48 (by decide) ?_
      refine lv_aload_n hx hb dX5_block_50 rfl (lv_at hl 0 rfl) ?_
      refine va_get (D := D) (ci := 4) (v := .ref a_tree) (C := RX5) (T := TX5) (N := 7) hx hb hts iwX5 hown hK.1 hP 0 rfl rfl 0 (by decide) kf12 (fun _ h9 => h9) rfl dX5_block_51 ?_
      refine va_getN (own := RX5) (index := 70) (ref := "ExcessTree$Tree") (host := "ExcessTree") (D := D) (ci := 3) (v := .ref a_tree_row) (C := RX4) (T := TX4) (N := 3) hx hb hts iwX4 hown hK.1 hP 1 rfl rfl 0 (by decide) kn70 (fun _ h9 => h9) rfl dX5_block_54 ?_
      refine va_getN (own := RX5) (index := 125) (ref := "ExcessTree$Row") (host := "ExcessTree") (D := D) (ci := 0) (v := .ref a_tree_row_gains) (C := RX1) (T := TX1) (N := 6) hx hb hts iwX1 hown hK.1 hP 2 rfl rfl 3 (by decide) kn125 (fun _ h9 => h9) rfl dX5_block_57 ?_
      refine lv_iload_n hx hb dX5_block_60 rfl (lv_at hl 1 rfl) ?_
      have hq := hw.1
      have hw := hw.2
      refine va_iald hx hb hK.1 hP 3 0 rfl rfl hq dX5_block_61 ?_
      refine lv_iadd hx hb dX5_block_62 ?_
      exact z_iret hx hb hr hlk hw dX5_block_63
    by_cases c_5 : p2 = 1
    · have hw := hw.2.1 c_5
      refine lv_tableIn (tgt := 64) (off := 41) hx hb dX5_block_23 (by rw [c_5]; decide) (by rw [c_5]; decide) (by rw [c_5]; decide) (by decide) ?_
      refine lv_bipush (v := 100) hx hb dX5_block_64 (by decide) ?_
      refine lv_aload_n hx hb dX5_block_66 rfl (lv_at hl 0 rfl) ?_
      refine va_get (D := D) (ci := 4) (v := .ref a_tree) (C := RX5) (T := TX5) (N := 7) hx hb hts iwX5 hown hK.1 hP 0 rfl rfl 0 (by decide) kf12 (fun _ h9 => h9) rfl dX5_block_67 ?_
      refine va_getN (own := RX5) (index := 70) (ref := "ExcessTree$Tree") (host := "ExcessTree") (D := D) (ci := 3) (v := .ref a_tree_row) (C := RX4) (T := TX4) (N := 3) hx hb hts iwX4 hown hK.1 hP 1 rfl rfl 0 (by decide) kn70 (fun _ h9 => h9) rfl dX5_block_70 ?_
      refine va_getN (own := RX5) (index := 129) (ref := "ExcessTree$Row") (host := "ExcessTree") (D := D) (ci := 0) (v := .ref a_tree_row_lows) (C := RX1) (T := TX1) (N := 6) hx hb hts iwX1 hown hK.1 hP 2 rfl rfl 4 (by decide) kn129 (fun _ h9 => h9) rfl dX5_block_73 ?_
      refine lv_iload_n hx hb dX5_block_76 rfl (lv_at hl 1 rfl) ?_
      have hq := hw.1
      have hw := hw.2
      refine va_iald hx hb hK.1 hP 4 0 rfl rfl hq dX5_block_77 ?_
      refine lv_iadd hx hb dX5_block_78 ?_
      exact z_iret hx hb hr hlk hw dX5_block_79
    by_cases c_6 : p2 = 2
    · have hw := hw.2.2.1 c_6
      refine lv_tableIn (tgt := 80) (off := 57) hx hb dX5_block_23 (by rw [c_6]; decide) (by rw [c_6]; decide) (by rw [c_6]; decide) (by decide) ?_
      refine lv_bipush (v := 100) hx hb dX5_block_80 (by decide) ?_
      refine lv_aload_n hx hb dX5_block_82 rfl (lv_at hl 0 rfl) ?_
      refine va_get (D := D) (ci := 4) (v := .ref a_tree) (C := RX5) (T := TX5) (N := 7) hx hb hts iwX5 hown hK.1 hP 0 rfl rfl 0 (by decide) kf12 (fun _ h9 => h9) rfl dX5_block_83 ?_
      refine va_getN (own := RX5) (index := 70) (ref := "ExcessTree$Tree") (host := "ExcessTree") (D := D) (ci := 3) (v := .ref a_tree_row) (C := RX4) (T := TX4) (N := 3) hx hb hts iwX4 hown hK.1 hP 1 rfl rfl 0 (by decide) kn70 (fun _ h9 => h9) rfl dX5_block_86 ?_
      refine va_getN (own := RX5) (index := 132) (ref := "ExcessTree$Row") (host := "ExcessTree") (D := D) (ci := 0) (v := .ref a_tree_row_highs) (C := RX1) (T := TX1) (N := 6) hx hb hts iwX1 hown hK.1 hP 2 rfl rfl 5 (by decide) kn132 (fun _ h9 => h9) rfl dX5_block_89 ?_
      refine lv_iload_n hx hb dX5_block_92 rfl (lv_at hl 1 rfl) ?_
      have hq := hw.1
      have hw := hw.2
      refine va_iald hx hb hK.1 hP 5 0 rfl rfl hq dX5_block_93 ?_
      refine lv_iadd hx hb dX5_block_94 ?_
      exact z_iret hx hb hr hlk hw dX5_block_95
    have hw := hw.2.2.2 c_4 c_5 c_6
    refine lv_tableOut (tgt := 96) hx hb dX5_block_23 (by have q0 := lv_neT c_4 (a := 0) (by decide); have q1 := lv_neT c_5 (a := 1) (by decide); have q2 := lv_neT c_6 (a := 2) (by decide); omega) (by decide) ?_
    refine lv_iconst (v := -1) hx hb dX5_block_96 (by decide) ?_
    exact z_iret hx hb hr hlk hw dX5_block_97
  · have hw := hw.2 c_3
    refine lv_iconst (v := -1) hx hb dX5_block_20 (by decide) ?_
    exact z_iret hx hb hr hlk hw dX5_block_21
