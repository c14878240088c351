/-! written by wip/whole/gen.py -/
def wX4_nodesOf (f_row_low : Int64) (f_row_high : Int64) (f_row_places : Int32) (f_row_gains : Nat → Int32) (f_row_lows : Nat → Int32) (f_row_highs : Nat → Int32) (p1 : Int32) (post : Int32 → Prop) : Prop := (wX4_openOf f_row_low f_row_high f_row_places p1 (fun r_1 : Int32 => ((wX1_partnerOf f_row_low f_row_high f_row_places f_row_gains f_row_lows f_row_highs r_1 (fun r_2 : Int32 => (post (((r_2 - r_1) + (1 : Int32)) / (2 : Int32))))))))
abbrev rX4_nodesOf : Room := { frames := 4, cells := 0, slots := 0, locals := 95 }
theorem vX4_nodesOf : yX4_nodesOf.cls = RX4 ∧ yX4_nodesOf.cls ≠ "java/lang/invoke/MethodHandle" ∧ yX4_nodesOf.cls ≠ "java/lang/invoke/VarHandle" ∧ (parseMethodDescriptor yX4_nodesOf.desc).map (fun d => d.parameters.length) = some 1 := by decide +kernel
set_option maxHeartbeats 4000000 in
set_option maxRecDepth 100000 in
theorem kX4_nodesOf (l : Launch) (D : va_G) (cA : Nat → ClassId) (a0 a_row a_weights a_carried a_row_gains a_row_lows a_row_highs : Nat) (f_row_low : Int64) (f_row_high : Int64) (f_row_places : Int32) (f_row_gains : Nat → Int32) (f_row_lows : Nat → Int32) (f_row_highs : Nat → Int32) (f_weights : Nat → Int32) (f_carried : Nat → Int32) (p1 : Int32) (post : Int32 → Prop) (h : wX4_nodesOf f_row_low f_row_high f_row_places f_row_gains f_row_lows f_row_highs p1 post) : Met l yX4_nodesOf wsX4_nodesOf rX4_nodesOf (zPr D cA [.ref a0, .int p1] [(a0, .inr (3, [.ref a_row, .ref a_weights, .ref a_carried])), (a_row, .inr (0, [.long f_row_low, .long f_row_high, .int f_row_places, .ref a_row_gains, .ref a_row_lows, .ref a_row_highs])), (a_row_gains, .inl (cA 0, 8, .inl f_row_gains)), (a_row_lows, .inl (cA 0, 8, .inl f_row_lows)), (a_row_highs, .inl (cA 0, 8, .inl f_row_highs)), (a_weights, .inl (cA 0, 64, .inl f_weights)), (a_carried, .inl (cA 0, 64, .inl f_carried))]) (vp_Si post) 0 0 (fun _ => False) := by
  refine z_ro (cc := cX4_nodesOf) (maxL := 3) (ret := (some .int)) (by decide) rfl (Nat.le_of_ble_eq_true rfl) ?_
  intro p e s m args below meth c ls hx hb hr hlk hml hown hts hK hP hl
  have hown : s.vm.findClass RX4 = some m.cls := hown
  have hl : lv_has ls 3 [(0, .ref a0), (1, .int p1)] := hl
  have hw := h
  unfold wX4_nodesOf at hw
  have iwX4 : ∀ w ∈ wsX40, w ∈ wsX4_nodesOf := fun w h9 => List.mem_cons_of_mem _ (List.mem_append_left _ (List.mem_append_right _ h9))
  have kf12 := hts (.fieldLink RX4 12 "ExcessTree$Tree" "row" "LExcessTree$Row;") (by decide +kernel)
  refine lv_aload_n hx hb dX4_nodesOf_0 rfl (lv_at hl 0 rfl) ?_
  refine lv_iload_n hx hb dX4_nodesOf_1 rfl (lv_at hl 1 rfl) ?_
  refine z_ri [.int p1] [] ⟨hx, hb, hml, hown, hts⟩ (kX4_openOf l D cA a0 a_row a_weights a_carried a_row_gains a_row_lows a_row_highs f_row_low f_row_high f_row_places f_row_gains f_row_lows f_row_highs f_weights f_carried p1 _ hw) (cwV 1 hts gX4_nodesOf_X4_openOf rfl rfl rfl vX4_openOf ⟨Nat.le_of_ble_eq_true rfl, Nat.le_of_ble_eq_true rfl⟩) hK (hP.sub [0, 1, 2, 3, 4, 5, 6] rfl) (va_recv hK.1 (hP.sub (ws' := [(a0, .inr (3, [.ref a_row, .ref a_weights, .ref a_carried]))]) [0] rfl) (ci := 3) (q0 := 0) rfl rfl) rfl hl.1 rfl (Nat.le_of_ble_eq_true rfl) dX4_nodesOf_2 ⟨Nat.zero_le _, Nat.zero_le _⟩ (fun r_1 hw => ?_)
  refine lv_istore_n (lv' := [(2, .int r_1), (0, .ref a0), (1, .int p1)]) hx hb dX4_nodesOf_5 rfl hl (by decide) rfl (fun ls hl => ?_)
  refine lv_aload_n hx hb dX4_nodesOf_6 rfl (lv_at hl 1 rfl) ?_
  refine va_get (D := D) (ci := 3) (v := .ref a_row) (C := RX4) (T := TX4) (N := 3) hx hb hts iwX4 hown hK.1 hP 0 rfl rfl 0 (by decide) kf12 (fun _ h9 => h9) rfl dX4_nodesOf_7 ?_
  refine lv_iload_n hx hb dX4_nodesOf_10 rfl (lv_at hl 0 rfl) ?_
  refine z_ri [.int r_1] [] ⟨hx, hb, hml, hown, hts⟩ (kX1_partnerOf l D cA a_row a_row_gains a_row_lows a_row_highs f_row_low f_row_high f_row_places f_row_gains f_row_lows f_row_highs r_1 _ hw) (cwV 1 hts gX4_nodesOf_X1_partnerOf rfl rfl rfl vX1_partnerOf ⟨Nat.le_of_ble_eq_true rfl, Nat.le_of_ble_eq_true rfl⟩) hK (hP.sub [1, 2, 3, 4] rfl) (va_recv hK.1 (hP.sub (ws' := [(a_row, .inr (0, [.long f_row_low, .long f_row_high, .int f_row_places, .ref a_row_gains, .ref a_row_lows, .ref a_row_highs]))]) [1] rfl) (ci := 0) (q0 := 0) rfl rfl) rfl hl.1 rfl (Nat.le_of_ble_eq_true rfl) dX4_nodesOf_11 ⟨Nat.zero_le _, Nat.zero_le _⟩ (fun r_2 hw => ?_)
  refine lv_iload_n hx hb dX4_nodesOf_14 rfl (lv_at hl 0 rfl) ?_
  refine lv_isub hx hb dX4_nodesOf_15 ?_
  refine lv_iconst (v := 1) hx hb dX4_nodesOf_16 (by decide) ?_
  refine lv_iadd hx hb dX4_nodesOf_17 ?_
  refine lv_iconst (v := 2) hx hb dX4_nodesOf_18 (by decide) ?_
  refine lv_idiv hx hb dX4_nodesOf_19 (by decide) ?_
  exact z_iret hx hb hr hlk hw dX4_nodesOf_20
def wX4_leavesOf (f_row_low : Int64) (f_row_high : Int64) (f_row_places : Int32) (f_row_gains : Nat → Int32) (f_row_lows : Nat → Int32) (f_row_highs : Nat → Int32) (p1 : Int32) (post : Int32 → Prop) : Prop := (wX4_openOf f_row_low f_row_high f_row_places p1 (fun r_1 : Int32 => ((wX1_partnerOf f_row_low f_row_high f_row_places f_row_gains f_row_lows f_row_highs r_1 (fun r_2 : Int32 => ((wX1_signsAhead f_row_low f_row_high f_row_places r_2 (2 : Int32) (fun r_3 : Int32 => ((wX1_signsAhead f_row_low f_row_high f_row_places r_1 (2 : Int32) (fun r_4 : Int32 => (post (r_3 - r_4)))))))))))))
abbrev rX4_leavesOf : Room := { frames := 4, cells := 0, slots := 0, locals := 95 }
theorem vX4_leavesOf : yX4_leavesOf.cls = RX4 ∧ yX4_leavesOf.cls ≠ "java/lang/invoke/MethodHandle" ∧ yX4_leavesOf.cls ≠ "java/lang/invoke/VarHandle" ∧ (parseMethodDescriptor yX4_leavesOf.desc).map (fun d => d.parameters.length) = some 1 := by decide +kernel
set_option maxHeartbeats 4000000 in
set_option maxRecDepth 100000 in
theorem kX4_leavesOf (l : Launch) (D : va_G) (cA : Nat → ClassId) (a0 a_row a_weights a_carried a_row_gains a_row_lows a_row_highs : Nat) (f_row_low : Int64) (f_row_high : Int64) (f_row_places : Int32) (f_row_gains : Nat → Int32) (f_row_lows : Nat → Int32) (f_row_highs : Nat → Int32) (f_weights : Nat → Int32) (f_carried : Nat → Int32) (p1 : Int32) (post : Int32 → Prop) (h : wX4_leavesOf f_row_low f_row_high f_row_places f_row_gains f_row_lows f_row_highs p1 post) : Met l yX4_leavesOf wsX4_leavesOf rX4_leavesOf (zPr D cA [.ref a0, .int p1] [(a0, .inr (3, [.ref a_row, .ref a_weights, .ref a_carried])), (a_row, .inr (0, [.long f_row_low, .long f_row_high, .int f_row_places, .ref a_row_gains, .ref a_row_lows, .ref a_row_highs])), (a_row_gains, .inl (cA 0, 8, .inl f_row_gains)), (a_row_lows, .inl (cA 0, 8, .inl f_row_lows)), (a_row_highs, .inl (cA 0, 8, .inl f_row_highs)), (a_weights, .inl (cA 0, 64, .inl f_weights)), (a_carried, .inl (cA 0, 64, .inl f_carried))]) (vp_Si post) 0 0 (fun _ => False) := by
  refine z_ro (cc := cX4_leavesOf) (maxL := 3) (ret := (some .int)) (by decide) rfl (Nat.le_of_ble_eq_true rfl) ?_
  intro p e s m args below meth c ls hx hb hr hlk hml hown hts hK hP hl
  have hown : s.vm.findClass RX4 = some m.cls := hown
  have hl : lv_has ls 3 [(0, .ref a0), (1, .int p1)] := hl
  have hw := h
  unfold wX4_leavesOf at hw
  have iwX4 : ∀ w ∈ wsX40, w ∈ wsX4_leavesOf := fun w h9 => List.mem_cons_of_mem _ (List.mem_append_left _ (List.mem_append_right _ h9))
  have kf12 := hts (.fieldLink RX4 12 "ExcessTree$Tree" "row" "LExcessTree$Row;") (by decide +kernel)
  refine lv_aload_n hx hb dX4_leavesOf_0 rfl (lv_at hl 0 rfl) ?_
  refine lv_iload_n hx hb dX4_leavesOf_1 rfl (lv_at hl 1 rfl) ?_
  refine z_ri [.int p1] [] ⟨hx, hb, hml, hown, hts⟩ (kX4_openOf l D cA a0 a_row a_weights a_carried a_row_gains a_row_lows a_row_highs f_row_low f_row_high f_row_places f_row_gains f_row_lows f_row_highs f_weights f_carried p1 _ hw) (cwV 1 hts gX4_leavesOf_X4_openOf rfl rfl rfl vX4_openOf ⟨Nat.le_of_ble_eq_true rfl, Nat.le_of_ble_eq_true rfl⟩) hK (hP.sub [0, 1, 2, 3, 4, 5, 6] rfl) (va_recv hK.1 (hP.sub (ws' := [(a0, .inr (3, [.ref a_row, .ref a_weights, .ref a_carried]))]) [0] rfl) (ci := 3) (q0 := 0) rfl rfl) rfl hl.1 rfl (Nat.le_of_ble_eq_true rfl) dX4_leavesOf_2 ⟨Nat.zero_le _, Nat.zero_le _⟩ (fun r_1 hw => ?_)
  refine lv_istore_n (lv' := [(2, .int r_1), (0, .ref a0), (1, .int p1)]) hx hb dX4_leavesOf_5 rfl hl (by decide) rfl (fun ls hl => ?_)
  refine lv_aload_n hx hb dX4_leavesOf_6 rfl (lv_at hl 1 rfl) ?_
  refine va_get (D := D) (ci := 3) (v := .ref a_row) (C := RX4) (T := TX4) (N := 3) hx hb hts iwX4 hown hK.1 hP 0 rfl rfl 0 (by decide) kf12 (fun _ h9 => h9) rfl dX4_leavesOf_7 ?_
  refine lv_aload_n hx hb dX4_leavesOf_10 rfl (lv_at hl 1 rfl) ?_
  refine va_get (D := D) (ci := 3) (v := .ref a_row) (C := RX4) (T := TX4) (N := 3) hx hb hts iwX4 hown hK.1 hP 0 rfl rfl 0 (by decide) kf12 (fun _ h9 => h9) rfl dX4_leavesOf_11 ?_
  refine lv_iload_n hx hb dX4_leavesOf_14 rfl (lv_at hl 0 rfl) ?_
  refine z_ri [.int r_1] [.ref a_row] ⟨hx, hb, hml, hown, hts⟩ (kX1_partnerOf l D cA a_row a_row_gains a_row_lows a_row_highs f_row_low f_row_high f_row_places f_row_gains f_row_lows f_row_highs r_1 _ hw) (cwV 1 hts gX4_leavesOf_X1_partnerOf rfl rfl rfl vX1_partnerOf ⟨Nat.le_of_ble_eq_true rfl, Nat.le_of_ble_eq_true rfl⟩) hK (hP.sub [1, 2, 3, 4] rfl) (va_recv hK.1 (hP.sub (ws' := [(a_row, .inr (0, [.long f_row_low, .long f_row_high, .int f_row_places, .ref a_row_gains, .ref a_row_lows, .ref a_row_highs]))]) [1] rfl) (ci := 0) (q0 := 0) rfl rfl) rfl hl.1 rfl (Nat.le_of_ble_eq_true rfl) dX4_leavesOf_15 ⟨Nat.zero_le _, Nat.zero_le _⟩ (fun r_2 hw => ?_)
  refine lv_iconst (v := 2) hx hb dX4_leavesOf_18 (by decide) ?_
  refine z_ri [.int r_2, .int (2 : Int32)] [] ⟨hx, hb, hml, hown, hts⟩ (kX1_signsAhead l D cA a_row a_row_gains a_row_lows a_row_highs f_row_low f_row_high f_row_places f_row_gains f_row_lows f_row_highs r_2 (2 : Int32) _ hw) (cwV 2 hts gX4_leavesOf_X1_signsAhead rfl rfl rfl vX1_signsAhead ⟨Nat.le_of_ble_eq_true rfl, Nat.le_of_ble_eq_true rfl⟩) hK (hP.sub [1, 2, 3, 4] rfl) (va_recv hK.1 (hP.sub (ws' := [(a_row, .inr (0, [.long f_row_low, .long f_row_high, .int f_row_places, .ref a_row_gains, .ref a_row_lows, .ref a_row_highs]))]) [1] rfl) (ci := 0) (q0 := 0) rfl rfl) rfl hl.1 rfl (Nat.le_of_ble_eq_true rfl) dX4_leavesOf_19 ⟨Nat.zero_le _, Nat.zero_le _⟩ (fun r_3 hw => ?_)
  refine lv_aload_n hx hb dX4_leavesOf_22 rfl (lv_at hl 1 rfl) ?_
  refine va_get (D := D) (ci := 3) (v := .ref a_row) (C := RX4) (T := TX4) (N := 3) hx hb hts iwX4 hown hK.1 hP 0 rfl rfl 0 (by decide) kf12 (fun _ h9 => h9) rfl dX4_leavesOf_23 ?_
  refine lv_iload_n hx hb dX4_leavesOf_26 rfl (lv_at hl 0 rfl) ?_
  refine lv_iconst (v := 2) hx hb dX4_leavesOf_27 (by decide) ?_
  refine z_ri [.int r_1, .int (2 : Int32)] [.int r_3] ⟨hx, hb, hml, hown, hts⟩ (kX1_signsAhead l D cA a_row a_row_gains a_row_lows a_row_highs f_row_low f_row_high f_row_places f_row_gains f_row_lows f_row_highs r_1 (2 : Int32) _ hw) (cwV 2 hts gX4_leavesOf_X1_signsAhead rfl rfl rfl vX1_signsAhead ⟨Nat.le_of_ble_eq_true rfl, Nat.le_of_ble_eq_true rfl⟩) hK (hP.sub [1, 2, 3, 4] rfl) (va_recv hK.1 (hP.sub (ws' := [(a_row, .inr (0, [.long f_row_low, .long f_row_high, .int f_row_places, .ref a_row_gains, .ref a_row_lows, .ref a_row_highs]))]) [1] rfl) (ci := 0) (q0 := 0) rfl rfl) rfl hl.1 rfl (Nat.le_of_ble_eq_true rfl) dX4_leavesOf_28 ⟨Nat.zero_le _, Nat.zero_le _⟩ (fun r_4 hw => ?_)
  refine lv_isub hx hb dX4_leavesOf_31 ?_
  exact z_iret hx hb hr hlk hw dX4_leavesOf_32
def wX4_heightOf (f_row_low : Int64) (f_row_high : Int64) (f_row_places : Int32) (f_row_gains : Nat → Int32) (f_row_lows : Nat → Int32) (f_row_highs : Nat → Int32) (p1 : Int32) (post : Int32 → Prop) : Prop := (wX4_openOf f_row_low f_row_high f_row_places p1 (fun r_1 : Int32 => ((wX1_partnerOf f_row_low f_row_high f_row_places f_row_gains f_row_lows f_row_highs r_1 (fun r_2 : Int32 => ((wX1_extremeIn f_row_low f_row_high f_row_gains f_row_lows f_row_highs r_1 r_2 (1 : Int32) (fun r_3 : Int32 => ((wX1_excessAt f_row_low f_row_high r_1 (fun r_4 : Int32 => (post ((r_3 - r_4) - (1 : Int32))))))))))))))
abbrev rX4_heightOf : Room := { frames := 4, cells := 0, slots := 0, locals := 95 }
theorem vX4_heightOf : yX4_heightOf.cls = RX4 ∧ yX4_heightOf.cls ≠ "java/lang/invoke/MethodHandle" ∧ yX4_heightOf.cls ≠ "java/lang/invoke/VarHandle" ∧ (parseMethodDescriptor yX4_heightOf.desc).map (fun d => d.parameters.length) = some 1 := by decide +kernel
set_option maxHeartbeats 4000000 in
set_option maxRecDepth 100000 in
theorem kX4_heightOf (l : Launch) (D : va_G) (cA : Nat → ClassId) (a0 a_row a_weights a_carried a_row_gains a_row_lows a_row_highs : Nat) (f_row_low : Int64) (f_row_high : Int64) (f_row_places : Int32) (f_row_gains : Nat → Int32) (f_row_lows : Nat → Int32) (f_row_highs : Nat → Int32) (f_weights : Nat → Int32) (f_carried : Nat → Int32) (p1 : Int32) (post : Int32 → Prop) (h : wX4_heightOf f_row_low f_row_high f_row_places f_row_gains f_row_lows f_row_highs p1 post) : Met l yX4_heightOf wsX4_heightOf rX4_heightOf (zPr D cA [.ref a0, .int p1] [(a0, .inr (3, [.ref a_row, .ref a_weights, .ref a_carried])), (a_row, .inr (0, [.long f_row_low, .long f_row_high, .int f_row_places, .ref a_row_gains, .ref a_row_lows, .ref a_row_highs])), (a_row_gains, .inl (cA 0, 8, .inl f_row_gains)), (a_row_lows, .inl (cA 0, 8, .inl f_row_lows)), (a_row_highs, .inl (cA 0, 8, .inl f_row_highs)), (a_weights, .inl (cA 0, 64, .inl f_weights)), (a_carried, .inl (cA 0, 64, .inl f_carried))]) (vp_Si post) 0 0 (fun _ => False) := by
  refine z_ro (cc := cX4_heightOf) (maxL := 3) (ret := (some .int)) (by decide) rfl (Nat.le_of_ble_eq_true rfl) ?_
  intro p e s m args below meth c ls hx hb hr hlk hml hown hts hK hP hl
  have hown : s.vm.findClass RX4 = some m.cls := hown
  have hl : lv_has ls 3 [(0, .ref a0), (1, .int p1)] := hl
  have hw := h
  unfold wX4_heightOf at hw
  have iwX4 : ∀ w ∈ wsX40, w ∈ wsX4_heightOf := fun w h9 => List.mem_cons_of_mem _ (List.mem_append_left _ (List.mem_append_right _ h9))
  have kf12 := hts (.fieldLink RX4 12 "ExcessTree$Tree" "row" "LExcessTree$Row;") (by decide +kernel)
  refine lv_aload_n hx hb dX4_heightOf_0 rfl (lv_at hl 0 rfl) ?_
  refine lv_iload_n hx hb dX4_heightOf_1 rfl (lv_at hl 1 rfl) ?_
  refine z_ri [.int p1] [] ⟨hx, hb, hml, hown, hts⟩ (kX4_openOf l D cA a0 a_row a_weights a_carried a_row_gains a_row_lows a_row_highs f_row_low f_row_high f_row_places f_row_gains f_row_lows f_row_highs f_weights f_carried p1 _ hw) (cwV 1 hts gX4_heightOf_X4_openOf rfl rfl rfl vX4_openOf ⟨Nat.le_of_ble_eq_true rfl, Nat.le_of_ble_eq_true rfl⟩) hK (hP.sub [0, 1, 2, 3, 4, 5, 6] rfl) (va_recv hK.1 (hP.sub (ws' := [(a0, .inr (3, [.ref a_row, .ref a_weights, .ref a_carried]))]) [0] rfl) (ci := 3) (q0 := 0) rfl rfl) rfl hl.1 rfl (Nat.le_of_ble_eq_true rfl) dX4_heightOf_2 ⟨Nat.zero_le _, Nat.zero_le _⟩ (fun r_1 hw => ?_)
  refine lv_istore_n (lv' := [(2, .int r_1), (0, .ref a0), (1, .int p1)]) hx hb dX4_heightOf_5 rfl hl (by decide) rfl (fun ls hl => ?_)
  refine lv_aload_n hx hb dX4_heightOf_6 rfl (lv_at hl 1 rfl) ?_
  refine va_get (D := D) (ci := 3) (v := .ref a_row) (C := RX4) (T := TX4) (N := 3) hx hb hts iwX4 hown hK.1 hP 0 rfl rfl 0 (by decide) kf12 (fun _ h9 => h9) rfl dX4_heightOf_7 ?_
  refine lv_iload_n hx hb dX4_heightOf_10 rfl (lv_at hl 0 rfl) ?_
  refine lv_aload_n hx hb dX4_heightOf_11 rfl (lv_at hl 1 rfl) ?_
  refine va_get (D := D) (ci := 3) (v := .ref a_row) (C := RX4) (T := TX4) (N := 3) hx hb hts iwX4 hown hK.1 hP 0 rfl rfl 0 (by decide) kf12 (fun _ h9 => h9) rfl dX4_heightOf_12 ?_
  refine lv_iload_n hx hb dX4_heightOf_15 rfl (lv_at hl 0 rfl) ?_
  refine z_ri [.int r_1] [.int r_1, .ref a_row] ⟨hx, hb, hml, hown, hts⟩ (kX1_partnerOf l D cA a_row a_row_gains a_row_lows a_row_highs f_row_low f_row_high f_row_places f_row_gains f_row_lows f_row_highs r_1 _ hw) (cwV 1 hts gX4_heightOf_X1_partnerOf rfl rfl rfl vX1_partnerOf ⟨Nat.le_of_ble_eq_true rfl, Nat.le_of_ble_eq_true rfl⟩) hK (hP.sub [1, 2, 3, 4] rfl) (va_recv hK.1 (hP.sub (ws' := [(a_row, .inr (0, [.long f_row_low, .long f_row_high, .int f_row_places, .ref a_row_gains, .ref a_row_lows, .ref a_row_highs]))]) [1] rfl) (ci := 0) (q0 := 0) rfl rfl) rfl hl.1 rfl (Nat.le_of_ble_eq_true rfl) dX4_heightOf_16 ⟨Nat.zero_le _, Nat.zero_le _⟩ (fun r_2 hw => ?_)
  refine lv_iconst (v := 1) hx hb dX4_heightOf_19 (by decide) ?_
  refine z_ri [.int r_1, .int r_2, .int (1 : Int32)] [] ⟨hx, hb, hml, hown, hts⟩ (kX1_extremeIn l D cA a_row a_row_gains a_row_lows a_row_highs f_row_low f_row_high f_row_places f_row_gains f_row_lows f_row_highs r_1 r_2 (1 : Int32) _ hw) (cwV 3 hts gX4_heightOf_X1_extremeIn rfl rfl rfl vX1_extremeIn ⟨Nat.le_of_ble_eq_true rfl, Nat.le_of_ble_eq_true rfl⟩) hK (hP.sub [1, 2, 3, 4] rfl) (va_recv hK.1 (hP.sub (ws' := [(a_row, .inr (0, [.long f_row_low, .long f_row_high, .int f_row_places, .ref a_row_gains, .ref a_row_lows, .ref a_row_highs]))]) [1] rfl) (ci := 0) (q0 := 0) rfl rfl) rfl hl.1 rfl (Nat.le_of_ble_eq_true rfl) dX4_heightOf_20 ⟨Nat.zero_le _, Nat.zero_le _⟩ (fun r_3 hw => ?_)
  refine lv_aload_n hx hb dX4_heightOf_23 rfl (lv_at hl 1 rfl) ?_
  refine va_get (D := D) (ci := 3) (v := .ref a_row) (C := RX4) (T := TX4) (N := 3) hx hb hts iwX4 hown hK.1 hP 0 rfl rfl 0 (by decide) kf12 (fun _ h9 => h9) rfl dX4_heightOf_24 ?_
  refine lv_iload_n hx hb dX4_heightOf_27 rfl (lv_at hl 0 rfl) ?_
  refine z_ri [.int r_1] [.int r_3] ⟨hx, hb, hml, hown, hts⟩ (kX1_excessAt l D cA a_row a_row_gains a_row_lows a_row_highs f_row_low f_row_high f_row_places f_row_gains f_row_lows f_row_highs r_1 _ hw) (cwV 1 hts gX4_heightOf_X1_excessAt rfl rfl rfl vX1_excessAt ⟨Nat.le_of_ble_eq_true rfl, Nat.le_of_ble_eq_true rfl⟩) hK (hP.sub [1, 2, 3, 4] rfl) (va_recv hK.1 (hP.sub (ws' := [(a_row, .inr (0, [.long f_row_low, .long f_row_high, .int f_row_places, .ref a_row_gains, .ref a_row_lows, .ref a_row_highs]))]) [1] rfl) (ci := 0) (q0 := 0) rfl rfl) rfl hl.1 rfl (Nat.le_of_ble_eq_true rfl) dX4_heightOf_28 ⟨Nat.zero_le _, Nat.zero_le _⟩ (fun r_4 hw => ?_)
  refine lv_isub hx hb dX4_heightOf_31 ?_
  refine lv_iconst (v := 1) hx hb dX4_heightOf_32 (by decide) ?_
  refine lv_isub hx hb dX4_heightOf_33 ?_
  exact z_iret hx hb hr hlk hw dX4_heightOf_34
def wX4_deepestOf (f_row_low : Int64) (f_row_high : Int64) (f_row_places : Int32) (f_row_gains : Nat → Int32) (f_row_lows : Nat → Int32) (f_row_highs : Nat → Int32) (p1 : Int32) (post : Int32 → Prop) : Prop := (wX4_openOf f_row_low f_row_high f_row_places p1 (fun r_1 : Int32 => ((wX1_partnerOf f_row_low f_row_high f_row_places f_row_gains f_row_lows f_row_highs r_1 (fun r_2 : Int32 => ((wX1_extremeIn f_row_low f_row_high f_row_gains f_row_lows f_row_highs r_1 r_2 (1 : Int32) (fun r_3 : Int32 => ((wX1_firstWith f_row_low f_row_high f_row_places f_row_gains f_row_lows f_row_highs r_1 r_3 (fun r_4 : Int32 => ((wX1_opensAhead f_row_low f_row_high (r_4 - (1 : Int32)) (fun r_5 : Int32 => (post r_5)))))))))))))))
abbrev rX4_deepestOf : Room := { frames := 4, cells := 0, slots := 0, locals := 95 }
theorem vX4_deepestOf : yX4_deepestOf.cls = RX4 ∧ yX4_deepestOf.cls ≠ "java/lang/invoke/MethodHandle" ∧ yX4_deepestOf.cls ≠ "java/lang/invoke/VarHandle" ∧ (parseMethodDescriptor yX4_deepestOf.desc).map (fun d => d.parameters.length) = some 1 := by decide +kernel
set_option maxHeartbeats 4000000 in
set_option maxRecDepth 100000 in
theorem kX4_deepestOf (l : Launch) (D : va_G) (cA : Nat → ClassId) (a0 a_row a_weights a_carried a_row_gains a_row_lows a_row_highs : Nat) (f_row_low : Int64) (f_row_high : Int64) (f_row_places : Int32) (f_row_gains : Nat → Int32) (f_row_lows : Nat → Int32) (f_row_highs : Nat → Int32) (f_weights : Nat → Int32) (f_carried : Nat → Int32) (p1 : Int32) (post : Int32 → Prop) (h : wX4_deepestOf f_row_low f_row_high f_row_places f_row_gains f_row_lows f_row_highs p1 post) : Met l yX4_deepestOf wsX4_deepestOf rX4_deepestOf (zPr D cA [.ref a0, .int p1] [(a0, .inr (3, [.ref a_row, .ref a_weights, .ref a_carried])), (a_row, .inr (0, [.long f_row_low, .long f_row_high, .int f_row_places, .ref a_row_gains, .ref a_row_lows, .ref a_row_highs])), (a_row_gains, .inl (cA 0, 8, .inl f_row_gains)), (a_row_lows, .inl (cA 0, 8, .inl f_row_lows)), (a_row_highs, .inl (cA 0, 8, .inl f_row_highs)), (a_weights, .inl (cA 0, 64, .inl f_weights)), (a_carried, .inl (cA 0, 64, .inl f_carried))]) (vp_Si post) 0 0 (fun _ => False) := by
  refine z_ro (cc := cX4_deepestOf) (maxL := 3) (ret := (some .int)) (by decide) rfl (Nat.le_of_ble_eq_true rfl) ?_
  intro p e s m args below meth c ls hx hb hr hlk hml hown hts hK hP hl
  have hown : s.vm.findClass RX4 = some m.cls := hown
  have hl : lv_has ls 3 [(0, .ref a0), (1, .int p1)] := hl
  have hw := h
  unfold wX4_deepestOf at hw
  have iwX4 : ∀ w ∈ wsX40, w ∈ wsX4_deepestOf := fun w h9 => List.mem_cons_of_mem _ (List.mem_append_left _ (List.mem_append_right _ h9))
  have kf12 := hts (.fieldLink RX4 12 "ExcessTree$Tree" "row" "LExcessTree$Row;") (by decide +kernel)
  refine lv_aload_n hx hb dX4_deepestOf_0 rfl (lv_at hl 0 rfl) ?_
  refine lv_iload_n hx hb dX4_deepestOf_1 rfl (lv_at hl 1 rfl) ?_
  refine z_ri [.int p1] [] ⟨hx, hb, hml, hown, hts⟩ (kX4_openOf l D cA a0 a_row a_weights a_carried a_row_gains a_row_lows a_row_highs f_row_low f_row_high f_row_places f_row_gains f_row_lows f_row_highs f_weights f_carried p1 _ hw) (cwV 1 hts gX4_deepestOf_X4_openOf rfl rfl rfl vX4_openOf ⟨Nat.le_of_ble_eq_true rfl, Nat.le_of_ble_eq_true rfl⟩) hK (hP.sub [0, 1, 2, 3, 4, 5, 6] rfl) (va_recv hK.1 (hP.sub (ws' := [(a0, .inr (3, [.ref a_row, .ref a_weights, .ref a_carried]))]) [0] rfl) (ci := 3) (q0 := 0) rfl rfl) rfl hl.1 rfl (Nat.le_of_ble_eq_true rfl) dX4_deepestOf_2 ⟨Nat.zero_le _, Nat.zero_le _⟩ (fun r_1 hw => ?_)
  refine lv_istore_n (lv' := [(2, .int r_1), (0, .ref a0), (1, .int p1)]) hx hb dX4_deepestOf_5 rfl hl (by decide) rfl (fun ls hl => ?_)
  refine lv_aload_n hx hb dX4_deepestOf_6 rfl (lv_at hl 1 rfl) ?_
  refine va_get (D := D) (ci := 3) (v := .ref a_row) (C := RX4) (T := TX4) (N := 3) hx hb hts iwX4 hown hK.1 hP 0 rfl rfl 0 (by decide) kf12 (fun _ h9 => h9) rfl dX4_deepestOf_7 ?_
  refine lv_aload_n hx hb dX4_deepestOf_10 rfl (lv_at hl 1 rfl) ?_
  refine va_get (D := D) (ci := 3) (v := .ref a_row) (C := RX4) (T := TX4) (N := 3) hx hb hts iwX4 hown hK.1 hP 0 rfl rfl 0 (by decide) kf12 (fun _ h9 => h9) rfl dX4_deepestOf_11 ?_
  refine lv_iload_n hx hb dX4_deepestOf_14 rfl (lv_at hl 0 rfl) ?_
  refine lv_aload_n hx hb dX4_deepestOf_15 rfl (lv_at hl 1 rfl) ?_
  refine va_get (D := D) (ci := 3) (v := .ref a_row) (C := RX4) (T := TX4) (N := 3) hx hb hts iwX4 hown hK.1 hP 0 rfl rfl 0 (by decide) kf12 (fun _ h9 => h9) rfl dX4_deepestOf_16 ?_
  refine lv_iload_n hx hb dX4_deepestOf_19 rfl (lv_at hl 0 rfl) ?_
  refine lv_aload_n hx hb dX4_deepestOf_20 rfl (lv_at hl 1 rfl) ?_
  refine va_get (D := D) (ci := 3) (v := .ref a_row) (C := RX4) (T := TX4) (N := 3) hx hb hts iwX4 hown hK.1 hP 0 rfl rfl 0 (by decide) kf12 (fun _ h9 => h9) rfl dX4_deepestOf_21 ?_
  refine lv_iload_n hx hb dX4_deepestOf_24 rfl (lv_at hl 0 rfl) ?_
  refine z_ri [.int r_1] [.int r_1, .ref a_row, .int r_1, .ref a_row, .ref a_row] ⟨hx, hb, hml, hown, hts⟩ (kX1_partnerOf l D cA a_row a_row_gains a_row_lows a_row_highs f_row_low f_row_high f_row_places f_row_gains f_row_lows f_row_highs r_1 _ hw) (cwV 1 hts gX4_deepestOf_X1_partnerOf rfl rfl rfl vX1_partnerOf ⟨Nat.le_of_ble_eq_true rfl, Nat.le_of_ble_eq_true rfl⟩) hK (hP.sub [1, 2, 3, 4] rfl) (va_recv hK.1 (hP.sub (ws' := [(a_row, .inr (0, [.long f_row_low, .long f_row_high, .int f_row_places, .ref a_row_gains, .ref a_row_lows, .ref a_row_highs]))]) [1] rfl) (ci := 0) (q0 := 0) rfl rfl) rfl hl.1 rfl (Nat.le_of_ble_eq_true rfl) dX4_deepestOf_25 ⟨Nat.zero_le _, Nat.zero_le _⟩ (fun r_2 hw => ?_)
  refine lv_iconst (v := 1) hx hb dX4_deepestOf_28 (by decide) ?_
  refine z_ri [.int r_1, .int r_2, .int (1 : Int32)] [.int r_1, .ref a_row, .ref a_row] ⟨hx, hb, hml, hown, hts⟩ (kX1_extremeIn l D cA a_row a_row_gains a_row_lows a_row_highs f_row_low f_row_high f_row_places f_row_gains f_row_lows f_row_highs r_1 r_2 (1 : Int32) _ hw) (cwV 3 hts gX4_deepestOf_X1_extremeIn rfl rfl rfl vX1_extremeIn ⟨Nat.le_of_ble_eq_true rfl, Nat.le_of_ble_eq_true rfl⟩) hK (hP.sub [1, 2, 3, 4] rfl) (va_recv hK.1 (hP.sub (ws' := [(a_row, .inr (0, [.long f_row_low, .long f_row_high, .int f_row_places, .ref a_row_gains, .ref a_row_lows, .ref a_row_highs]))]) [1] rfl) (ci := 0) (q0 := 0) rfl rfl) rfl hl.1 rfl (Nat.le_of_ble_eq_true rfl) dX4_deepestOf_29 ⟨Nat.zero_le _, Nat.zero_le _⟩ (fun r_3 hw => ?_)
  refine z_ri [.int r_1, .int r_3] [.ref a_row] ⟨hx, hb, hml, hown, hts⟩ (kX1_firstWith l D cA a_row a_row_gains a_row_lows a_row_highs f_row_low f_row_high f_row_places f_row_gains f_row_lows f_row_highs r_1 r_3 _ hw) (cwV 2 hts gX4_deepestOf_X1_firstWith rfl rfl rfl vX1_firstWith ⟨Nat.le_of_ble_eq_true rfl, Nat.le_of_ble_eq_true rfl⟩) hK (hP.sub [1, 2, 3, 4] rfl) (va_recv hK.1 (hP.sub (ws' := [(a_row, .inr (0, [.long f_row_low, .long f_row_high, .int f_row_places, .ref a_row_gains, .ref a_row_lows, .ref a_row_highs]))]) [1] rfl) (ci := 0) (q0 := 0) rfl rfl) rfl hl.1 rfl (Nat.le_of_ble_eq_true rfl) dX4_deepestOf_32 ⟨Nat.zero_le _, Nat.zero_le _⟩ (fun r_4 hw => ?_)
  refine lv_iconst (v := 1) hx hb dX4_deepestOf_35 (by decide) ?_
  refine lv_isub hx hb dX4_deepestOf_36 ?_
  refine z_ri [.int (r_4 - (1 : Int32))] [] ⟨hx, hb, hml, hown, hts⟩ (kX1_opensAhead l D cA a_row a_row_gains a_row_lows a_row_highs f_row_low f_row_high f_row_places f_row_gains f_row_lows f_row_highs (r_4 - (1 : Int32)) _ hw) (cwV 1 hts gX4_deepestOf_X1_opensAhead rfl rfl rfl vX1_opensAhead ⟨Nat.le_of_ble_eq_true rfl, Nat.le_of_ble_eq_true rfl⟩) hK (hP.sub [1, 2, 3, 4] rfl) (va_recv hK.1 (hP.sub (ws' := [(a_row, .inr (0, [.long f_row_low, .long f_row_high, .int f_row_places, .ref a_row_gains, .ref a_row_lows, .ref a_row_highs]))]) [1] rfl) (ci := 0) (q0 := 0) rfl rfl) rfl hl.1 rfl (Nat.le_of_ble_eq_true rfl) dX4_deepestOf_37 ⟨Nat.zero_le _, Nat.zero_le _⟩ (fun r_5 hw => ?_)
  exact z_iret hx hb hr hlk hw dX4_deepestOf_40
def wX4_isAbove (f_row_low : Int64) (f_row_high : Int64) (f_row_places : Int32) (f_row_gains : Nat → Int32) (f_row_lows : Nat → Int32) (f_row_highs : Nat → Int32) (p1 : Int32) (p2 : Int32) (post : Int32 → Prop) : Prop := ((p2 < p1 → post (0 : Int32)) ∧ (¬ p2 < p1 → (wX4_nodesOf f_row_low f_row_high f_row_places f_row_gains f_row_lows f_row_highs p1 (fun r_2 : Int32 => ((((p1 + r_2) ≤ p2 → post (0 : Int32)) ∧ (¬ (p1 + r_2) ≤ p2 → post (1 : Int32))))))))
abbrev rX4_isAbove : Room := { frames := 5, cells := 0, slots := 0, locals := 117 }
theorem vX4_isAbove : yX4_isAbove.cls = RX4 ∧ yX4_isAbove.cls ≠ "java/lang/invoke/MethodHandle" ∧ yX4_isAbove.cls ≠ "java/lang/invoke/VarHandle" ∧ (parseMethodDescriptor yX4_isAbove.desc).map (fun d => d.parameters.length) = some 2 := by decide +kernel
set_option maxHeartbeats 4000000 in
set_option maxRecDepth 100000 in
theorem kX4_isAbove (l : Launch) (D : va_G) (cA : Nat → ClassId) (a0 a_row a_weights a_carried a_row_gains a_row_lows a_row_highs : Nat) (f_row_low : Int64) (f_row_high : Int64) (f_row_places : Int32) (f_row_gains : Nat → Int32) (f_row_lows : Nat → Int32) (f_row_highs : Nat → Int32) (f_weights : Nat → Int32) (f_carried : Nat → Int32) (p1 : Int32) (p2 : Int32) (post : Int32 → Prop) (h : wX4_isAbove f_row_low f_row_high f_row_places f_row_gains f_row_lows f_row_highs p1 p2 post) : Met l yX4_isAbove wsX4_isAbove rX4_isAbove (zPr D cA [.ref a0, .int p1, .int p2] [(a0, .inr (3, [.ref a_row, .ref a_weights, .ref a_carried])), (a_row, .inr (0, [.long f_row_low, .long f_row_high, .int f_row_places, .ref a_row_gains, .ref a_row_lows, .ref a_row_highs])), (a_row_gains, .inl (cA 0, 8, .inl f_row_gains)), (a_row_lows, .inl (cA 0, 8, .inl f_row_lows)), (a_row_highs, .inl (cA 0, 8, .inl f_row_highs)), (a_weights, .inl (cA 0, 64, .inl f_weights)), (a_carried, .inl (cA 0, 64, .inl f_carried))]) (vp_Si post) 0 0 (fun _ => False) := by
  refine z_ro (cc := cX4_isAbove) (maxL := 3) (ret := (some .boolean)) (by decide) rfl (Nat.le_of_ble_eq_true rfl) ?_
  intro p e s m args below meth c ls hx hb hr hlk hml hown hts hK hP hl
  have hown : s.vm.findClass RX4 = some m.cls := hown
  have hl : lv_has ls 3 [(0, .ref a0), (1, .int p1), (2, .int p2)] := hl
  have hw := h
  unfold wX4_isAbove at hw
  refine lv_iload_n hx hb dX4_isAbove_0 rfl (lv_at hl 2 rfl) ?_
  refine lv_iload_n hx hb dX4_isAbove_1 rfl (lv_at hl 1 rfl) ?_
  refine lv_icmp_lt (tgt := 20) hx hb dX4_isAbove_2 (by decide) (fun c_1 => ?_) (fun c_1 => ?_)
  · have hw := hw.1 c_1
    refine lv_iconst (v := 0) hx hb dX4_isAbove_20 (by decide) ?_
    exact z_zret hx hb hr hlk rfl hw dX4_isAbove_21
  · have hw := hw.2 c_1
    refine lv_iload_n hx hb dX4_isAbove_5 rfl (lv_at hl 2 rfl) ?_
    refine lv_iload_n hx hb dX4_isAbove_6 rfl (lv_at hl 1 rfl) ?_
    refine lv_aload_n hx hb dX4_isAbove_7 rfl (lv_at hl 0 rfl) ?_
    refine lv_iload_n hx hb dX4_isAbove_8 rfl (lv_at hl 1 rfl) ?_
    refine z_ri [.int p1] [.int p1, .int p2] ⟨hx, hb, hml, hown, hts⟩ (kX4_nodesOf l D cA a0 a_row a_weights a_carried a_row_gains a_row_lows a_row_highs f_row_low f_row_high f_row_places f_row_gains f_row_lows f_row_highs f_weights f_carried p1 _ hw) (cwV 1 hts gX4_isAbove_X4_nodesOf rfl rfl rfl vX4_nodesOf ⟨Nat.le_of_ble_eq_true rfl, Nat.le_of_ble_eq_true rfl⟩) hK (hP.sub [0, 1, 2, 3, 4, 5, 6] rfl) (va_recv hK.1 (hP.sub (ws' := [(a0, .inr (3, [.ref a_row, .ref a_weights, .ref a_carried]))]) [0] rfl) (ci := 3) (q0 := 0) rfl rfl) rfl hl.1 rfl (Nat.le_of_ble_eq_true rfl) dX4_isAbove_9 ⟨Nat.zero_le _, Nat.zero_le _⟩ (fun r_2 hw => ?_)
    refine lv_iadd hx hb dX4_isAbove_12 ?_
    refine lv_icmp_ge (tgt := 20) hx hb dX4_isAbove_13 (by decide) (fun c_3 => ?_) (fun c_3 => ?_)
    · have hw := hw.1 c_3
      refine lv_iconst (v := 0) hx hb dX4_isAbove_20 (by decide) ?_
      exact z_zret hx hb hr hlk rfl hw dX4_isAbove_21
    · have hw := hw.2 c_3
      refine lv_iconst (v := 1) hx hb dX4_isAbove_16 (by decide) ?_
      refine lv_goto (tgt := 21) hx hb dX4_isAbove_17 (by decide) ?_
      exact z_zret hx hb hr hlk rfl hw dX4_isAbove_21
def wX4_haveLikeRows (f_row_low : Int64) (f_row_high : Int64) (f_row_places : Int32) (f_row_gains : Nat → Int32) (f_row_lows : Nat → Int32) (f_row_highs : Nat → Int32) (p1 : Int32) (p2 : Int32) (post : Int32 → Prop) : Prop := (wX4_nodesOf f_row_low f_row_high f_row_places f_row_gains f_row_lows f_row_highs p1 (fun r_1 : Int32 => ((∀ x_2 : Int32, x_2 = ((2 : Int32) * r_1) → (wX4_nodesOf f_row_low f_row_high f_row_places f_row_gains f_row_lows f_row_highs p2 (fun r_3 : Int32 => (((x_2 = ((2 : Int32) * r_3) → (wX4_openOf f_row_low f_row_high f_row_places p1 (fun r_5 : Int32 => ((wX4_openOf f_row_low f_row_high f_row_places p2 (fun r_6 : Int32 => ((wX1_takenLow f_row_low f_row_high r_5 x_2 (fun r_7 : Int64 => ((wX1_takenLow f_row_low f_row_high r_6 x_2 (fun r_8 : Int64 => (((¬ (lg_cmp r_7 r_8) = 0 → post (0 : Int32)) ∧ ((lg_cmp r_7 r_8) = 0 → (wX1_takenHigh f_row_high r_5 x_2 (fun r_10 : Int64 => ((wX1_takenHigh f_row_high r_6 x_2 (fun r_11 : Int64 => (((¬ (lg_cmp r_10 r_11) = 0 → post (0 : Int32)) ∧ ((lg_cmp r_10 r_11) = 0 → post (1 : Int32)))))))))))))))))))))))) ∧ (¬ x_2 = ((2 : Int32) * r_3) → post (0 : Int32))))))))))
abbrev rX4_haveLikeRows : Room := { frames := 5, cells := 0, slots := 0, locals := 117 }
theorem vX4_haveLikeRows : yX4_haveLikeRows.cls = RX4 ∧ yX4_haveLikeRows.cls ≠ "java/lang/invoke/MethodHandle" ∧ yX4_haveLikeRows.cls ≠ "java/lang/invoke/VarHandle" ∧ (parseMethodDescriptor yX4_haveLikeRows.desc).map (fun d => d.parameters.length) = some 2 := by decide +kernel
set_option maxHeartbeats 4000000 in
set_option maxRecDepth 100000 in
theorem kX4_haveLikeRows (l : Launch) (D : va_G) (cA : Nat → ClassId) (a0 a_row a_weights a_carried a_row_gains a_row_lows a_row_highs : Nat) (f_row_low : Int64) (f_row_high : Int64) (f_row_places : Int32) (f_row_gains : Nat → Int32) (f_row_lows : Nat → Int32) (f_row_highs : Nat → Int32) (f_weights : Nat → Int32) (f_carried : Nat → Int32) (p1 : Int32) (p2 : Int32) (post : Int32 → Prop) (h : wX4_haveLikeRows f_row_low f_row_high f_row_places f_row_gains f_row_lows f_row_highs p1 p2 post) : Met l yX4_haveLikeRows wsX4_haveLikeRows rX4_haveLikeRows (zPr D cA [.ref a0, .int p1, .int p2] [(a0, .inr (3, [.ref a_row, .ref a_weights, .ref a_carried])), (a_row, .inr (0, [.long f_row_low, .long f_row_high, .int f_row_places, .ref a_row_gains, .ref a_row_lows, .ref a_row_highs])), (a_row_gains, .inl (cA 0, 8, .inl f_row_gains)), (a_row_lows, .inl (cA 0, 8, .inl f_row_lows)), (a_row_highs, .inl (cA 0, 8, .inl f_row_highs)), (a_weights, .inl (cA 0, 64, .inl f_weights)), (a_carried, .inl (cA 0, 64, .inl f_carried))]) (vp_Si post) 0 0 (fun _ => False) := by
  refine z_ro (cc := cX4_haveLikeRows) (maxL := 6) (ret := (some .boolean)) (by decide) rfl (Nat.le_of_ble_eq_true rfl) ?_
  intro p e s m args below meth c ls hx hb hr hlk hml hown hts hK hP hl
  have hown : s.vm.findClass RX4 = some m.cls := hown
  have hl : lv_has ls 6 [(0, .ref a0), (1, .int p1), (2, .int p2)] := hl
  have hw := h
  unfold wX4_haveLikeRows at hw
  have iwX4 : ∀ w ∈ wsX40, w ∈ wsX4_haveLikeRows := fun w h9 => List.mem_cons_of_mem _ (List.mem_append_left _ (List.mem_append_right _ h9))
  have kf12 := hts (.fieldLink RX4 12 "ExcessTree$Tree" "row" "LExcessTree$Row;") (by decide +kernel)
  refine lv_iconst (v := 2) hx hb dX4_haveLikeRows_0 (by decide) ?_
  refine lv_aload_n hx hb dX4_haveLikeRows_1 rfl (lv_at hl 0 rfl) ?_
  refine lv_iload_n hx hb dX4_haveLikeRows_2 rfl (lv_at hl 1 rfl) ?_
  refine z_ri [.int p1] [.int (2 : Int32)] ⟨hx, hb, hml, hown, hts⟩ (kX4_nodesOf l D cA a0 a_row a_weights a_carried a_row_gains a_row_lows a_row_highs f_row_low f_row_high f_row_places f_row_gains f_row_lows f_row_highs f_weights f_carried p1 _ hw) (cwV 1 hts gX4_haveLikeRows_X4_nodesOf rfl rfl rfl vX4_nodesOf ⟨Nat.le_of_ble_eq_true rfl, Nat.le_of_ble_eq_true rfl⟩) hK (hP.sub [0, 1, 2, 3, 4, 5, 6] rfl) (va_recv hK.1 (hP.sub (ws' := [(a0, .inr (3, [.ref a_row, .ref a_weights, .ref a_carried]))]) [0] rfl) (ci := 3) (q0 := 0) rfl rfl) rfl hl.1 rfl (Nat.le_of_ble_eq_true rfl) dX4_haveLikeRows_3 ⟨Nat.zero_le _, Nat.zero_le _⟩ (fun r_1 hw => ?_)
  refine lv_imul hx hb dX4_haveLikeRows_6 ?_
  refine lv_topi (fun x_2 ex_2 => ?_)
  have hw := hw x_2 ex_2
  refine lv_istore_n (lv' := [(3, .int x_2), (0, .ref a0), (1, .int p1), (2, .int p2)]) hx hb dX4_haveLikeRows_7 rfl hl (by decide) rfl (fun ls hl => ?_)
  refine lv_iload_n hx hb dX4_haveLikeRows_8 rfl (lv_at hl 0 rfl) ?_
  refine lv_iconst (v := 2) hx hb dX4_haveLikeRows_9 (by decide) ?_
  refine lv_aload_n hx hb dX4_haveLikeRows_10 rfl (lv_at hl 1 rfl) ?_
  refine lv_iload_n hx hb dX4_haveLikeRows_11 rfl (lv_at hl 3 rfl) ?_
  refine z_ri [.int p2] [.int (2 : Int32), .int x_2] ⟨hx, hb, hml, hown, hts⟩ (kX4_nodesOf l D cA a0 a_row a_weights a_carried a_row_gains a_row_lows a_row_highs f_row_low f_row_high f_row_places f_row_gains f_row_lows f_row_highs f_weights f_carried p2 _ hw) (cwV 1 hts gX4_haveLikeRows_X4_nodesOf rfl rfl rfl vX4_nodesOf ⟨Nat.le_of_ble_eq_true rfl, Nat.le_of_ble_eq_true rfl⟩) hK (hP.sub [0, 1, 2, 3, 4, 5, 6] rfl) (va_recv hK.1 (hP.sub (ws' := [(a0, .inr (3, [.ref a_row, .ref a_weights, .ref a_carried]))]) [0] rfl) (ci := 3) (q0 := 0) rfl rfl) rfl hl.1 rfl (Nat.le_of_ble_eq_true rfl) dX4_haveLikeRows_12 ⟨Nat.zero_le _, Nat.zero_le _⟩ (fun r_3 hw => ?_)
  refine lv_imul hx hb dX4_haveLikeRows_15 ?_
  refine lv_icmp_eq (tgt := 21) hx hb dX4_haveLikeRows_16 (by decide) (fun c_4 => ?_) (fun c_4 => ?_)
  · have hw := hw.1 c_4
    refine lv_aload_n hx hb dX4_haveLikeRows_21 rfl (lv_at hl 1 rfl) ?_
    refine lv_iload_n hx hb dX4_haveLikeRows_22 rfl (lv_at hl 2 rfl) ?_
    refine z_ri [.int p1] [] ⟨hx, hb, hml, hown, hts⟩ (kX4_openOf l D cA a0 a_row a_weights a_carried a_row_gains a_row_lows a_row_highs f_row_low f_row_high f_row_places f_row_gains f_row_lows f_row_highs f_weights f_carried p1 _ hw) (cwV 1 hts gX4_haveLikeRows_X4_openOf rfl rfl rfl vX4_openOf ⟨Nat.le_of_ble_eq_true rfl, Nat.le_of_ble_eq_true rfl⟩) hK (hP.sub [0, 1, 2, 3, 4, 5, 6] rfl) (va_recv hK.1 (hP.sub (ws' := [(a0, .inr (3, [.ref a_row, .ref a_weights, .ref a_carried]))]) [0] rfl) (ci := 3) (q0 := 0) rfl rfl) rfl hl.1 rfl (Nat.le_of_ble_eq_true rfl) dX4_haveLikeRows_23 ⟨Nat.zero_le _, Nat.zero_le _⟩ (fun r_5 hw => ?_)
    refine lv_istore (lv' := [(4, .int r_5), (3, .int x_2), (0, .ref a0), (1, .int p1), (2, .int p2)]) hx hb dX4_haveLikeRows_26 hl (by decide) rfl (fun ls hl => ?_)
    refine lv_aload_n hx hb dX4_haveLikeRows_28 rfl (lv_at hl 2 rfl) ?_
    refine lv_iload_n hx hb dX4_haveLikeRows_29 rfl (lv_at hl 4 rfl) ?_
    refine z_ri [.int p2] [] ⟨hx, hb, hml, hown, hts⟩ (kX4_openOf l D cA a0 a_row a_weights a_carried a_row_gains a_row_lows a_row_highs f_row_low f_row_high f_row_places f_row_gains f_row_lows f_row_highs f_weights f_carried p2 _ hw) (cwV 1 hts gX4_haveLikeRows_X4_openOf rfl rfl rfl vX4_openOf ⟨Nat.le_of_ble_eq_true rfl, Nat.le_of_ble_eq_true rfl⟩) hK (hP.sub [0, 1, 2, 3, 4, 5, 6] rfl) (va_recv hK.1 (hP.sub (ws' := [(a0, .inr (3, [.ref a_row, .ref a_weights, .ref a_carried]))]) [0] rfl) (ci := 3) (q0 := 0) rfl rfl) rfl hl.1 rfl (Nat.le_of_ble_eq_true rfl) dX4_haveLikeRows_30 ⟨Nat.zero_le _, Nat.zero_le _⟩ (fun r_6 hw => ?_)
    refine lv_istore (lv' := [(5, .int r_6), (4, .int r_5), (3, .int x_2), (0, .ref a0), (1, .int p1), (2, .int p2)]) hx hb dX4_haveLikeRows_33 hl (by decide) rfl (fun ls hl => ?_)
    refine lv_aload_n hx hb dX4_haveLikeRows_35 rfl (lv_at hl 3 rfl) ?_
    refine va_get (D := D) (ci := 3) (v := .ref a_row) (C := RX4) (T := TX4) (N := 3) hx hb hts iwX4 hown hK.1 hP 0 rfl rfl 0 (by decide) kf12 (fun _ h9 => h9) rfl dX4_haveLikeRows_36 ?_
    refine lv_iload hx hb dX4_haveLikeRows_39 (lv_at hl 1 rfl) ?_
    refine lv_iload_n hx hb dX4_haveLikeRows_41 rfl (lv_at hl 2 rfl) ?_
    refine z_rl [.int r_5, .int x_2] [] ⟨hx, hb, hml, hown, hts⟩ (kX1_takenLow l D cA a_row a_row_gains a_row_lows a_row_highs f_row_low f_row_high f_row_places f_row_gains f_row_lows f_row_highs r_5 x_2 _ hw) (cwV 2 hts gX4_haveLikeRows_X1_takenLow rfl rfl rfl vX1_takenLow ⟨Nat.le_of_ble_eq_true rfl, Nat.le_of_ble_eq_true rfl⟩) hK (hP.sub [1, 2, 3, 4] rfl) (va_recv hK.1 (hP.sub (ws' := [(a_row, .inr (0, [.long f_row_low, .long f_row_high, .int f_row_places, .ref a_row_gains, .ref a_row_lows, .ref a_row_highs]))]) [1] rfl) (ci := 0) (q0 := 0) rfl rfl) rfl hl.1 rfl (Nat.le_of_ble_eq_true rfl) dX4_haveLikeRows_42 ⟨Nat.zero_le _, Nat.zero_le _⟩ (fun r_7 hw => ?_)
    refine lv_aload_n hx hb dX4_haveLikeRows_45 rfl (lv_at hl 3 rfl) ?_
    refine va_get (D := D) (ci := 3) (v := .ref a_row) (C := RX4) (T := TX4) (N := 3) hx hb hts iwX4 hown hK.1 hP 0 rfl rfl 0 (by decide) kf12 (fun _ h9 => h9) rfl dX4_haveLikeRows_46 ?_
    refine lv_iload hx hb dX4_haveLikeRows_49 (lv_at hl 0 rfl) ?_
    refine lv_iload_n hx hb dX4_haveLikeRows_51 rfl (lv_at hl 2 rfl) ?_
    refine z_rl [.int r_6, .int x_2] [.long r_7] ⟨hx, hb, hml, hown, hts⟩ (kX1_takenLow l D cA a_row a_row_gains a_row_lows a_row_highs f_row_low f_row_high f_row_places f_row_gains f_row_lows f_row_highs r_6 x_2 _ hw) (cwV 2 hts gX4_haveLikeRows_X1_takenLow rfl rfl rfl vX1_takenLow ⟨Nat.le_of_ble_eq_true rfl, Nat.le_of_ble_eq_true rfl⟩) hK (hP.sub [1, 2, 3, 4] rfl) (va_recv hK.1 (hP.sub (ws' := [(a_row, .inr (0, [.long f_row_low, .long f_row_high, .int f_row_places, .ref a_row_gains, .ref a_row_lows, .ref a_row_highs]))]) [1] rfl) (ci := 0) (q0 := 0) rfl rfl) rfl hl.1 rfl (Nat.le_of_ble_eq_true rfl) dX4_haveLikeRows_52 ⟨Nat.zero_le _, Nat.zero_le _⟩ (fun r_8 hw => ?_)
    refine W.lcmp hx hb dX4_haveLikeRows_55 ?_
    refine lv_if_ne (tgt := 87) hx hb dX4_haveLikeRows_56 (by decide) (fun c_9 => ?_) (fun c_9 => ?_)
    · have hw := hw.1 c_9
      refine lv_iconst (v := 0) hx hb dX4_haveLikeRows_87 (by decide) ?_
      exact z_zret hx hb hr hlk rfl hw dX4_haveLikeRows_88
    · have hw := hw.2 c_9
      refine lv_aload_n hx hb dX4_haveLikeRows_59 rfl (lv_at hl 3 rfl) ?_
      refine va_get (D := D) (ci := 3) (v := .ref a_row) (C := RX4) (T := TX4) (N := 3) hx hb hts iwX4 hown hK.1 hP 0 rfl rfl 0 (by decide) kf12 (fun _ h9 => h9) rfl dX4_haveLikeRows_60 ?_
      refine lv_iload hx hb dX4_haveLikeRows_63 (lv_at hl 1 rfl) ?_
      refine lv_iload_n hx hb dX4_haveLikeRows_65 rfl (lv_at hl 2 rfl) ?_
      refine z_rl [.int r_5, .int x_2] [] ⟨hx, hb, hml, hown, hts⟩ (kX1_takenHigh l D cA a_row a_row_gains a_row_lows a_row_highs f_row_low f_row_high f_row_places f_row_gains f_row_lows f_row_highs r_5 x_2 _ hw) (cwV 2 hts gX4_haveLikeRows_X1_takenHigh rfl rfl rfl vX1_takenHigh ⟨Nat.le_of_ble_eq_true rfl, Nat.le_of_ble_eq_true rfl⟩) hK (hP.sub [1, 2, 3, 4] rfl) (va_recv hK.1 (hP.sub (ws' := [(a_row, .inr (0, [.long f_row_low, .long f_row_high, .int f_row_places, .ref a_row_gains, .ref a_row_lows, .ref a_row_highs]))]) [1] rfl) (ci := 0) (q0 := 0) rfl rfl) rfl hl.1 rfl (Nat.le_of_ble_eq_true rfl) dX4_haveLikeRows_66 ⟨Nat.zero_le _, Nat.zero_le _⟩ (fun r_10 hw => ?_)
      refine lv_aload_n hx hb dX4_haveLikeRows_69 rfl (lv_at hl 3 rfl) ?_
      refine va_get (D := D) (ci := 3) (v := .ref a_row) (C := RX4) (T := TX4) (N := 3) hx hb hts iwX4 hown hK.1 hP 0 rfl rfl 0 (by decide) kf12 (fun _ h9 => h9) rfl dX4_haveLikeRows_70 ?_
      refine lv_iload hx hb dX4_haveLikeRows_73 (lv_at hl 0 rfl) ?_
      refine lv_iload_n hx hb dX4_haveLikeRows_75 rfl (lv_at hl 2 rfl) ?_
      refine z_rl [.int r_6, .int x_2] [.long r_10] ⟨hx, hb, hml, hown, hts⟩ (kX1_takenHigh l D cA a_row a_row_gains a_row_lows a_row_highs f_row_low f_row_high f_row_places f_row_gains f_row_lows f_row_highs r_6 x_2 _ hw) (cwV 2 hts gX4_haveLikeRows_X1_takenHigh rfl rfl rfl vX1_takenHigh ⟨Nat.le_of_ble_eq_true rfl, Nat.le_of_ble_eq_true rfl⟩) hK (hP.sub [1, 2, 3, 4] rfl) (va_recv hK.1 (hP.sub (ws' := [(a_row, .inr (0, [.long f_row_low, .long f_row_high, .int f_row_places, .ref a_row_gains, .ref a_row_lows, .ref a_row_highs]))]) [1] rfl) (ci := 0) (q0 := 0) rfl rfl) rfl hl.1 rfl (Nat.le_of_ble_eq_true rfl) dX4_haveLikeRows_76 ⟨Nat.zero_le _, Nat.zero_le _⟩ (fun r_11 hw => ?_)
      refine W.lcmp hx hb dX4_haveLikeRows_79 ?_
      refine lv_if_ne (tgt := 87) hx hb dX4_haveLikeRows_80 (by decide) (fun c_12 => ?_) (fun c_12 => ?_)
      · have hw := hw.1 c_12
        refine lv_iconst (v := 0) hx hb dX4_haveLikeRows_87 (by decide) ?_
        exact z_zret hx hb hr hlk rfl hw dX4_haveLikeRows_88
      · have hw := hw.2 c_12
        refine lv_iconst (v := 1) hx hb dX4_haveLikeRows_83 (by decide) ?_
        refine lv_goto (tgt := 88) hx hb dX4_haveLikeRows_84 (by decide) ?_
        exact z_zret hx hb hr hlk rfl hw dX4_haveLikeRows_88
  · have hw := hw.2 c_4
    refine lv_iconst (v := 0) hx hb dX4_haveLikeRows_19 (by decide) ?_
    exact z_zret hx hb hr hlk rfl hw dX4_haveLikeRows_20
def wX4_meetingOf (f_row_low : Int64) (f_row_high : Int64) (f_row_places : Int32) (f_row_gains : Nat → Int32) (f_row_lows : Nat → Int32) (f_row_highs : Nat → Int32) (p1 : Int32) (p2 : Int32) (post : Int32 → Prop) : Prop := (wX4_openOf f_row_low f_row_high f_row_places (if p2 < p1 then p2 else p1) (fun r_1 : Int32 => ((∀ x_2 : Int32, x_2 = (r_1 + (1 : Int32)) → (wX4_openOf f_row_low f_row_high f_row_places (if p1 < p2 then p2 else p1) (fun r_3 : Int32 => ((∀ x_4 : Int32, x_4 = (r_3 + (1 : Int32)) → (wX1_extremeIn f_row_low f_row_high f_row_gains f_row_lows f_row_highs x_2 x_4 (0 : Int32) (fun r_5 : Int32 => ((∀ x_6 : Int32, x_6 = (r_5 - (1 : Int32)) → (wX1_searchBack f_row_low f_row_high f_row_gains f_row_lows f_row_highs x_2 x_6 (fun r_7 : Int32 => ((wX1_opensAhead f_row_low f_row_high r_7 (fun r_8 : Int32 => (post r_8))))))))))))))))))
abbrev rX4_meetingOf : Room := { frames := 4, cells := 0, slots := 0, locals := 95 }
theorem vX4_meetingOf : yX4_meetingOf.cls = RX4 ∧ yX4_meetingOf.cls ≠ "java/lang/invoke/MethodHandle" ∧ yX4_meetingOf.cls ≠ "java/lang/invoke/VarHandle" ∧ (parseMethodDescriptor yX4_meetingOf.desc).map (fun d => d.parameters.length) = some 2 := by decide +kernel
set_option maxHeartbeats 4000000 in
set_option maxRecDepth 100000 in
theorem kX4_meetingOf (l : Launch) (D : va_G) (cA : Nat → ClassId) (a0 a_row a_weights a_carried a_row_gains a_row_lows a_row_highs : Nat) (f_row_low : Int64) (f_row_high : Int64) (f_row_places : Int32) (f_row_gains : Nat → Int32) (f_row_lows : Nat → Int32) (f_row_highs : Nat → Int32) (f_weights : Nat → Int32) (f_carried : Nat → Int32) (p1 : Int32) (p2 : Int32) (post : Int32 → Prop) (h : wX4_meetingOf f_row_low f_row_high f_row_places f_row_gains f_row_lows f_row_highs p1 p2 post) : Met l yX4_meetingOf wsX4_meetingOf rX4_meetingOf (zPr D cA [.ref a0, .int p1, .int p2] [(a0, .inr (3, [.ref a_row, .ref a_weights, .ref a_carried])), (a_row, .inr (0, [.long f_row_low, .long f_row_high, .int f_row_places, .ref a_row_gains, .ref a_row_lows, .ref a_row_highs])), (a_row_gains, .inl (cA 0, 8, .inl f_row_gains)), (a_row_lows, .inl (cA 0, 8, .inl f_row_lows)), (a_row_highs, .inl (cA 0, 8, .inl f_row_highs)), (a_weights, .inl (cA 0, 64, .inl f_weights)), (a_carried, .inl (cA 0, 64, .inl f_carried))]) (vp_Si post) 0 0 (fun _ => False) := by
  refine z_ro (cc := cX4_meetingOf) (maxL := 6) (ret := (some .int)) (by decide) rfl (Nat.le_of_ble_eq_true rfl) ?_
  intro p e s m args below meth c ls hx hb hr hlk hml hown hts hK hP hl
  have hown : s.vm.findClass RX4 = some m.cls := hown
  have hl : lv_has ls 6 [(0, .ref a0), (1, .int p1), (2, .int p2)] := hl
  have hw := h
  unfold wX4_meetingOf at hw
  have mmin1_95 := hts (.methodLink RX4 95 Lib.Math.min.name) (by decide +kernel)
  have mmin2 := hts (.static Lib.Math.min.name) (by decide +kernel)
  have mini := hts (.initialized "java/lang/Math") (by decide +kernel)
  have mmin3 := hts (.code Lib.Math.min.name Lib.Math.min.code 2 (some .int)) (by decide +kernel)
  have mmax1_100 := hts (.methodLink RX4 100 Lib.Math.max.name) (by decide +kernel)
  have mmax2 := hts (.static Lib.Math.max.name) (by decide +kernel)
  have mmax3 := hts (.code Lib.Math.max.name Lib.Math.max.code 2 (some .int)) (by decide +kernel)
  have iwX4 : ∀ w ∈ wsX40, w ∈ wsX4_meetingOf := fun w h9 => List.mem_cons_of_mem _ (List.mem_append_left _ (List.mem_append_right _ h9))
  have kf12 := hts (.fieldLink RX4 12 "ExcessTree$Tree" "row" "LExcessTree$Row;") (by decide +kernel)
  refine lv_aload_n hx hb dX4_meetingOf_0 rfl (lv_at hl 0 rfl) ?_
  refine lv_iload_n hx hb dX4_meetingOf_1 rfl (lv_at hl 1 rfl) ?_
  refine lv_iload_n hx hb dX4_meetingOf_2 rfl (lv_at hl 2 rfl) ?_
  refine va_mmin hx hb (hml.trans hl.1.symm) hown mmin1_95 mmin2 mini mmin3 (Nat.le_of_ble_eq_true rfl) (Nat.le_of_ble_eq_true rfl) (Nat.zero_le _) (Nat.zero_le _) dX4_meetingOf_3 ?_
  refine z_ri [.int (if p2 < p1 then p2 else p1)] [] ⟨hx, hb, hml, hown, hts⟩ (kX4_openOf l D cA a0 a_row a_weights a_carried a_row_gains a_row_lows a_row_highs f_row_low f_row_high f_row_places f_row_gains f_row_lows f_row_highs f_weights f_carried (if p2 < p1 then p2 else p1) _ hw) (cwV 1 hts gX4_meetingOf_X4_openOf rfl rfl rfl vX4_openOf ⟨Nat.le_of_ble_eq_true rfl, Nat.le_of_ble_eq_true rfl⟩) hK (hP.sub [0, 1, 2, 3, 4, 5, 6] rfl) (va_recv hK.1 (hP.sub (ws' := [(a0, .inr (3, [.ref a_row, .ref a_weights, .ref a_carried]))]) [0] rfl) (ci := 3) (q0 := 0) rfl rfl) rfl hl.1 rfl (Nat.le_of_ble_eq_true rfl) dX4_meetingOf_6 ⟨Nat.zero_le _, Nat.zero_le _⟩ (fun r_1 hw => ?_)
  refine lv_iconst (v := 1) hx hb dX4_meetingOf_9 (by decide) ?_
  refine lv_iadd hx hb dX4_meetingOf_10 ?_
  refine lv_topi (fun x_2 ex_2 => ?_)
  have hw := hw x_2 ex_2
  refine lv_istore_n (lv' := [(3, .int x_2), (0, .ref a0), (1, .int p1), (2, .int p2)]) hx hb dX4_meetingOf_11 rfl hl (by decide) rfl (fun ls hl => ?_)
  refine lv_aload_n hx hb dX4_meetingOf_12 rfl (lv_at hl 1 rfl) ?_
  refine lv_iload_n hx hb dX4_meetingOf_13 rfl (lv_at hl 2 rfl) ?_
  refine lv_iload_n hx hb dX4_meetingOf_14 rfl (lv_at hl 3 rfl) ?_
  refine va_mmax hx hb (hml.trans hl.1.symm) hown mmax1_100 mmax2 mini mmax3 (Nat.le_of_ble_eq_true rfl) (Nat.le_of_ble_eq_true rfl) (Nat.zero_le _) (Nat.zero_le _) dX4_meetingOf_15 ?_
  refine z_ri [.int (if p1 < p2 then p2 else p1)] [] ⟨hx, hb, hml, hown, hts⟩ (kX4_openOf l D cA a0 a_row a_weights a_carried a_row_gains a_row_lows a_row_highs f_row_low f_row_high f_row_places f_row_gains f_row_lows f_row_highs f_weights f_carried (if p1 < p2 then p2 else p1) _ hw) (cwV 1 hts gX4_meetingOf_X4_openOf rfl rfl rfl vX4_openOf ⟨Nat.le_of_ble_eq_true rfl, Nat.le_of_ble_eq_true rfl⟩) hK (hP.sub [0, 1, 2, 3, 4, 5, 6] rfl) (va_recv hK.1 (hP.sub (ws' := [(a0, .inr (3, [.ref a_row, .ref a_weights, .ref a_carried]))]) [0] rfl) (ci := 3) (q0 := 0) rfl rfl) rfl hl.1 rfl (Nat.le_of_ble_eq_true rfl) dX4_meetingOf_18 ⟨Nat.zero_le _, Nat.zero_le _⟩ (fun r_3 hw => ?_)
  refine lv_iconst (v := 1) hx hb dX4_meetingOf_21 (by decide) ?_
  refine lv_iadd hx hb dX4_meetingOf_22 ?_
  refine lv_topi (fun x_4 ex_4 => ?_)
  have hw := hw x_4 ex_4
  refine lv_istore (lv' := [(4, .int x_4), (3, .int x_2), (0, .ref a0), (1, .int p1), (2, .int p2)]) hx hb dX4_meetingOf_23 hl (by decide) rfl (fun ls hl => ?_)
  refine lv_aload_n hx hb dX4_meetingOf_25 rfl (lv_at hl 2 rfl) ?_
  refine va_get (D := D) (ci := 3) (v := .ref a_row) (C := RX4) (T := TX4) (N := 3) hx hb hts iwX4 hown hK.1 hP 0 rfl rfl 0 (by decide) kf12 (fun _ h9 => h9) rfl dX4_meetingOf_26 ?_
  refine lv_iload_n hx hb dX4_meetingOf_29 rfl (lv_at hl 1 rfl) ?_
  refine lv_iload hx hb dX4_meetingOf_30 (lv_at hl 0 rfl) ?_
  refine lv_iconst (v := 0) hx hb dX4_meetingOf_32 (by decide) ?_
  refine z_ri [.int x_2, .int x_4, .int (0 : Int32)] [] ⟨hx, hb, hml, hown, hts⟩ (kX1_extremeIn l D cA a_row a_row_gains a_row_lows a_row_highs f_row_low f_row_high f_row_places f_row_gains f_row_lows f_row_highs x_2 x_4 (0 : Int32) _ hw) (cwV 3 hts gX4_meetingOf_X1_extremeIn rfl rfl rfl vX1_extremeIn ⟨Nat.le_of_ble_eq_true rfl, Nat.le_of_ble_eq_true rfl⟩) hK (hP.sub [1, 2, 3, 4] rfl) (va_recv hK.1 (hP.sub (ws' := [(a_row, .inr (0, [.long f_row_low, .long f_row_high, .int f_row_places, .ref a_row_gains, .ref a_row_lows, .ref a_row_highs]))]) [1] rfl) (ci := 0) (q0 := 0) rfl rfl) rfl hl.1 rfl (Nat.le_of_ble_eq_true rfl) dX4_meetingOf_33 ⟨Nat.zero_le _, Nat.zero_le _⟩ (fun r_5 hw => ?_)
  refine lv_iconst (v := 1) hx hb dX4_meetingOf_36 (by decide) ?_
  refine lv_isub hx hb dX4_meetingOf_37 ?_
  refine lv_topi (fun x_6 ex_6 => ?_)
  have hw := hw x_6 ex_6
  refine lv_istore (lv' := [(5, .int x_6), (4, .int x_4), (3, .int x_2), (0, .ref a0), (1, .int p1), (2, .int p2)]) hx hb dX4_meetingOf_38 hl (by decide) rfl (fun ls hl => ?_)
  refine lv_aload_n hx hb dX4_meetingOf_40 rfl (lv_at hl 3 rfl) ?_
  refine va_get (D := D) (ci := 3) (v := .ref a_row) (C := RX4) (T := TX4) (N := 3) hx hb hts iwX4 hown hK.1 hP 0 rfl rfl 0 (by decide) kf12 (fun _ h9 => h9) rfl dX4_meetingOf_41 ?_
  refine lv_aload_n hx hb dX4_meetingOf_44 rfl (lv_at hl 3 rfl) ?_
  refine va_get (D := D) (ci := 3) (v := .ref a_row) (C := RX4) (T := TX4) (N := 3) hx hb hts iwX4 hown hK.1 hP 0 rfl rfl 0 (by decide) kf12 (fun _ h9 => h9) rfl dX4_meetingOf_45 ?_
  refine lv_iload_n hx hb dX4_meetingOf_48 rfl (lv_at hl 2 rfl) ?_
  refine lv_iload hx hb dX4_meetingOf_49 (lv_at hl 0 rfl) ?_
  refine z_ri [.int x_2, .int x_6] [.ref a_row] ⟨hx, hb, hml, hown, hts⟩ (kX1_searchBack l D cA a_row a_row_gains a_row_lows a_row_highs f_row_low f_row_high f_row_places f_row_gains f_row_lows f_row_highs x_2 x_6 _ hw) (cwV 2 hts gX4_meetingOf_X1_searchBack rfl rfl rfl vX1_searchBack ⟨Nat.le_of_ble_eq_true rfl, Nat.le_of_ble_eq_true rfl⟩) hK (hP.sub [1, 2, 3, 4] rfl) (va_recv hK.1 (hP.sub (ws' := [(a_row, .inr (0, [.long f_row_low, .long f_row_high, .int f_row_places, .ref a_row_gains, .ref a_row_lows, .ref a_row_highs]))]) [1] rfl) (ci := 0) (q0 := 0) rfl rfl) rfl hl.1 rfl (Nat.le_of_ble_eq_true rfl) dX4_meetingOf_51 ⟨Nat.zero_le _, Nat.zero_le _⟩ (fun r_7 hw => ?_)
  refine z_ri [.int r_7] [] ⟨hx, hb, hml, hown, hts⟩ (kX1_opensAhead l D cA a_row a_row_gains a_row_lows a_row_highs f_row_low f_row_high f_row_places f_row_gains f_row_lows f_row_highs r_7 _ hw) (cwV 1 hts gX4_meetingOf_X1_opensAhead rfl rfl rfl vX1_opensAhead ⟨Nat.le_of_ble_eq_true rfl, Nat.le_of_ble_eq_true rfl⟩) hK (hP.sub [1, 2, 3, 4] rfl) (va_recv hK.1 (hP.sub (ws' := [(a_row, .inr (0, [.long f_row_low, .long f_row_high, .int f_row_places, .ref a_row_gains, .ref a_row_lows, .ref a_row_highs]))]) [1] rfl) (ci := 0) (q0 := 0) rfl rfl) rfl hl.1 rfl (Nat.le_of_ble_eq_true rfl) dX4_meetingOf_54 ⟨Nat.zero_le _, Nat.zero_le _⟩ (fun r_8 hw => ?_)
  exact z_iret hx hb hr hlk hw dX4_meetingOf_57
def wX4_firstOfDepth (f_row_low : Int64) (f_row_high : Int64) (f_row_places : Int32) (f_row_gains : Nat → Int32) (f_row_lows : Nat → Int32) (f_row_highs : Nat → Int32) (p1 : Int32) (p2 : Int32) (post : Int32 → Prop) : Prop := (wX1_searchOn f_row_low f_row_high f_row_places f_row_gains f_row_lows f_row_highs p2 (p1 + (1 : Int32)) (fun r_1 : Int32 => (((¬ r_1 = (-4 : Int32) → (wX1_opensAhead f_row_low f_row_high (r_1 - (1 : Int32)) (fun r_3 : Int32 => (post r_3)))) ∧ (r_1 = (-4 : Int32) → post (-4 : Int32))))))
abbrev rX4_firstOfDepth : Room := { frames := 3, cells := 0, slots := 0, locals := 66 }
theorem vX4_firstOfDepth : yX4_firstOfDepth.cls = RX4 ∧ yX4_firstOfDepth.cls ≠ "java/lang/invoke/MethodHandle" ∧ yX4_firstOfDepth.cls ≠ "java/lang/invoke/VarHandle" ∧ (parseMethodDescriptor yX4_firstOfDepth.desc).map (fun d => d.parameters.length) = some 2 := by decide +kernel
set_option maxHeartbeats 4000000 in
set_option maxRecDepth 100000 in
theorem kX4_firstOfDepth (l : Launch) (D : va_G) (cA : Nat → ClassId) (a0 a_row a_weights a_carried a_row_gains a_row_lows a_row_highs : Nat) (f_row_low : Int64) (f_row_high : Int64) (f_row_places : Int32) (f_row_gains : Nat → Int32) (f_row_lows : Nat → Int32) (f_row_highs : Nat → Int32) (f_weights : Nat → Int32) (f_carried : Nat → Int32) (p1 : Int32) (p2 : Int32) (post : Int32 → Prop) (h : wX4_firstOfDepth f_row_low f_row_high f_row_places f_row_gains f_row_lows f_row_highs p1 p2 post) : Met l yX4_firstOfDepth wsX4_firstOfDepth rX4_firstOfDepth (zPr D cA [.ref a0, .int p1, .int p2] [(a0, .inr (3, [.ref a_row, .ref a_weights, .ref a_carried])), (a_row, .inr (0, [.long f_row_low, .long f_row_high, .int f_row_places, .ref a_row_gains, .ref a_row_lows, .ref a_row_highs])), (a_row_gains, .inl (cA 0, 8, .inl f_row_gains)), (a_row_lows, .inl (cA 0, 8, .inl f_row_lows)), (a_row_highs, .inl (cA 0, 8, .inl f_row_highs)), (a_weights, .inl (cA 0, 64, .inl f_weights)), (a_carried, .inl (cA 0, 64, .inl f_carried))]) (vp_Si post) 0 0 (fun _ => False) := by
  refine z_ro (cc := cX4_firstOfDepth) (maxL := 4) (ret := (some .int)) (by decide) rfl (Nat.le_of_ble_eq_true rfl) ?_
  intro p e s m args below meth c ls hx hb hr hlk hml hown hts hK hP hl
  have hown : s.vm.findClass RX4 = some m.cls := hown
  have hl : lv_has ls 4 [(0, .ref a0), (1, .int p1), (2, .int p2)] := hl
  have hw := h
  unfold wX4_firstOfDepth at hw
  have iwX4 : ∀ w ∈ wsX40, w ∈ wsX4_firstOfDepth := fun w h9 => List.mem_cons_of_mem _ (List.mem_append_left _ (List.mem_append_right _ h9))
  have kf12 := hts (.fieldLink RX4 12 "ExcessTree$Tree" "row" "LExcessTree$Row;") (by decide +kernel)
  refine lv_aload_n hx hb dX4_firstOfDepth_0 rfl (lv_at hl 0 rfl) ?_
  refine va_get (D := D) (ci := 3) (v := .ref a_row) (C := RX4) (T := TX4) (N := 3) hx hb hts iwX4 hown hK.1 hP 0 rfl rfl 0 (by decide) kf12 (fun _ h9 => h9) rfl dX4_firstOfDepth_1 ?_
  refine lv_iload_n hx hb dX4_firstOfDepth_4 rfl (lv_at hl 2 rfl) ?_
  refine lv_iload_n hx hb dX4_firstOfDepth_5 rfl (lv_at hl 1 rfl) ?_
  refine lv_iconst (v := 1) hx hb dX4_firstOfDepth_6 (by decide) ?_
  refine lv_iadd hx hb dX4_firstOfDepth_7 ?_
  refine z_ri [.int p2, .int (p1 + (1 : Int32))] [] ⟨hx, hb, hml, hown, hts⟩ (kX1_searchOn l D cA a_row a_row_gains a_row_lows a_row_highs f_row_low f_row_high f_row_places f_row_gains f_row_lows f_row_highs p2 (p1 + (1 : Int32)) _ hw) (cwV 2 hts gX4_firstOfDepth_X1_searchOn rfl rfl rfl vX1_searchOn ⟨Nat.le_of_ble_eq_true rfl, Nat.le_of_ble_eq_true rfl⟩) hK (hP.sub [1, 2, 3, 4] rfl) (va_recv hK.1 (hP.sub (ws' := [(a_row, .inr (0, [.long f_row_low, .long f_row_high, .int f_row_places, .ref a_row_gains, .ref a_row_lows, .ref a_row_highs]))]) [1] rfl) (ci := 0) (q0 := 0) rfl rfl) rfl hl.1 rfl (Nat.le_of_ble_eq_true rfl) dX4_firstOfDepth_8 ⟨Nat.zero_le _, Nat.zero_le _⟩ (fun r_1 hw => ?_)
  refine lv_istore_n (lv' := [(3, .int r_1), (0, .ref a0), (1, .int p1), (2, .int p2)]) hx hb dX4_firstOfDepth_11 rfl hl (by decide) rfl (fun ls hl => ?_)
  refine lv_iload_n hx hb dX4_firstOfDepth_12 rfl (lv_at hl 0 rfl) ?_
  refine lv_bipush (v := -4) hx hb dX4_firstOfDepth_13 (by decide) ?_
  refine lv_icmp_ne (tgt := 23) hx hb dX4_firstOfDepth_15 (by decide) (fun c_2 => ?_) (fun c_2 => ?_)
  · have hw := hw.1 c_2
    refine lv_aload_n hx hb dX4_firstOfDepth_23 rfl (lv_at hl 1 rfl) ?_
    refine va_get (D := D) (ci := 3) (v := .ref a_row) (C := RX4) (T := TX4) (N := 3) hx hb hts iwX4 hown hK.1 hP 0 rfl rfl 0 (by decide) kf12 (fun _ h9 => h9) rfl dX4_firstOfDepth_24 ?_
    refine lv_iload_n hx hb dX4_firstOfDepth_27 rfl (lv_at hl 0 rfl) ?_
    refine lv_iconst (v := 1) hx hb dX4_firstOfDepth_28 (by decide) ?_
    refine lv_isub hx hb dX4_firstOfDepth_29 ?_
    refine z_ri [.int (r_1 - (1 : Int32))] [] ⟨hx, hb, hml, hown, hts⟩ (kX1_opensAhead l D cA a_row a_row_gains a_row_lows a_row_highs f_row_low f_row_high f_row_places f_row_gains f_row_lows f_row_highs (r_1 - (1 : Int32)) _ hw) (cwV 1 hts gX4_firstOfDepth_X1_opensAhead rfl rfl rfl vX1_opensAhead ⟨Nat.le_of_ble_eq_true rfl, Nat.le_of_ble_eq_true rfl⟩) hK (hP.sub [1, 2, 3, 4] rfl) (va_recv hK.1 (hP.sub (ws' := [(a_row, .inr (0, [.long f_row_low, .long f_row_high, .int f_row_places, .ref a_row_gains, .ref a_row_lows, .ref a_row_highs]))]) [1] rfl) (ci := 0) (q0 := 0) rfl rfl) rfl hl.1 rfl (Nat.le_of_ble_eq_true rfl) dX4_firstOfDepth_30 ⟨Nat.zero_le _, Nat.zero_le _⟩ (fun r_3 hw => ?_)
    exact z_iret hx hb hr hlk hw dX4_firstOfDepth_33
  · have hw := hw.2 c_2
    refine lv_bipush (v := -4) hx hb dX4_firstOfDepth_18 (by decide) ?_
    refine lv_goto (tgt := 33) hx hb dX4_firstOfDepth_20 (by decide) ?_
    exact z_iret hx hb hr hlk hw dX4_firstOfDepth_33
def wX4_lastOfDepth (f_row_low : Int64) (f_row_high : Int64) (f_row_places : Int32) (f_row_gains : Nat → Int32) (f_row_lows : Nat → Int32) (f_row_highs : Nat → Int32) (p1 : Int32) (p2 : Int32) (post : Int32 → Prop) : Prop := (wX1_searchBack f_row_low f_row_high f_row_gains f_row_lows f_row_highs p2 (p1 + (1 : Int32)) (fun r_1 : Int32 => (((¬ r_1 = (-4 : Int32) → (wX4_nodeWithPlace f_row_low f_row_high f_row_places f_row_gains f_row_lows f_row_highs r_1 (fun r_3 : Int32 => (post r_3)))) ∧ (r_1 = (-4 : Int32) → post (-4 : Int32))))))
abbrev rX4_lastOfDepth : Room := { frames := 5, cells := 0, slots := 0, locals := 108 }
theorem vX4_lastOfDepth : yX4_lastOfDepth.cls = RX4 ∧ yX4_lastOfDepth.cls ≠ "java/lang/invoke/MethodHandle" ∧ yX4_lastOfDepth.cls ≠ "java/lang/invoke/VarHandle" ∧ (parseMethodDescriptor yX4_lastOfDepth.desc).map (fun d => d.parameters.length) = some 2 := by decide +kernel
set_option maxHeartbeats 4000000 in
set_option maxRecDepth 100000 in
theorem kX4_lastOfDepth (l : Launch) (D : va_G) (cA : Nat → ClassId) (a0 a_row a_weights a_carried a_row_gains a_row_lows a_row_highs : Nat) (f_row_low : Int64) (f_row_high : Int64) (f_row_places : Int32) (f_row_gains : Nat → Int32) (f_row_lows : Nat → Int32) (f_row_highs : Nat → Int32) (f_weights : Nat → Int32) (f_carried : Nat → Int32) (p1 : Int32) (p2 : Int32) (post : Int32 → Prop) (h : wX4_lastOfDepth f_row_low f_row_high f_row_places f_row_gains f_row_lows f_row_highs p1 p2 post) : Met l yX4_lastOfDepth wsX4_lastOfDepth rX4_lastOfDepth (zPr D cA [.ref a0, .int p1, .int p2] [(a0, .inr (3, [.ref a_row, .ref a_weights, .ref a_carried])), (a_row, .inr (0, [.long f_row_low, .long f_row_high, .int f_row_places, .ref a_row_gains, .ref a_row_lows, .ref a_row_highs])), (a_row_gains, .inl (cA 0, 8, .inl f_row_gains)), (a_row_lows, .inl (cA 0, 8, .inl f_row_lows)), (a_row_highs, .inl (cA 0, 8, .inl f_row_highs)), (a_weights, .inl (cA 0, 64, .inl f_weights)), (a_carried, .inl (cA 0, 64, .inl f_carried))]) (vp_Si post) 0 0 (fun _ => False) := by
  refine z_ro (cc := cX4_lastOfDepth) (maxL := 4) (ret := (some .int)) (by decide) rfl (Nat.le_of_ble_eq_true rfl) ?_
  intro p e s m args below meth c ls hx hb hr hlk hml hown hts hK hP hl
  have hown : s.vm.findClass RX4 = some m.cls := hown
  have hl : lv_has ls 4 [(0, .ref a0), (1, .int p1), (2, .int p2)] := hl
  have hw := h
  unfold wX4_lastOfDepth at hw
  have iwX4 : ∀ w ∈ wsX40, w ∈ wsX4_lastOfDepth := fun w h9 => List.mem_cons_of_mem _ (List.mem_append_left _ (List.mem_append_right _ h9))
  have kf12 := hts (.fieldLink RX4 12 "ExcessTree$Tree" "row" "LExcessTree$Row;") (by decide +kernel)
  refine lv_aload_n hx hb dX4_lastOfDepth_0 rfl (lv_at hl 0 rfl) ?_
  refine va_get (D := D) (ci := 3) (v := .ref a_row) (C := RX4) (T := TX4) (N := 3) hx hb hts iwX4 hown hK.1 hP 0 rfl rfl 0 (by decide) kf12 (fun _ h9 => h9) rfl dX4_lastOfDepth_1 ?_
  refine lv_iload_n hx hb dX4_lastOfDepth_4 rfl (lv_at hl 2 rfl) ?_
  refine lv_iload_n hx hb dX4_lastOfDepth_5 rfl (lv_at hl 1 rfl) ?_
  refine lv_iconst (v := 1) hx hb dX4_lastOfDepth_6 (by decide) ?_
  refine lv_iadd hx hb dX4_lastOfDepth_7 ?_
  refine z_ri [.int p2, .int (p1 + (1 : Int32))] [] ⟨hx, hb, hml, hown, hts⟩ (kX1_searchBack l D cA a_row a_row_gains a_row_lows a_row_highs f_row_low f_row_high f_row_places f_row_gains f_row_lows f_row_highs p2 (p1 + (1 : Int32)) _ hw) (cwV 2 hts gX4_lastOfDepth_X1_searchBack rfl rfl rfl vX1_searchBack ⟨Nat.le_of_ble_eq_true rfl, Nat.le_of_ble_eq_true rfl⟩) hK (hP.sub [1, 2, 3, 4] rfl) (va_recv hK.1 (hP.sub (ws' := [(a_row, .inr (0, [.long f_row_low, .long f_row_high, .int f_row_places, .ref a_row_gains, .ref a_row_lows, .ref a_row_highs]))]) [1] rfl) (ci := 0) (q0 := 0) rfl rfl) rfl hl.1 rfl (Nat.le_of_ble_eq_true rfl) dX4_lastOfDepth_8 ⟨Nat.zero_le _, Nat.zero_le _⟩ (fun r_1 hw => ?_)
  refine lv_istore_n (lv' := [(3, .int r_1), (0, .ref a0), (1, .int p1), (2, .int p2)]) hx hb dX4_lastOfDepth_11 rfl hl (by decide) rfl (fun ls hl => ?_)
  refine lv_iload_n hx hb dX4_lastOfDepth_12 rfl (lv_at hl 0 rfl) ?_
  refine lv_bipush (v := -4) hx hb dX4_lastOfDepth_13 (by decide) ?_
  refine lv_icmp_ne (tgt := 23) hx hb dX4_lastOfDepth_15 (by decide) (fun c_2 => ?_) (fun c_2 => ?_)
  · have hw := hw.1 c_2
    refine lv_aload_n hx hb dX4_lastOfDepth_23 rfl (lv_at hl 1 rfl) ?_
    refine lv_iload_n hx hb dX4_lastOfDepth_24 rfl (lv_at hl 0 rfl) ?_
    refine z_ri [.int r_1] [] ⟨hx, hb, hml, hown, hts⟩ (kX4_nodeWithPlace l D cA a0 a_row a_weights a_carried a_row_gains a_row_lows a_row_highs f_row_low f_row_high f_row_places f_row_gains f_row_lows f_row_highs f_weights f_carried r_1 _ hw) (cwV 1 hts gX4_lastOfDepth_X4_nodeWithPlace rfl rfl rfl vX4_nodeWithPlace ⟨Nat.le_of_ble_eq_true rfl, Nat.le_of_ble_eq_true rfl⟩) hK (hP.sub [0, 1, 2, 3, 4, 5, 6] rfl) (va_recv hK.1 (hP.sub (ws' := [(a0, .inr (3, [.ref a_row, .ref a_weights, .ref a_carried]))]) [0] rfl) (ci := 3) (q0 := 0) rfl rfl) rfl hl.1 rfl (Nat.le_of_ble_eq_true rfl) dX4_lastOfDepth_25 ⟨Nat.zero_le _, Nat.zero_le _⟩ (fun r_3 hw => ?_)
    exact z_iret hx hb hr hlk hw dX4_lastOfDepth_28
  · have hw := hw.2 c_2
    refine lv_bipush (v := -4) hx hb dX4_lastOfDepth_18 (by decide) ?_
    refine lv_goto (tgt := 28) hx hb dX4_lastOfDepth_20 (by decide) ?_
    exact z_iret hx hb hr hlk hw dX4_lastOfDepth_28
def wX4_howManyOfDepth (f_row_low : Int64) (f_row_high : Int64) (f_row_places : Int32) (p1 : Int32) (post : Int32 → Prop) : Prop := (∃ (I_1 : Int32 → Int32 → Int32 → Prop) (mu_1 : Int32 → Int32 → Int32 → Nat), I_1 (0 : Int32) (0 : Int32) (0 : Int32) ∧ ∀ (x_2 : Int32) (x_3 : Int32) (x_4 : Int32), I_1 x_2 x_3 x_4 → ((f_row_places ≤ x_4 → post x_2) ∧ (¬ f_row_places ≤ x_4 → (wX1_stepAt f_row_low f_row_high x_4 (fun r_6 : Int32 => (((¬ r_6 = (1 : Int32) → (∀ x_8 : Int32, x_8 = (x_3 + r_6) → (∀ x_9 : Int32, x_9 = x_4 + (1) → (I_1 x_2 x_8 x_9 ∧ mu_1 x_2 x_8 x_9 < mu_1 x_2 x_3 x_4)))) ∧ (r_6 = (1 : Int32) → ((¬ x_3 = p1 → (∀ x_11 : Int32, x_11 = (x_3 + r_6) → (∀ x_12 : Int32, x_12 = x_4 + (1) → (I_1 x_2 x_11 x_12 ∧ mu_1 x_2 x_11 x_12 < mu_1 x_2 x_3 x_4)))) ∧ (x_3 = p1 → (∀ x_13 : Int32, x_13 = x_2 + (1) → (∀ x_14 : Int32, x_14 = (x_3 + r_6) → (∀ x_15 : Int32, x_15 = x_4 + (1) → (I_1 x_13 x_14 x_15 ∧ mu_1 x_13 x_14 x_15 < mu_1 x_2 x_3 x_4))))))))))))))
abbrev rX4_howManyOfDepth : Room := { frames := 1, cells := 0, slots := 0, locals := 21 }
theorem vX4_howManyOfDepth : yX4_howManyOfDepth.cls = RX4 ∧ yX4_howManyOfDepth.cls ≠ "java/lang/invoke/MethodHandle" ∧ yX4_howManyOfDepth.cls ≠ "java/lang/invoke/VarHandle" ∧ (parseMethodDescriptor yX4_howManyOfDepth.desc).map (fun d => d.parameters.length) = some 1 := by decide +kernel
set_option maxHeartbeats 4000000 in
set_option maxRecDepth 100000 in
theorem kX4_howManyOfDepth (l : Launch) (D : va_G) (cA : Nat → ClassId) (a0 a_row a_weights a_carried a_row_gains a_row_lows a_row_highs : Nat) (f_row_low : Int64) (f_row_high : Int64) (f_row_places : Int32) (f_row_gains : Nat → Int32) (f_row_lows : Nat → Int32) (f_row_highs : Nat → Int32) (f_weights : Nat → Int32) (f_carried : Nat → Int32) (p1 : Int32) (post : Int32 → Prop) (h : wX4_howManyOfDepth f_row_low f_row_high f_row_places p1 post) : Met l yX4_howManyOfDepth wsX4_howManyOfDepth rX4_howManyOfDepth (zPr D cA [.ref a0, .int p1] [(a0, .inr (3, [.ref a_row, .ref a_weights, .ref a_carried])), (a_row, .inr (0, [.long f_row_low, .long f_row_high, .int f_row_places, .ref a_row_gains, .ref a_row_lows, .ref a_row_highs])), (a_row_gains, .inl (cA 0, 8, .inl f_row_gains)), (a_row_lows, .inl (cA 0, 8, .inl f_row_lows)), (a_row_highs, .inl (cA 0, 8, .inl f_row_highs)), (a_weights, .inl (cA 0, 64, .inl f_weights)), (a_carried, .inl (cA 0, 64, .inl f_carried))]) (vp_Si post) 0 0 (fun _ => False) := by
  refine z_ro (cc := cX4_howManyOfDepth) (maxL := 6) (ret := (some .int)) (by decide) rfl (Nat.le_of_ble_eq_true rfl) ?_
  intro p e s m args below meth c ls hx hb hr hlk hml hown hts hK hP hl
  have hown : s.vm.findClass RX4 = some m.cls := hown
  have hl : lv_has ls 6 [(0, .ref a0), (1, .int p1)] := hl
  have hw := h
  unfold wX4_howManyOfDepth at hw
  have iwX4 : ∀ w ∈ wsX40, w ∈ wsX4_howManyOfDepth := fun w h9 => List.mem_cons_of_mem _ (List.mem_append_left _ (List.mem_append_right _ h9))
  have kf12 := hts (.fieldLink RX4 12 "ExcessTree$Tree" "row" "LExcessTree$Row;") (by decide +kernel)
  have iwX1 : ∀ w ∈ wsX10, w ∈ wsX4_howManyOfDepth := fun w h9 => List.mem_cons_of_mem _ (List.mem_append_right _ h9)
  have kn25 := hK.nest (A := args) 0 rfl
  refine lv_iconst (v := 0) hx hb dX4_howManyOfDepth_0 (by decide) ?_
  refine lv_istore_n (lv' := [(2, .int (0 : Int32)), (0, .ref a0), (1, .int p1)]) hx hb dX4_howManyOfDepth_1 rfl hl (by decide) rfl (fun ls hl => ?_)
  refine lv_iconst (v := 0) hx hb dX4_howManyOfDepth_2 (by decide) ?_
  refine lv_istore_n (lv' := [(3, .int (0 : Int32)), (2, .int (0 : Int32)), (0, .ref a0), (1, .int p1)]) hx hb dX4_howManyOfDepth_3 rfl hl (by decide) rfl (fun ls hl => ?_)
  refine lv_iconst (v := 0) hx hb dX4_howManyOfDepth_4 (by decide) ?_
  refine lv_istore (lv' := [(4, .int (0 : Int32)), (3, .int (0 : Int32)), (2, .int (0 : Int32)), (0, .ref a0), (1, .int p1)]) hx hb dX4_howManyOfDepth_5 hl (by decide) rfl (fun ls hl => ?_)
  obtain ⟨I_1, mu_1, hI_1, hw⟩ := hw
  have lp_1 : ∀ (nn : Nat) (x_2 : Int32) (x_3 : Int32) (x_4 : Int32) (ls : Array Slot), mu_1 x_2 x_3 x_4 < nn → I_1 x_2 x_3 x_4 → lv_has ls 6 [(0, .ref a0), (1, .int p1), (2, .int x_2), (3, .int x_3), (4, .int x_4)] → W p l e rX4_howManyOfDepth s m args below meth c s.heap [] 0 0 (MQ below (vp_Si post) args s 0 0 (fun _ => False)) (F0 m 7 ls []) := by
    intro nn
    induction nn with
    | zero => exact fun _ _ _ _ h0 => absurd h0 (Nat.not_lt_zero _)
    | succ nn ih_1 =>
      intro x_2 x_3 x_4 ls hmu_1 hI_1 hl
      have hw := hw x_2 x_3 x_4 hI_1
      refine lv_iload hx hb dX4_howManyOfDepth_7 (lv_at hl 4 rfl) ?_
      refine lv_aload_n hx hb dX4_howManyOfDepth_9 rfl (lv_at hl 0 rfl) ?_
      refine va_get (D := D) (ci := 3) (v := .ref a_row) (C := RX4) (T := TX4) (N := 3) hx hb hts iwX4 hown hK.1 hP 0 rfl rfl 0 (by decide) kf12 (fun _ h9 => h9) rfl dX4_howManyOfDepth_10 ?_
      refine va_getN (own := RX4) (index := 25) (ref := "ExcessTree$Row") (host := "ExcessTree") (D := D) (ci := 0) (v := .int f_row_places) (C := RX1) (T := TX1) (N := 6) hx hb hts iwX1 hown hK.1 hP 1 rfl rfl 2 (by decide) kn25 (fun _ h9 => h9) rfl dX4_howManyOfDepth_13 ?_
      refine lv_icmp_ge (tgt := 55) hx hb dX4_howManyOfDepth_16 (by decide) (fun c_5 => ?_) (fun c_5 => ?_)
      · have hw := hw.1 c_5
        refine lv_iload_n hx hb dX4_howManyOfDepth_55 rfl (lv_at hl 2 rfl) ?_
        exact z_iret hx hb hr hlk hw dX4_howManyOfDepth_56
      · have hw := hw.2 c_5
        refine lv_aload_n hx hb dX4_howManyOfDepth_19 rfl (lv_at hl 0 rfl) ?_
        refine va_get (D := D) (ci := 3) (v := .ref a_row) (C := RX4) (T := TX4) (N := 3) hx hb hts iwX4 hown hK.1 hP 0 rfl rfl 0 (by decide) kf12 (fun _ h9 => h9) rfl dX4_howManyOfDepth_20 ?_
        refine lv_iload hx hb dX4_howManyOfDepth_23 (lv_at hl 4 rfl) ?_
        refine z_ri [.int x_4] [] ⟨hx, hb, hml, hown, hts⟩ (kX1_stepAt l D cA a_row a_row_gains a_row_lows a_row_highs f_row_low f_row_high f_row_places f_row_gains f_row_lows f_row_highs x_4 _ hw) (cwV 1 hts gX4_howManyOfDepth_X1_stepAt rfl rfl rfl vX1_stepAt ⟨Nat.le_of_ble_eq_true rfl, Nat.le_of_ble_eq_true rfl⟩) hK (hP.sub [1, 2, 3, 4] rfl) (va_recv hK.1 (hP.sub (ws' := [(a_row, .inr (0, [.long f_row_low, .long f_row_high, .int f_row_places, .ref a_row_gains, .ref a_row_lows, .ref a_row_highs]))]) [1] rfl) (ci := 0) (q0 := 0) rfl rfl) rfl hl.1 rfl (Nat.le_of_ble_eq_true rfl) dX4_howManyOfDepth_25 ⟨Nat.zero_le _, Nat.zero_le _⟩ (fun r_6 hw => ?_)
        refine lv_istore (lv' := [(5, .int r_6), (0, .ref a0), (1, .int p1), (2, .int x_2), (3, .int x_3), (4, .int x_4)]) hx hb dX4_howManyOfDepth_28 hl (by decide) rfl (fun ls hl => ?_)
        refine lv_iload hx hb dX4_howManyOfDepth_30 (lv_at hl 0 rfl) ?_
        refine lv_iconst (v := 1) hx hb dX4_howManyOfDepth_32 (by decide) ?_
        refine lv_icmp_ne (tgt := 44) hx hb dX4_howManyOfDepth_33 (by decide) (fun c_7 => ?_) (fun c_7 => ?_)
        · have hw := hw.1 c_7
          refine lv_iload_n hx hb dX4_howManyOfDepth_44 rfl (lv_at hl 4 rfl) ?_
          refine lv_iload hx hb dX4_howManyOfDepth_45 (lv_at hl 0 rfl) ?_
          refine lv_iadd hx hb dX4_howManyOfDepth_47 ?_
          refine lv_topi (fun x_8 ex_8 => ?_)
          have hw := hw x_8 ex_8
          refine lv_istore_n (lv' := [(3, .int x_8), (5, .int r_6), (0, .ref a0), (1, .int p1), (2, .int x_2), (4, .int x_4)]) hx hb dX4_howManyOfDepth_48 rfl hl (by decide) rfl (fun ls hl => ?_)
          obtain ⟨x_9, ex_9⟩ : ∃ y : Int32, y = x_4 + (1) := ⟨_, rfl⟩
          have hw := hw x_9 ex_9
          refine lv_iinc (v := x_9) (lv' := [(4, .int x_9), (3, .int x_8), (5, .int r_6), (0, .ref a0), (1, .int p1), (2, .int x_2)]) hx hb dX4_howManyOfDepth_49 hl (k := 5) rfl (by rw [ex_9]; rfl) (by decide) rfl (fun ls hl => ?_)
          refine lv_goto (tgt := 7) hx hb dX4_howManyOfDepth_52 (by decide) ?_
          exact ih_1 x_2 x_8 x_9 ls (Nat.lt_of_lt_of_le hw.2 (Nat.le_of_lt_succ hmu_1)) hw.1 (lv_sub hl [3, 4, 5, 1, 0] rfl)
        · have hw := hw.2 c_7
          refine lv_iload_n hx hb dX4_howManyOfDepth_36 rfl (lv_at hl 4 rfl) ?_
          refine lv_iload_n hx hb dX4_howManyOfDepth_37 rfl (lv_at hl 2 rfl) ?_
          refine lv_icmp_ne (tgt := 44) hx hb dX4_howManyOfDepth_38 (by decide) (fun c_10 => ?_) (fun c_10 => ?_)
          · have hw := hw.1 c_10
            refine lv_iload_n hx hb dX4_howManyOfDepth_44 rfl (lv_at hl 4 rfl) ?_
            refine lv_iload hx hb dX4_howManyOfDepth_45 (lv_at hl 0 rfl) ?_
            refine lv_iadd hx hb dX4_howManyOfDepth_47 ?_
            refine lv_topi (fun x_11 ex_11 => ?_)
            have hw := hw x_11 ex_11
            refine lv_istore_n (lv' := [(3, .int x_11), (5, .int r_6), (0, .ref a0), (1, .int p1), (2, .int x_2), (4, .int x_4)]) hx hb dX4_howManyOfDepth_48 rfl hl (by decide) rfl (fun ls hl => ?_)
            obtain ⟨x_12, ex_12⟩ : ∃ y : Int32, y = x_4 + (1) := ⟨_, rfl⟩
            have hw := hw x_12 ex_12
            refine lv_iinc (v := x_12) (lv' := [(4, .int x_12), (3, .int x_11), (5, .int r_6), (0, .ref a0), (1, .int p1), (2, .int x_2)]) hx hb dX4_howManyOfDepth_49 hl (k := 5) rfl (by rw [ex_12]; rfl) (by decide) rfl (fun ls hl => ?_)
            refine lv_goto (tgt := 7) hx hb dX4_howManyOfDepth_52 (by decide) ?_
            exact ih_1 x_2 x_11 x_12 ls (Nat.lt_of_lt_of_le hw.2 (Nat.le_of_lt_succ hmu_1)) hw.1 (lv_sub hl [3, 4, 5, 1, 0] rfl)
          · have hw := hw.2 c_10
            obtain ⟨x_13, ex_13⟩ : ∃ y : Int32, y = x_2 + (1) := ⟨_, rfl⟩
            have hw := hw x_13 ex_13
            refine lv_iinc (v := x_13) (lv' := [(2, .int x_13), (5, .int r_6), (0, .ref a0), (1, .int p1), (3, .int x_3), (4, .int x_4)]) hx hb dX4_howManyOfDepth_41 hl (k := 3) rfl (by rw [ex_13]; rfl) (by decide) rfl (fun ls hl => ?_)
            refine lv_iload_n hx hb dX4_howManyOfDepth_44 rfl (lv_at hl 4 rfl) ?_
            refine lv_iload hx hb dX4_howManyOfDepth_45 (lv_at hl 1 rfl) ?_
            refine lv_iadd hx hb dX4_howManyOfDepth_47 ?_
            refine lv_topi (fun x_14 ex_14 => ?_)
            have hw := hw x_14 ex_14
            refine lv_istore_n (lv' := [(3, .int x_14), (2, .int x_13), (5, .int r_6), (0, .ref a0), (1, .int p1), (4, .int x_4)]) hx hb dX4_howManyOfDepth_48 rfl hl (by decide) rfl (fun ls hl => ?_)
            obtain ⟨x_15, ex_15⟩ : ∃ y : Int32, y = x_4 + (1) := ⟨_, rfl⟩
            have hw := hw x_15 ex_15
            refine lv_iinc (v := x_15) (lv' := [(4, .int x_15), (3, .int x_14), (2, .int x_13), (5, .int r_6), (0, .ref a0), (1, .int p1)]) hx hb dX4_howManyOfDepth_49 hl (k := 5) rfl (by rw [ex_15]; rfl) (by decide) rfl (fun ls hl => ?_)
            refine lv_goto (tgt := 7) hx hb dX4_howManyOfDepth_52 (by decide) ?_
            exact ih_1 x_13 x_14 x_15 ls (Nat.lt_of_lt_of_le hw.2 (Nat.le_of_lt_succ hmu_1)) hw.1 (lv_sub hl [4, 5, 2, 1, 0] rfl)
  exact lp_1 (mu_1 (0 : Int32) (0 : Int32) (0 : Int32) + 1) (0 : Int32) (0 : Int32) (0 : Int32) ls (Nat.lt_succ_self _) hI_1 (lv_sub hl [3, 4, 2, 1, 0] rfl)
def wX4_weightBelow (f_row_low : Int64) (f_row_high : Int64) (f_row_places : Int32) (f_row_gains : Nat → Int32) (f_row_lows : Nat → Int32) (f_row_highs : Nat → Int32) (f_weights : Nat → Int32) (p1 : Int32) (post : Int64 → Prop) : Prop := (wX4_nodesOf f_row_low f_row_high f_row_places f_row_gains f_row_lows f_row_highs p1 (fun r_1 : Int32 => ((∀ x_2 : Int32, x_2 = (if (64 : Int32) < (p1 + r_1) then (64 : Int32) else (p1 + r_1)) → (∃ (I_3 : Int64 → Int32 → Prop) (mu_3 : Int64 → Int32 → Nat), I_3 (0 : Int64) p1 ∧ ∀ (x_4 : Int64) (x_5 : Int32), I_3 x_4 x_5 → ((x_2 ≤ x_5 → post x_4) ∧ (¬ x_2 ≤ x_5 → (vp_in x_5 64 ∧ (∀ x_7 : Int64, x_7 = (x_4 + (((f_weights x_5.toNatClampNeg)).toInt64)) → (∀ x_8 : Int32, x_8 = x_5 + (1) → (I_3 x_7 x_8 ∧ mu_3 x_7 x_8 < mu_3 x_4 x_5)))))))))))
abbrev rX4_weightBelow : Room := { frames := 5, cells := 0, slots := 0, locals := 117 }
theorem vX4_weightBelow : yX4_weightBelow.cls = RX4 ∧ yX4_weightBelow.cls ≠ "java/lang/invoke/MethodHandle" ∧ yX4_weightBelow.cls ≠ "java/lang/invoke/VarHandle" ∧ (parseMethodDescriptor yX4_weightBelow.desc).map (fun d => d.parameters.length) = some 1 := by decide +kernel
set_option maxHeartbeats 4000000 in
set_option maxRecDepth 100000 in
theorem kX4_weightBelow (l : Launch) (D : va_G) (cA : Nat → ClassId) (a0 a_row a_weights a_carried a_row_gains a_row_lows a_row_highs : Nat) (f_row_low : Int64) (f_row_high : Int64) (f_row_places : Int32) (f_row_gains : Nat → Int32) (f_row_lows : Nat → Int32) (f_row_highs : Nat → Int32) (f_weights : Nat → Int32) (f_carried : Nat → Int32) (p1 : Int32) (post : Int64 → Prop) (h : wX4_weightBelow f_row_low f_row_high f_row_places f_row_gains f_row_lows f_row_highs f_weights p1 post) : Met l yX4_weightBelow wsX4_weightBelow rX4_weightBelow (zPr D cA [.ref a0, .int p1] [(a0, .inr (3, [.ref a_row, .ref a_weights, .ref a_carried])), (a_row, .inr (0, [.long f_row_low, .long f_row_high, .int f_row_places, .ref a_row_gains, .ref a_row_lows, .ref a_row_highs])), (a_row_gains, .inl (cA 0, 8, .inl f_row_gains)), (a_row_lows, .inl (cA 0, 8, .inl f_row_lows)), (a_row_highs, .inl (cA 0, 8, .inl f_row_highs)), (a_weights, .inl (cA 0, 64, .inl f_weights)), (a_carried, .inl (cA 0, 64, .inl f_carried))]) (vp_Sl post) 0 0 (fun _ => False) := by
  refine z_ro (cc := cX4_weightBelow) (maxL := 6) (ret := (some .long)) (by decide) rfl (Nat.le_of_ble_eq_true rfl) ?_
  intro p e s m args below meth c ls hx hb hr hlk hml hown hts hK hP hl
  have hown : s.vm.findClass RX4 = some m.cls := hown
  have hl : lv_has ls 6 [(0, .ref a0), (1, .int p1)] := hl
  have hw := h
  unfold wX4_weightBelow at hw
  have mmin1_95 := hts (.methodLink RX4 95 Lib.Math.min.name) (by decide +kernel)
  have mmin2 := hts (.static Lib.Math.min.name) (by decide +kernel)
  have mini := hts (.initialized "java/lang/Math") (by decide +kernel)
  have mmin3 := hts (.code Lib.Math.min.name Lib.Math.min.code 2 (some .int)) (by decide +kernel)
  have iwX4 : ∀ w ∈ wsX40, w ∈ wsX4_weightBelow := fun w h9 => List.mem_cons_of_mem _ (List.mem_append_left _ (List.mem_append_right _ h9))
  have kf18 := hts (.fieldLink RX4 18 "ExcessTree$Tree" "weights" "[I") (by decide +kernel)
  refine lv_iload_n hx hb dX4_weightBelow_0 rfl (lv_at hl 1 rfl) ?_
  refine lv_aload_n hx hb dX4_weightBelow_1 rfl (lv_at hl 0 rfl) ?_
  refine lv_iload_n hx hb dX4_weightBelow_2 rfl (lv_at hl 1 rfl) ?_
  refine z_ri [.int p1] [.int p1] ⟨hx, hb, hml, hown, hts⟩ (kX4_nodesOf l D cA a0 a_row a_weights a_carried a_row_gains a_row_lows a_row_highs f_row_low f_row_high f_row_places f_row_gains f_row_lows f_row_highs f_weights f_carried p1 _ hw) (cwV 1 hts gX4_weightBelow_X4_nodesOf rfl rfl rfl vX4_nodesOf ⟨Nat.le_of_ble_eq_true rfl, Nat.le_of_ble_eq_true rfl⟩) hK (hP.sub [0, 1, 2, 3, 4, 5, 6] rfl) (va_recv hK.1 (hP.sub (ws' := [(a0, .inr (3, [.ref a_row, .ref a_weights, .ref a_carried]))]) [0] rfl) (ci := 3) (q0 := 0) rfl rfl) rfl hl.1 rfl (Nat.le_of_ble_eq_true rfl) dX4_weightBelow_3 ⟨Nat.zero_le _, Nat.zero_le _⟩ (fun r_1 hw => ?_)
  refine lv_iadd hx hb dX4_weightBelow_6 ?_
  refine lv_bipush (v := 64) hx hb dX4_weightBelow_7 (by decide) ?_
  refine va_mmin hx hb (hml.trans hl.1.symm) hown mmin1_95 mmin2 mini mmin3 (Nat.le_of_ble_eq_true rfl) (Nat.le_of_ble_eq_true rfl) (Nat.zero_le _) (Nat.zero_le _) dX4_weightBelow_9 ?_
  refine lv_topi (fun x_2 ex_2 => ?_)
  have hw := hw x_2 ex_2
  refine lv_istore_n (lv' := [(2, .int x_2), (0, .ref a0), (1, .int p1)]) hx hb dX4_weightBelow_12 rfl hl (by decide) rfl (fun ls hl => ?_)
  refine lv_lconst (v := 0) hx hb dX4_weightBelow_13 (by decide) ?_
  refine lv_lstore_n (lv' := [(3, .long (0 : Int64)), (2, .int x_2), (0, .ref a0), (1, .int p1)]) hx hb dX4_weightBelow_14 rfl hl (by decide) rfl (fun ls hl => ?_)
  refine lv_iload_n hx hb dX4_weightBelow_15 rfl (lv_at hl 3 rfl) ?_
  refine lv_istore (lv' := [(5, .int p1), (3, .long (0 : Int64)), (2, .int x_2), (0, .ref a0), (1, .int p1)]) hx hb dX4_weightBelow_16 hl (by decide) rfl (fun ls hl => ?_)
  obtain ⟨I_3, mu_3, hI_3, hw⟩ := hw
  have lp_3 : ∀ (nn : Nat) (x_4 : Int64) (x_5 : Int32) (ls : Array Slot), mu_3 x_4 x_5 < nn → I_3 x_4 x_5 → lv_has ls 6 [(0, .ref a0), (2, .int x_2), (3, .long x_4), (5, .int x_5)] → W p l e rX4_weightBelow s m args below meth c s.heap [] 0 0 (MQ below (vp_Sl post) args s 0 0 (fun _ => False)) (F0 m 18 ls []) := by
    intro nn
    induction nn with
    | zero => exact fun _ _ _ h0 => absurd h0 (Nat.not_lt_zero _)
    | succ nn ih_3 =>
      intro x_4 x_5 ls hmu_3 hI_3 hl
      have hw := hw x_4 x_5 hI_3
      refine lv_iload hx hb dX4_weightBelow_18 (lv_at hl 3 rfl) ?_
      refine lv_iload_n hx hb dX4_weightBelow_20 rfl (lv_at hl 1 rfl) ?_
      refine lv_icmp_ge (tgt := 41) hx hb dX4_weightBelow_21 (by decide) (fun c_6 => ?_) (fun c_6 => ?_)
      · have hw := hw.1 c_6
        refine lv_lload_n hx hb dX4_weightBelow_41 rfl (lv_at hl 2 rfl) ?_
        exact z_lret hx hb hr hlk hw dX4_weightBelow_42
      · have hw := hw.2 c_6
        refine lv_lload_n hx hb dX4_weightBelow_24 rfl (lv_at hl 2 rfl) ?_
        refine lv_aload_n hx hb dX4_weightBelow_25 rfl (lv_at hl 0 rfl) ?_
        refine va_get (D := D) (ci := 3) (v := .ref a_weights) (C := RX4) (T := TX4) (N := 3) hx hb hts iwX4 hown hK.1 hP 0 rfl rfl 1 (by decide) kf18 (fun _ h9 => h9) rfl dX4_weightBelow_26 ?_
        refine lv_iload hx hb dX4_weightBelow_29 (lv_at hl 3 rfl) ?_
        have hq := hw.1
        have hw := hw.2
        refine va_iald hx hb hK.1 hP 5 0 rfl rfl hq dX4_weightBelow_31 ?_
        refine lv_i2l (v := (((f_weights x_5.toNatClampNeg)).toInt64)) hx hb dX4_weightBelow_32 rfl ?_
        refine lv_ladd hx hb dX4_weightBelow_33 ?_
        refine lv_topl (fun x_7 ex_7 => ?_)
        have hw := hw x_7 ex_7
        refine lv_lstore_n (lv' := [(3, .long x_7), (0, .ref a0), (2, .int x_2), (5, .int x_5)]) hx hb dX4_weightBelow_34 rfl hl (by decide) rfl (fun ls hl => ?_)
        obtain ⟨x_8, ex_8⟩ : ∃ y : Int32, y = x_5 + (1) := ⟨_, rfl⟩
        have hw := hw x_8 ex_8
        refine lv_iinc (v := x_8) (lv' := [(5, .int x_8), (3, .long x_7), (0, .ref a0), (2, .int x_2)]) hx hb dX4_weightBelow_35 hl (k := 3) rfl (by rw [ex_8]; rfl) (by decide) rfl (fun ls hl => ?_)
        refine lv_goto (tgt := 18) hx hb dX4_weightBelow_38 (by decide) ?_
        exact ih_3 x_7 x_8 ls (Nat.lt_of_lt_of_le hw.2 (Nat.le_of_lt_succ hmu_3)) hw.1 (lv_sub hl [2, 3, 1, 0] rfl)
  exact lp_3 (mu_3 (0 : Int64) p1 + 1) (0 : Int64) p1 ls (Nat.lt_succ_self _) hI_3 (lv_sub hl [3, 2, 1, 0] rfl)
