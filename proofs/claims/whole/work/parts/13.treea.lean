/-! written by wip/whole/gen.py -/
def wX4_nodes (f_row_places : Int32)  (post : Int32 → Prop) : Prop := post (f_row_places / (2 : Int32))
abbrev rX4_nodes : Room := { frames := 0, cells := 0, slots := 0, locals := 0 }
theorem vX4_nodes : yX4_nodes.cls = RX4 ∧ yX4_nodes.cls ≠ "java/lang/invoke/MethodHandle" ∧ yX4_nodes.cls ≠ "java/lang/invoke/VarHandle" ∧ (parseMethodDescriptor yX4_nodes.desc).map (fun d => d.parameters.length) = some 0 := by decide +kernel
set_option maxHeartbeats 4000000 in
set_option maxRecDepth 100000 in
theorem kX4_nodes (l : Launch) (D : va_G) (cA : Nat → ClassId) (a0 a_row a_weights a_carried a_row_gains a_row_lows a_row_highs : Nat) (f_row_low : Int64) (f_row_high : Int64) (f_row_places : Int32) (f_row_gains : Nat → Int32) (f_row_lows : Nat → Int32) (f_row_highs : Nat → Int32) (f_weights : Nat → Int32) (f_carried : Nat → Int32)  (post : Int32 → Prop) (h : wX4_nodes f_row_places post) : Met l yX4_nodes wsX4_nodes rX4_nodes (zPr D cA [.ref a0] [(a0, .inr (3, [.ref a_row, .ref a_weights, .ref a_carried])), (a_row, .inr (0, [.long f_row_low, .long f_row_high, .int f_row_places, .ref a_row_gains, .ref a_row_lows, .ref a_row_highs])), (a_row_gains, .inl (cA 0, 8, .inl f_row_gains)), (a_row_lows, .inl (cA 0, 8, .inl f_row_lows)), (a_row_highs, .inl (cA 0, 8, .inl f_row_highs)), (a_weights, .inl (cA 0, 64, .inl f_weights)), (a_carried, .inl (cA 0, 64, .inl f_carried))]) (vp_Si post) 0 0 (fun _ => False) := by
  refine z_ro (cc := cX4_nodes) (maxL := 1) (ret := (some .int)) (by decide) rfl (Nat.le_of_ble_eq_true rfl) ?_
  intro p e s m args below meth c ls hx hb hr hlk hml hown hts hK hP hl
  have hown : s.vm.findClass RX4 = some m.cls := hown
  have hl : lv_has ls 1 [(0, .ref a0)] := hl
  have hw := h
  unfold wX4_nodes at hw
  have iwX4 : ∀ w ∈ wsX40, w ∈ wsX4_nodes := fun w h9 => List.mem_cons_of_mem _ (List.mem_append_left _ (List.mem_append_right _ h9))
  have kf12 := hts (.fieldLink RX4 12 "ExcessTree$Tree" "row" "LExcessTree$Row;") (by decide +kernel)
  have iwX1 : ∀ w ∈ wsX10, w ∈ wsX4_nodes := fun w h9 => List.mem_cons_of_mem _ (List.mem_append_right _ h9)
  have kn25 := hK.nest (A := args) 0 rfl
  refine lv_aload_n hx hb dX4_nodes_0 rfl (lv_at hl 0 rfl) ?_
  refine va_get (D := D) (ci := 3) (v := .ref a_row) (C := RX4) (T := TX4) (N := 3) hx hb hts iwX4 hown hK.1 hP 0 rfl rfl 0 (by decide) kf12 (fun _ h9 => h9) rfl dX4_nodes_1 ?_
  refine va_getN (own := RX4) (index := 25) (ref := "ExcessTree$Row") (host := "ExcessTree") (D := D) (ci := 0) (v := .int f_row_places) (C := RX1) (T := TX1) (N := 6) hx hb hts iwX1 hown hK.1 hP 1 rfl rfl 2 (by decide) kn25 (fun _ h9 => h9) rfl dX4_nodes_4 ?_
  refine lv_iconst (v := 2) hx hb dX4_nodes_7 (by decide) ?_
  refine lv_idiv hx hb dX4_nodes_8 (by decide) ?_
  exact z_iret hx hb hr hlk hw dX4_nodes_9
def wX4_has (f_row_places : Int32) (p1 : Int32) (post : Int32 → Prop) : Prop := ((p1 < 0 → post (0 : Int32)) ∧ (¬ p1 < 0 → (wX4_nodes f_row_places (fun r_2 : Int32 => (((r_2 ≤ p1 → post (0 : Int32)) ∧ (¬ r_2 ≤ p1 → post (1 : Int32))))))))
abbrev rX4_has : Room := { frames := 1, cells := 0, slots := 0, locals := 20 }
theorem vX4_has : yX4_has.cls = RX4 ∧ yX4_has.cls ≠ "java/lang/invoke/MethodHandle" ∧ yX4_has.cls ≠ "java/lang/invoke/VarHandle" ∧ (parseMethodDescriptor yX4_has.desc).map (fun d => d.parameters.length) = some 1 := by decide +kernel
set_option maxHeartbeats 4000000 in
set_option maxRecDepth 100000 in
theorem kX4_has (l : Launch) (D : va_G) (cA : Nat → ClassId) (a0 a_row a_weights a_carried a_row_gains a_row_lows a_row_highs : Nat) (f_row_low : Int64) (f_row_high : Int64) (f_row_places : Int32) (f_row_gains : Nat → Int32) (f_row_lows : Nat → Int32) (f_row_highs : Nat → Int32) (f_weights : Nat → Int32) (f_carried : Nat → Int32) (p1 : Int32) (post : Int32 → Prop) (h : wX4_has f_row_places p1 post) : Met l yX4_has wsX4_has rX4_has (zPr D cA [.ref a0, .int p1] [(a0, .inr (3, [.ref a_row, .ref a_weights, .ref a_carried])), (a_row, .inr (0, [.long f_row_low, .long f_row_high, .int f_row_places, .ref a_row_gains, .ref a_row_lows, .ref a_row_highs])), (a_row_gains, .inl (cA 0, 8, .inl f_row_gains)), (a_row_lows, .inl (cA 0, 8, .inl f_row_lows)), (a_row_highs, .inl (cA 0, 8, .inl f_row_highs)), (a_weights, .inl (cA 0, 64, .inl f_weights)), (a_carried, .inl (cA 0, 64, .inl f_carried))]) (vp_Si post) 0 0 (fun _ => False) := by
  refine z_ro (cc := cX4_has) (maxL := 2) (ret := (some .boolean)) (by decide) rfl (Nat.le_of_ble_eq_true rfl) ?_
  intro p e s m args below meth c ls hx hb hr hlk hml hown hts hK hP hl
  have hown : s.vm.findClass RX4 = some m.cls := hown
  have hl : lv_has ls 2 [(0, .ref a0), (1, .int p1)] := hl
  have hw := h
  unfold wX4_has at hw
  refine lv_iload_n hx hb dX4_has_0 rfl (lv_at hl 1 rfl) ?_
  refine lv_if_lt (tgt := 16) hx hb dX4_has_1 (by decide) (fun c_1 => ?_) (fun c_1 => ?_)
  · have hw := hw.1 c_1
    refine lv_iconst (v := 0) hx hb dX4_has_16 (by decide) ?_
    exact z_zret hx hb hr hlk rfl hw dX4_has_17
  · have hw := hw.2 c_1
    refine lv_iload_n hx hb dX4_has_4 rfl (lv_at hl 1 rfl) ?_
    refine lv_aload_n hx hb dX4_has_5 rfl (lv_at hl 0 rfl) ?_
    refine z_ri [] [.int p1] ⟨hx, hb, hml, hown, hts⟩ (kX4_nodes l D cA a0 a_row a_weights a_carried a_row_gains a_row_lows a_row_highs f_row_low f_row_high f_row_places f_row_gains f_row_lows f_row_highs f_weights f_carried _ hw) (cwV 0 hts gX4_has_X4_nodes rfl rfl rfl vX4_nodes ⟨Nat.le_of_ble_eq_true rfl, Nat.le_of_ble_eq_true rfl⟩) hK (hP.sub [0, 1, 2, 3, 4, 5, 6] rfl) (va_recv hK.1 (hP.sub (ws' := [(a0, .inr (3, [.ref a_row, .ref a_weights, .ref a_carried]))]) [0] rfl) (ci := 3) (q0 := 0) rfl rfl) rfl hl.1 rfl (Nat.le_of_ble_eq_true rfl) dX4_has_6 ⟨Nat.zero_le _, Nat.zero_le _⟩ (fun r_2 hw => ?_)
    refine lv_icmp_ge (tgt := 16) hx hb dX4_has_9 (by decide) (fun c_3 => ?_) (fun c_3 => ?_)
    · have hw := hw.1 c_3
      refine lv_iconst (v := 0) hx hb dX4_has_16 (by decide) ?_
      exact z_zret hx hb hr hlk rfl hw dX4_has_17
    · have hw := hw.2 c_3
      refine lv_iconst (v := 1) hx hb dX4_has_12 (by decide) ?_
      refine lv_goto (tgt := 17) hx hb dX4_has_13 (by decide) ?_
      exact z_zret hx hb hr hlk rfl hw dX4_has_17
def wX4_openOf (f_row_low : Int64) (f_row_high : Int64) (f_row_places : Int32) (p1 : Int32) (post : Int32 → Prop) : Prop := (wX1_placeOfSign f_row_low f_row_high f_row_places p1 (0 : Int32) (fun r_1 : Int32 => (post r_1)))
abbrev rX4_openOf : Room := { frames := 3, cells := 0, slots := 0, locals := 74 }
theorem vX4_openOf : yX4_openOf.cls = RX4 ∧ yX4_openOf.cls ≠ "java/lang/invoke/MethodHandle" ∧ yX4_openOf.cls ≠ "java/lang/invoke/VarHandle" ∧ (parseMethodDescriptor yX4_openOf.desc).map (fun d => d.parameters.length) = some 1 := by decide +kernel
set_option maxHeartbeats 4000000 in
set_option maxRecDepth 100000 in
theorem kX4_openOf (l : Launch) (D : va_G) (cA : Nat → ClassId) (a0 a_row a_weights a_carried a_row_gains a_row_lows a_row_highs : Nat) (f_row_low : Int64) (f_row_high : Int64) (f_row_places : Int32) (f_row_gains : Nat → Int32) (f_row_lows : Nat → Int32) (f_row_highs : Nat → Int32) (f_weights : Nat → Int32) (f_carried : Nat → Int32) (p1 : Int32) (post : Int32 → Prop) (h : wX4_openOf f_row_low f_row_high f_row_places p1 post) : Met l yX4_openOf wsX4_openOf rX4_openOf (zPr D cA [.ref a0, .int p1] [(a0, .inr (3, [.ref a_row, .ref a_weights, .ref a_carried])), (a_row, .inr (0, [.long f_row_low, .long f_row_high, .int f_row_places, .ref a_row_gains, .ref a_row_lows, .ref a_row_highs])), (a_row_gains, .inl (cA 0, 8, .inl f_row_gains)), (a_row_lows, .inl (cA 0, 8, .inl f_row_lows)), (a_row_highs, .inl (cA 0, 8, .inl f_row_highs)), (a_weights, .inl (cA 0, 64, .inl f_weights)), (a_carried, .inl (cA 0, 64, .inl f_carried))]) (vp_Si post) 0 0 (fun _ => False) := by
  refine z_ro (cc := cX4_openOf) (maxL := 2) (ret := (some .int)) (by decide) rfl (Nat.le_of_ble_eq_true rfl) ?_
  intro p e s m args below meth c ls hx hb hr hlk hml hown hts hK hP hl
  have hown : s.vm.findClass RX4 = some m.cls := hown
  have hl : lv_has ls 2 [(0, .ref a0), (1, .int p1)] := hl
  have hw := h
  unfold wX4_openOf at hw
  have iwX4 : ∀ w ∈ wsX40, w ∈ wsX4_openOf := fun w h9 => List.mem_cons_of_mem _ (List.mem_append_left _ (List.mem_append_right _ h9))
  have kf12 := hts (.fieldLink RX4 12 "ExcessTree$Tree" "row" "LExcessTree$Row;") (by decide +kernel)
  refine lv_aload_n hx hb dX4_openOf_0 rfl (lv_at hl 0 rfl) ?_
  refine va_get (D := D) (ci := 3) (v := .ref a_row) (C := RX4) (T := TX4) (N := 3) hx hb hts iwX4 hown hK.1 hP 0 rfl rfl 0 (by decide) kf12 (fun _ h9 => h9) rfl dX4_openOf_1 ?_
  refine lv_iload_n hx hb dX4_openOf_4 rfl (lv_at hl 1 rfl) ?_
  refine lv_iconst (v := 0) hx hb dX4_openOf_5 (by decide) ?_
  refine z_ri [.int p1, .int (0 : Int32)] [] ⟨hx, hb, hml, hown, hts⟩ (kX1_placeOfSign l D cA a_row a_row_gains a_row_lows a_row_highs f_row_low f_row_high f_row_places f_row_gains f_row_lows f_row_highs p1 (0 : Int32) _ hw) (cwV 2 hts gX4_openOf_X1_placeOfSign rfl rfl rfl vX1_placeOfSign ⟨Nat.le_of_ble_eq_true rfl, Nat.le_of_ble_eq_true rfl⟩) hK (hP.sub [1, 2, 3, 4] rfl) (va_recv hK.1 (hP.sub (ws' := [(a_row, .inr (0, [.long f_row_low, .long f_row_high, .int f_row_places, .ref a_row_gains, .ref a_row_lows, .ref a_row_highs]))]) [1] rfl) (ci := 0) (q0 := 0) rfl rfl) rfl hl.1 rfl (Nat.le_of_ble_eq_true rfl) dX4_openOf_6 ⟨Nat.zero_le _, Nat.zero_le _⟩ (fun r_1 hw => ?_)
  exact z_iret hx hb hr hlk hw dX4_openOf_9
def wX4_closeOf (f_row_low : Int64) (f_row_high : Int64) (f_row_places : Int32) (f_row_gains : Nat → Int32) (f_row_lows : Nat → Int32) (f_row_highs : Nat → Int32) (p1 : Int32) (post : Int32 → Prop) : Prop := (wX4_openOf f_row_low f_row_high f_row_places p1 (fun r_1 : Int32 => ((wX1_partnerOf f_row_low f_row_high f_row_places f_row_gains f_row_lows f_row_highs r_1 (fun r_2 : Int32 => (post r_2))))))
abbrev rX4_closeOf : Room := { frames := 4, cells := 0, slots := 0, locals := 95 }
theorem vX4_closeOf : yX4_closeOf.cls = RX4 ∧ yX4_closeOf.cls ≠ "java/lang/invoke/MethodHandle" ∧ yX4_closeOf.cls ≠ "java/lang/invoke/VarHandle" ∧ (parseMethodDescriptor yX4_closeOf.desc).map (fun d => d.parameters.length) = some 1 := by decide +kernel
set_option maxHeartbeats 4000000 in
set_option maxRecDepth 100000 in
theorem kX4_closeOf (l : Launch) (D : va_G) (cA : Nat → ClassId) (a0 a_row a_weights a_carried a_row_gains a_row_lows a_row_highs : Nat) (f_row_low : Int64) (f_row_high : Int64) (f_row_places : Int32) (f_row_gains : Nat → Int32) (f_row_lows : Nat → Int32) (f_row_highs : Nat → Int32) (f_weights : Nat → Int32) (f_carried : Nat → Int32) (p1 : Int32) (post : Int32 → Prop) (h : wX4_closeOf f_row_low f_row_high f_row_places f_row_gains f_row_lows f_row_highs p1 post) : Met l yX4_closeOf wsX4_closeOf rX4_closeOf (zPr D cA [.ref a0, .int p1] [(a0, .inr (3, [.ref a_row, .ref a_weights, .ref a_carried])), (a_row, .inr (0, [.long f_row_low, .long f_row_high, .int f_row_places, .ref a_row_gains, .ref a_row_lows, .ref a_row_highs])), (a_row_gains, .inl (cA 0, 8, .inl f_row_gains)), (a_row_lows, .inl (cA 0, 8, .inl f_row_lows)), (a_row_highs, .inl (cA 0, 8, .inl f_row_highs)), (a_weights, .inl (cA 0, 64, .inl f_weights)), (a_carried, .inl (cA 0, 64, .inl f_carried))]) (vp_Si post) 0 0 (fun _ => False) := by
  refine z_ro (cc := cX4_closeOf) (maxL := 2) (ret := (some .int)) (by decide) rfl (Nat.le_of_ble_eq_true rfl) ?_
  intro p e s m args below meth c ls hx hb hr hlk hml hown hts hK hP hl
  have hown : s.vm.findClass RX4 = some m.cls := hown
  have hl : lv_has ls 2 [(0, .ref a0), (1, .int p1)] := hl
  have hw := h
  unfold wX4_closeOf at hw
  have iwX4 : ∀ w ∈ wsX40, w ∈ wsX4_closeOf := fun w h9 => List.mem_cons_of_mem _ (List.mem_append_left _ (List.mem_append_right _ h9))
  have kf12 := hts (.fieldLink RX4 12 "ExcessTree$Tree" "row" "LExcessTree$Row;") (by decide +kernel)
  refine lv_aload_n hx hb dX4_closeOf_0 rfl (lv_at hl 0 rfl) ?_
  refine va_get (D := D) (ci := 3) (v := .ref a_row) (C := RX4) (T := TX4) (N := 3) hx hb hts iwX4 hown hK.1 hP 0 rfl rfl 0 (by decide) kf12 (fun _ h9 => h9) rfl dX4_closeOf_1 ?_
  refine lv_aload_n hx hb dX4_closeOf_4 rfl (lv_at hl 0 rfl) ?_
  refine lv_iload_n hx hb dX4_closeOf_5 rfl (lv_at hl 1 rfl) ?_
  refine z_ri [.int p1] [.ref a_row] ⟨hx, hb, hml, hown, hts⟩ (kX4_openOf l D cA a0 a_row a_weights a_carried a_row_gains a_row_lows a_row_highs f_row_low f_row_high f_row_places f_row_gains f_row_lows f_row_highs f_weights f_carried p1 _ hw) (cwV 1 hts gX4_closeOf_X4_openOf rfl rfl rfl vX4_openOf ⟨Nat.le_of_ble_eq_true rfl, Nat.le_of_ble_eq_true rfl⟩) hK (hP.sub [0, 1, 2, 3, 4, 5, 6] rfl) (va_recv hK.1 (hP.sub (ws' := [(a0, .inr (3, [.ref a_row, .ref a_weights, .ref a_carried]))]) [0] rfl) (ci := 3) (q0 := 0) rfl rfl) rfl hl.1 rfl (Nat.le_of_ble_eq_true rfl) dX4_closeOf_6 ⟨Nat.zero_le _, Nat.zero_le _⟩ (fun r_1 hw => ?_)
  refine z_ri [.int r_1] [] ⟨hx, hb, hml, hown, hts⟩ (kX1_partnerOf l D cA a_row a_row_gains a_row_lows a_row_highs f_row_low f_row_high f_row_places f_row_gains f_row_lows f_row_highs r_1 _ hw) (cwV 1 hts gX4_closeOf_X1_partnerOf rfl rfl rfl vX1_partnerOf ⟨Nat.le_of_ble_eq_true rfl, Nat.le_of_ble_eq_true rfl⟩) hK (hP.sub [1, 2, 3, 4] rfl) (va_recv hK.1 (hP.sub (ws' := [(a_row, .inr (0, [.long f_row_low, .long f_row_high, .int f_row_places, .ref a_row_gains, .ref a_row_lows, .ref a_row_highs]))]) [1] rfl) (ci := 0) (q0 := 0) rfl rfl) rfl hl.1 rfl (Nat.le_of_ble_eq_true rfl) dX4_closeOf_9 ⟨Nat.zero_le _, Nat.zero_le _⟩ (fun r_2 hw => ?_)
  exact z_iret hx hb hr hlk hw dX4_closeOf_12
def wX4_nodeWithPlace (f_row_low : Int64) (f_row_high : Int64) (f_row_places : Int32) (f_row_gains : Nat → Int32) (f_row_lows : Nat → Int32) (f_row_highs : Nat → Int32) (p1 : Int32) (post : Int32 → Prop) : Prop := (wX1_bitAt f_row_low f_row_high p1 (fun r_1 : Int32 => (((¬ r_1 = (1 : Int32) → (wX1_partnerOf f_row_low f_row_high f_row_places f_row_gains f_row_lows f_row_highs p1 (fun r_3 : Int32 => ((wX1_opensAhead f_row_low f_row_high r_3 (fun r_4 : Int32 => (post r_4))))))) ∧ (r_1 = (1 : Int32) → (wX1_opensAhead f_row_low f_row_high p1 (fun r_5 : Int32 => (post r_5))))))))
abbrev rX4_nodeWithPlace : Room := { frames := 4, cells := 0, slots := 0, locals := 87 }
theorem vX4_nodeWithPlace : yX4_nodeWithPlace.cls = RX4 ∧ yX4_nodeWithPlace.cls ≠ "java/lang/invoke/MethodHandle" ∧ yX4_nodeWithPlace.cls ≠ "java/lang/invoke/VarHandle" ∧ (parseMethodDescriptor yX4_nodeWithPlace.desc).map (fun d => d.parameters.length) = some 1 := by decide +kernel
set_option maxHeartbeats 4000000 in
set_option maxRecDepth 100000 in
theorem kX4_nodeWithPlace (l : Launch) (D : va_G) (cA : Nat → ClassId) (a0 a_row a_weights a_carried a_row_gains a_row_lows a_row_highs : Nat) (f_row_low : Int64) (f_row_high : Int64) (f_row_places : Int32) (f_row_gains : Nat → Int32) (f_row_lows : Nat → Int32) (f_row_highs : Nat → Int32) (f_weights : Nat → Int32) (f_carried : Nat → Int32) (p1 : Int32) (post : Int32 → Prop) (h : wX4_nodeWithPlace f_row_low f_row_high f_row_places f_row_gains f_row_lows f_row_highs p1 post) : Met l yX4_nodeWithPlace wsX4_nodeWithPlace rX4_nodeWithPlace (zPr D cA [.ref a0, .int p1] [(a0, .inr (3, [.ref a_row, .ref a_weights, .ref a_carried])), (a_row, .inr (0, [.long f_row_low, .long f_row_high, .int f_row_places, .ref a_row_gains, .ref a_row_lows, .ref a_row_highs])), (a_row_gains, .inl (cA 0, 8, .inl f_row_gains)), (a_row_lows, .inl (cA 0, 8, .inl f_row_lows)), (a_row_highs, .inl (cA 0, 8, .inl f_row_highs)), (a_weights, .inl (cA 0, 64, .inl f_weights)), (a_carried, .inl (cA 0, 64, .inl f_carried))]) (vp_Si post) 0 0 (fun _ => False) := by
  refine z_ro (cc := cX4_nodeWithPlace) (maxL := 2) (ret := (some .int)) (by decide) rfl (Nat.le_of_ble_eq_true rfl) ?_
  intro p e s m args below meth c ls hx hb hr hlk hml hown hts hK hP hl
  have hown : s.vm.findClass RX4 = some m.cls := hown
  have hl : lv_has ls 2 [(0, .ref a0), (1, .int p1)] := hl
  have hw := h
  unfold wX4_nodeWithPlace at hw
  have iwX4 : ∀ w ∈ wsX40, w ∈ wsX4_nodeWithPlace := fun w h9 => List.mem_cons_of_mem _ (List.mem_append_left _ (List.mem_append_right _ h9))
  have kf12 := hts (.fieldLink RX4 12 "ExcessTree$Tree" "row" "LExcessTree$Row;") (by decide +kernel)
  refine lv_aload_n hx hb dX4_nodeWithPlace_0 rfl (lv_at hl 0 rfl) ?_
  refine va_get (D := D) (ci := 3) (v := .ref a_row) (C := RX4) (T := TX4) (N := 3) hx hb hts iwX4 hown hK.1 hP 0 rfl rfl 0 (by decide) kf12 (fun _ h9 => h9) rfl dX4_nodeWithPlace_1 ?_
  refine lv_aload_n hx hb dX4_nodeWithPlace_4 rfl (lv_at hl 0 rfl) ?_
  refine va_get (D := D) (ci := 3) (v := .ref a_row) (C := RX4) (T := TX4) (N := 3) hx hb hts iwX4 hown hK.1 hP 0 rfl rfl 0 (by decide) kf12 (fun _ h9 => h9) rfl dX4_nodeWithPlace_5 ?_
  refine lv_iload_n hx hb dX4_nodeWithPlace_8 rfl (lv_at hl 1 rfl) ?_
  refine z_ri [.int p1] [.ref a_row] ⟨hx, hb, hml, hown, hts⟩ (kX1_bitAt l D cA a_row a_row_gains a_row_lows a_row_highs f_row_low f_row_high f_row_places f_row_gains f_row_lows f_row_highs p1 _ hw) (cwV 1 hts gX4_nodeWithPlace_X1_bitAt rfl rfl rfl vX1_bitAt ⟨Nat.le_of_ble_eq_true rfl, Nat.le_of_ble_eq_true rfl⟩) hK (hP.sub [1, 2, 3, 4] rfl) (va_recv hK.1 (hP.sub (ws' := [(a_row, .inr (0, [.long f_row_low, .long f_row_high, .int f_row_places, .ref a_row_gains, .ref a_row_lows, .ref a_row_highs]))]) [1] rfl) (ci := 0) (q0 := 0) rfl rfl) rfl hl.1 rfl (Nat.le_of_ble_eq_true rfl) dX4_nodeWithPlace_9 ⟨Nat.zero_le _, Nat.zero_le _⟩ (fun r_1 hw => ?_)
  refine lv_iconst (v := 1) hx hb dX4_nodeWithPlace_12 (by decide) ?_
  refine lv_icmp_ne (tgt := 20) hx hb dX4_nodeWithPlace_13 (by decide) (fun c_2 => ?_) (fun c_2 => ?_)
  · have hw := hw.1 c_2
    refine lv_aload_n hx hb dX4_nodeWithPlace_20 rfl (lv_at hl 0 rfl) ?_
    refine va_get (D := D) (ci := 3) (v := .ref a_row) (C := RX4) (T := TX4) (N := 3) hx hb hts iwX4 hown hK.1 hP 0 rfl rfl 0 (by decide) kf12 (fun _ h9 => h9) rfl dX4_nodeWithPlace_21 ?_
    refine lv_iload_n hx hb dX4_nodeWithPlace_24 rfl (lv_at hl 1 rfl) ?_
    refine z_ri [.int p1] [.ref a_row] ⟨hx, hb, hml, hown, hts⟩ (kX1_partnerOf l D cA a_row a_row_gains a_row_lows a_row_highs f_row_low f_row_high f_row_places f_row_gains f_row_lows f_row_highs p1 _ hw) (cwV 1 hts gX4_nodeWithPlace_X1_partnerOf rfl rfl rfl vX1_partnerOf ⟨Nat.le_of_ble_eq_true rfl, Nat.le_of_ble_eq_true rfl⟩) hK (hP.sub [1, 2, 3, 4] rfl) (va_recv hK.1 (hP.sub (ws' := [(a_row, .inr (0, [.long f_row_low, .long f_row_high, .int f_row_places, .ref a_row_gains, .ref a_row_lows, .ref a_row_highs]))]) [1] rfl) (ci := 0) (q0 := 0) rfl rfl) rfl hl.1 rfl (Nat.le_of_ble_eq_true rfl) dX4_nodeWithPlace_25 ⟨Nat.zero_le _, Nat.zero_le _⟩ (fun r_3 hw => ?_)
    refine z_ri [.int r_3] [] ⟨hx, hb, hml, hown, hts⟩ (kX1_opensAhead l D cA a_row a_row_gains a_row_lows a_row_highs f_row_low f_row_high f_row_places f_row_gains f_row_lows f_row_highs r_3 _ hw) (cwV 1 hts gX4_nodeWithPlace_X1_opensAhead rfl rfl rfl vX1_opensAhead ⟨Nat.le_of_ble_eq_true rfl, Nat.le_of_ble_eq_true rfl⟩) hK (hP.sub [1, 2, 3, 4] rfl) (va_recv hK.1 (hP.sub (ws' := [(a_row, .inr (0, [.long f_row_low, .long f_row_high, .int f_row_places, .ref a_row_gains, .ref a_row_lows, .ref a_row_highs]))]) [1] rfl) (ci := 0) (q0 := 0) rfl rfl) rfl hl.1 rfl (Nat.le_of_ble_eq_true rfl) dX4_nodeWithPlace_28 ⟨Nat.zero_le _, Nat.zero_le _⟩ (fun r_4 hw => ?_)
    exact z_iret hx hb hr hlk hw dX4_nodeWithPlace_31
  · have hw := hw.2 c_2
    refine lv_iload_n hx hb dX4_nodeWithPlace_16 rfl (lv_at hl 1 rfl) ?_
    refine lv_goto (tgt := 28) hx hb dX4_nodeWithPlace_17 (by decide) ?_
    refine z_ri [.int p1] [] ⟨hx, hb, hml, hown, hts⟩ (kX1_opensAhead l D cA a_row a_row_gains a_row_lows a_row_highs f_row_low f_row_high f_row_places f_row_gains f_row_lows f_row_highs p1 _ hw) (cwV 1 hts gX4_nodeWithPlace_X1_opensAhead rfl rfl rfl vX1_opensAhead ⟨Nat.le_of_ble_eq_true rfl, Nat.le_of_ble_eq_true rfl⟩) hK (hP.sub [1, 2, 3, 4] rfl) (va_recv hK.1 (hP.sub (ws' := [(a_row, .inr (0, [.long f_row_low, .long f_row_high, .int f_row_places, .ref a_row_gains, .ref a_row_lows, .ref a_row_highs]))]) [1] rfl) (ci := 0) (q0 := 0) rfl rfl) rfl hl.1 rfl (Nat.le_of_ble_eq_true rfl) dX4_nodeWithPlace_28 ⟨Nat.zero_le _, Nat.zero_le _⟩ (fun r_5 hw => ?_)
    exact z_iret hx hb hr hlk hw dX4_nodeWithPlace_31
def wX4_placeForChild (f_row_low : Int64) (f_row_high : Int64) (f_row_places : Int32) (f_row_gains : Nat → Int32) (f_row_lows : Nat → Int32) (f_row_highs : Nat → Int32) (p1 : Int32) (p2 : Int32) (post : Int32 → Prop) : Prop := (wX4_openOf f_row_low f_row_high f_row_places p1 (fun r_1 : Int32 => ((∀ x_2 : Int32, x_2 = (r_1 + (1 : Int32)) → (wX1_excessAt f_row_low f_row_high x_2 (fun r_3 : Int32 => ((∃ (I_4 : Int32 → Int32 → Prop) (mu_4 : Int32 → Int32 → Nat), I_4 x_2 (0 : Int32) ∧ ∀ (x_5 : Int32) (x_6 : Int32), I_4 x_5 x_6 → ((p2 ≤ x_6 → post x_5) ∧ (¬ p2 ≤ x_6 → (wX1_bitAt f_row_low f_row_high x_5 (fun r_8 : Int32 => (((¬ r_8 = (1 : Int32) → post x_5) ∧ (r_8 = (1 : Int32) → (wX1_searchOn f_row_low f_row_high f_row_places f_row_gains f_row_lows f_row_highs x_5 r_3 (fun r_10 : Int32 => ((∀ x_11 : Int32, x_11 = x_6 + (1) → (I_4 r_10 x_11 ∧ mu_4 r_10 x_11 < mu_4 x_5 x_6))))))))))))))))))))
abbrev rX4_placeForChild : Room := { frames := 4, cells := 0, slots := 0, locals := 95 }
theorem vX4_placeForChild : yX4_placeForChild.cls = RX4 ∧ yX4_placeForChild.cls ≠ "java/lang/invoke/MethodHandle" ∧ yX4_placeForChild.cls ≠ "java/lang/invoke/VarHandle" ∧ (parseMethodDescriptor yX4_placeForChild.desc).map (fun d => d.parameters.length) = some 2 := by decide +kernel
set_option maxHeartbeats 4000000 in
set_option maxRecDepth 100000 in
theorem kX4_placeForChild (l : Launch) (D : va_G) (cA : Nat → ClassId) (a0 a_row a_weights a_carried a_row_gains a_row_lows a_row_highs : Nat) (f_row_low : Int64) (f_row_high : Int64) (f_row_places : Int32) (f_row_gains : Nat → Int32) (f_row_lows : Nat → Int32) (f_row_highs : Nat → Int32) (f_weights : Nat → Int32) (f_carried : Nat → Int32) (p1 : Int32) (p2 : Int32) (post : Int32 → Prop) (h : wX4_placeForChild f_row_low f_row_high f_row_places f_row_gains f_row_lows f_row_highs p1 p2 post) : Met l yX4_placeForChild wsX4_placeForChild rX4_placeForChild (zPr D cA [.ref a0, .int p1, .int p2] [(a0, .inr (3, [.ref a_row, .ref a_weights, .ref a_carried])), (a_row, .inr (0, [.long f_row_low, .long f_row_high, .int f_row_places, .ref a_row_gains, .ref a_row_lows, .ref a_row_highs])), (a_row_gains, .inl (cA 0, 8, .inl f_row_gains)), (a_row_lows, .inl (cA 0, 8, .inl f_row_lows)), (a_row_highs, .inl (cA 0, 8, .inl f_row_highs)), (a_weights, .inl (cA 0, 64, .inl f_weights)), (a_carried, .inl (cA 0, 64, .inl f_carried))]) (vp_Si post) 0 0 (fun _ => False) := by
  refine z_ro (cc := cX4_placeForChild) (maxL := 6) (ret := (some .int)) (by decide) rfl (Nat.le_of_ble_eq_true rfl) ?_
  intro p e s m args below meth c ls hx hb hr hlk hml hown hts hK hP hl
  have hown : s.vm.findClass RX4 = some m.cls := hown
  have hl : lv_has ls 6 [(0, .ref a0), (1, .int p1), (2, .int p2)] := hl
  have hw := h
  unfold wX4_placeForChild at hw
  have iwX4 : ∀ w ∈ wsX40, w ∈ wsX4_placeForChild := fun w h9 => List.mem_cons_of_mem _ (List.mem_append_left _ (List.mem_append_right _ h9))
  have kf12 := hts (.fieldLink RX4 12 "ExcessTree$Tree" "row" "LExcessTree$Row;") (by decide +kernel)
  refine lv_aload_n hx hb dX4_placeForChild_0 rfl (lv_at hl 0 rfl) ?_
  refine lv_iload_n hx hb dX4_placeForChild_1 rfl (lv_at hl 1 rfl) ?_
  refine z_ri [.int p1] [] ⟨hx, hb, hml, hown, hts⟩ (kX4_openOf l D cA a0 a_row a_weights a_carried a_row_gains a_row_lows a_row_highs f_row_low f_row_high f_row_places f_row_gains f_row_lows f_row_highs f_weights f_carried p1 _ hw) (cwV 1 hts gX4_placeForChild_X4_openOf rfl rfl rfl vX4_openOf ⟨Nat.le_of_ble_eq_true rfl, Nat.le_of_ble_eq_true rfl⟩) hK (hP.sub [0, 1, 2, 3, 4, 5, 6] rfl) (va_recv hK.1 (hP.sub (ws' := [(a0, .inr (3, [.ref a_row, .ref a_weights, .ref a_carried]))]) [0] rfl) (ci := 3) (q0 := 0) rfl rfl) rfl hl.1 rfl (Nat.le_of_ble_eq_true rfl) dX4_placeForChild_2 ⟨Nat.zero_le _, Nat.zero_le _⟩ (fun r_1 hw => ?_)
  refine lv_iconst (v := 1) hx hb dX4_placeForChild_5 (by decide) ?_
  refine lv_iadd hx hb dX4_placeForChild_6 ?_
  refine lv_topi (fun x_2 ex_2 => ?_)
  have hw := hw x_2 ex_2
  refine lv_istore_n (lv' := [(3, .int x_2), (0, .ref a0), (1, .int p1), (2, .int p2)]) hx hb dX4_placeForChild_7 rfl hl (by decide) rfl (fun ls hl => ?_)
  refine lv_aload_n hx hb dX4_placeForChild_8 rfl (lv_at hl 1 rfl) ?_
  refine va_get (D := D) (ci := 3) (v := .ref a_row) (C := RX4) (T := TX4) (N := 3) hx hb hts iwX4 hown hK.1 hP 0 rfl rfl 0 (by decide) kf12 (fun _ h9 => h9) rfl dX4_placeForChild_9 ?_
  refine lv_iload_n hx hb dX4_placeForChild_12 rfl (lv_at hl 0 rfl) ?_
  refine z_ri [.int x_2] [] ⟨hx, hb, hml, hown, hts⟩ (kX1_excessAt l D cA a_row a_row_gains a_row_lows a_row_highs f_row_low f_row_high f_row_places f_row_gains f_row_lows f_row_highs x_2 _ hw) (cwV 1 hts gX4_placeForChild_X1_excessAt rfl rfl rfl vX1_excessAt ⟨Nat.le_of_ble_eq_true rfl, Nat.le_of_ble_eq_true rfl⟩) hK (hP.sub [1, 2, 3, 4] rfl) (va_recv hK.1 (hP.sub (ws' := [(a_row, .inr (0, [.long f_row_low, .long f_row_high, .int f_row_places, .ref a_row_gains, .ref a_row_lows, .ref a_row_highs]))]) [1] rfl) (ci := 0) (q0 := 0) rfl rfl) rfl hl.1 rfl (Nat.le_of_ble_eq_true rfl) dX4_placeForChild_13 ⟨Nat.zero_le _, Nat.zero_le _⟩ (fun r_3 hw => ?_)
  refine lv_istore (lv' := [(4, .int r_3), (3, .int x_2), (0, .ref a0), (1, .int p1), (2, .int p2)]) hx hb dX4_placeForChild_16 hl (by decide) rfl (fun ls hl => ?_)
  refine lv_iconst (v := 0) hx hb dX4_placeForChild_18 (by decide) ?_
  refine lv_istore (lv' := [(5, .int (0 : Int32)), (4, .int r_3), (3, .int x_2), (0, .ref a0), (1, .int p1), (2, .int p2)]) hx hb dX4_placeForChild_19 hl (by decide) rfl (fun ls hl => ?_)
  obtain ⟨I_4, mu_4, hI_4, hw⟩ := hw
  have lp_4 : ∀ (nn : Nat) (x_5 : Int32) (x_6 : Int32) (ls : Array Slot), mu_4 x_5 x_6 < nn → I_4 x_5 x_6 → lv_has ls 6 [(0, .ref a0), (2, .int p2), (3, .int x_5), (4, .int r_3), (5, .int x_6)] → W p l e rX4_placeForChild s m args below meth c s.heap [] 0 0 (MQ below (vp_Si post) args s 0 0 (fun _ => False)) (F0 m 21 ls []) := by
    intro nn
    induction nn with
    | zero => exact fun _ _ _ h0 => absurd h0 (Nat.not_lt_zero _)
    | succ nn ih_4 =>
      intro x_5 x_6 ls hmu_4 hI_4 hl
      have hw := hw x_5 x_6 hI_4
      refine lv_iload hx hb dX4_placeForChild_21 (lv_at hl 4 rfl) ?_
      refine lv_iload_n hx hb dX4_placeForChild_23 rfl (lv_at hl 1 rfl) ?_
      refine lv_icmp_ge (tgt := 56) hx hb dX4_placeForChild_24 (by decide) (fun c_7 => ?_) (fun c_7 => ?_)
      · have hw := hw.1 c_7
        refine lv_iload_n hx hb dX4_placeForChild_56 rfl (lv_at hl 2 rfl) ?_
        exact z_iret hx hb hr hlk hw dX4_placeForChild_57
      · have hw := hw.2 c_7
        refine lv_aload_n hx hb dX4_placeForChild_27 rfl (lv_at hl 0 rfl) ?_
        refine va_get (D := D) (ci := 3) (v := .ref a_row) (C := RX4) (T := TX4) (N := 3) hx hb hts iwX4 hown hK.1 hP 0 rfl rfl 0 (by decide) kf12 (fun _ h9 => h9) rfl dX4_placeForChild_28 ?_
        refine lv_iload_n hx hb dX4_placeForChild_31 rfl (lv_at hl 2 rfl) ?_
        refine z_ri [.int x_5] [] ⟨hx, hb, hml, hown, hts⟩ (kX1_bitAt l D cA a_row a_row_gains a_row_lows a_row_highs f_row_low f_row_high f_row_places f_row_gains f_row_lows f_row_highs x_5 _ hw) (cwV 1 hts gX4_placeForChild_X1_bitAt rfl rfl rfl vX1_bitAt ⟨Nat.le_of_ble_eq_true rfl, Nat.le_of_ble_eq_true rfl⟩) hK (hP.sub [1, 2, 3, 4] rfl) (va_recv hK.1 (hP.sub (ws' := [(a_row, .inr (0, [.long f_row_low, .long f_row_high, .int f_row_places, .ref a_row_gains, .ref a_row_lows, .ref a_row_highs]))]) [1] rfl) (ci := 0) (q0 := 0) rfl rfl) rfl hl.1 rfl (Nat.le_of_ble_eq_true rfl) dX4_placeForChild_32 ⟨Nat.zero_le _, Nat.zero_le _⟩ (fun r_8 hw => ?_)
        refine lv_iconst (v := 1) hx hb dX4_placeForChild_35 (by decide) ?_
        refine lv_icmp_ne (tgt := 56) hx hb dX4_placeForChild_36 (by decide) (fun c_9 => ?_) (fun c_9 => ?_)
        · have hw := hw.1 c_9
          refine lv_iload_n hx hb dX4_placeForChild_56 rfl (lv_at hl 2 rfl) ?_
          exact z_iret hx hb hr hlk hw dX4_placeForChild_57
        · have hw := hw.2 c_9
          refine lv_aload_n hx hb dX4_placeForChild_39 rfl (lv_at hl 0 rfl) ?_
          refine va_get (D := D) (ci := 3) (v := .ref a_row) (C := RX4) (T := TX4) (N := 3) hx hb hts iwX4 hown hK.1 hP 0 rfl rfl 0 (by decide) kf12 (fun _ h9 => h9) rfl dX4_placeForChild_40 ?_
          refine lv_iload_n hx hb dX4_placeForChild_43 rfl (lv_at hl 2 rfl) ?_
          refine lv_iload hx hb dX4_placeForChild_44 (lv_at hl 3 rfl) ?_
          refine z_ri [.int x_5, .int r_3] [] ⟨hx, hb, hml, hown, hts⟩ (kX1_searchOn l D cA a_row a_row_gains a_row_lows a_row_highs f_row_low f_row_high f_row_places f_row_gains f_row_lows f_row_highs x_5 r_3 _ hw) (cwV 2 hts gX4_placeForChild_X1_searchOn rfl rfl rfl vX1_searchOn ⟨Nat.le_of_ble_eq_true rfl, Nat.le_of_ble_eq_true rfl⟩) hK (hP.sub [1, 2, 3, 4] rfl) (va_recv hK.1 (hP.sub (ws' := [(a_row, .inr (0, [.long f_row_low, .long f_row_high, .int f_row_places, .ref a_row_gains, .ref a_row_lows, .ref a_row_highs]))]) [1] rfl) (ci := 0) (q0 := 0) rfl rfl) rfl hl.1 rfl (Nat.le_of_ble_eq_true rfl) dX4_placeForChild_46 ⟨Nat.zero_le _, Nat.zero_le _⟩ (fun r_10 hw => ?_)
          refine lv_istore_n (lv' := [(3, .int r_10), (0, .ref a0), (2, .int p2), (4, .int r_3), (5, .int x_6)]) hx hb dX4_placeForChild_49 rfl hl (by decide) rfl (fun ls hl => ?_)
          obtain ⟨x_11, ex_11⟩ : ∃ y : Int32, y = x_6 + (1) := ⟨_, rfl⟩
          have hw := hw x_11 ex_11
          refine lv_iinc (v := x_11) (lv' := [(5, .int x_11), (3, .int r_10), (0, .ref a0), (2, .int p2), (4, .int r_3)]) hx hb dX4_placeForChild_50 hl (k := 4) rfl (by rw [ex_11]; rfl) (by decide) rfl (fun ls hl => ?_)
          refine lv_goto (tgt := 21) hx hb dX4_placeForChild_53 (by decide) ?_
          exact ih_4 r_10 x_11 ls (Nat.lt_of_lt_of_le hw.2 (Nat.le_of_lt_succ hmu_4)) hw.1 (lv_sub hl [2, 3, 1, 4, 0] rfl)
  exact lp_4 (mu_4 x_2 (0 : Int32) + 1) x_2 (0 : Int32) ls (Nat.lt_succ_self _) hI_4 (lv_sub hl [3, 5, 2, 1, 0] rfl)
def wX4_depthOf (f_row_low : Int64) (f_row_high : Int64) (f_row_places : Int32) (p1 : Int32) (post : Int32 → Prop) : Prop := (wX4_openOf f_row_low f_row_high f_row_places p1 (fun r_1 : Int32 => ((wX1_excessAt f_row_low f_row_high r_1 (fun r_2 : Int32 => (post r_2))))))
abbrev rX4_depthOf : Room := { frames := 4, cells := 0, slots := 0, locals := 95 }
theorem vX4_depthOf : yX4_depthOf.cls = RX4 ∧ yX4_depthOf.cls ≠ "java/lang/invoke/MethodHandle" ∧ yX4_depthOf.cls ≠ "java/lang/invoke/VarHandle" ∧ (parseMethodDescriptor yX4_depthOf.desc).map (fun d => d.parameters.length) = some 1 := by decide +kernel
set_option maxHeartbeats 4000000 in
set_option maxRecDepth 100000 in
theorem kX4_depthOf (l : Launch) (D : va_G) (cA : Nat → ClassId) (a0 a_row a_weights a_carried a_row_gains a_row_lows a_row_highs : Nat) (f_row_low : Int64) (f_row_high : Int64) (f_row_places : Int32) (f_row_gains : Nat → Int32) (f_row_lows : Nat → Int32) (f_row_highs : Nat → Int32) (f_weights : Nat → Int32) (f_carried : Nat → Int32) (p1 : Int32) (post : Int32 → Prop) (h : wX4_depthOf f_row_low f_row_high f_row_places p1 post) : Met l yX4_depthOf wsX4_depthOf rX4_depthOf (zPr D cA [.ref a0, .int p1] [(a0, .inr (3, [.ref a_row, .ref a_weights, .ref a_carried])), (a_row, .inr (0, [.long f_row_low, .long f_row_high, .int f_row_places, .ref a_row_gains, .ref a_row_lows, .ref a_row_highs])), (a_row_gains, .inl (cA 0, 8, .inl f_row_gains)), (a_row_lows, .inl (cA 0, 8, .inl f_row_lows)), (a_row_highs, .inl (cA 0, 8, .inl f_row_highs)), (a_weights, .inl (cA 0, 64, .inl f_weights)), (a_carried, .inl (cA 0, 64, .inl f_carried))]) (vp_Si post) 0 0 (fun _ => False) := by
  refine z_ro (cc := cX4_depthOf) (maxL := 2) (ret := (some .int)) (by decide) rfl (Nat.le_of_ble_eq_true rfl) ?_
  intro p e s m args below meth c ls hx hb hr hlk hml hown hts hK hP hl
  have hown : s.vm.findClass RX4 = some m.cls := hown
  have hl : lv_has ls 2 [(0, .ref a0), (1, .int p1)] := hl
  have hw := h
  unfold wX4_depthOf at hw
  have iwX4 : ∀ w ∈ wsX40, w ∈ wsX4_depthOf := fun w h9 => List.mem_cons_of_mem _ (List.mem_append_left _ (List.mem_append_right _ h9))
  have kf12 := hts (.fieldLink RX4 12 "ExcessTree$Tree" "row" "LExcessTree$Row;") (by decide +kernel)
  refine lv_aload_n hx hb dX4_depthOf_0 rfl (lv_at hl 0 rfl) ?_
  refine va_get (D := D) (ci := 3) (v := .ref a_row) (C := RX4) (T := TX4) (N := 3) hx hb hts iwX4 hown hK.1 hP 0 rfl rfl 0 (by decide) kf12 (fun _ h9 => h9) rfl dX4_depthOf_1 ?_
  refine lv_aload_n hx hb dX4_depthOf_4 rfl (lv_at hl 0 rfl) ?_
  refine lv_iload_n hx hb dX4_depthOf_5 rfl (lv_at hl 1 rfl) ?_
  refine z_ri [.int p1] [.ref a_row] ⟨hx, hb, hml, hown, hts⟩ (kX4_openOf l D cA a0 a_row a_weights a_carried a_row_gains a_row_lows a_row_highs f_row_low f_row_high f_row_places f_row_gains f_row_lows f_row_highs f_weights f_carried p1 _ hw) (cwV 1 hts gX4_depthOf_X4_openOf rfl rfl rfl vX4_openOf ⟨Nat.le_of_ble_eq_true rfl, Nat.le_of_ble_eq_true rfl⟩) hK (hP.sub [0, 1, 2, 3, 4, 5, 6] rfl) (va_recv hK.1 (hP.sub (ws' := [(a0, .inr (3, [.ref a_row, .ref a_weights, .ref a_carried]))]) [0] rfl) (ci := 3) (q0 := 0) rfl rfl) rfl hl.1 rfl (Nat.le_of_ble_eq_true rfl) dX4_depthOf_6 ⟨Nat.zero_le _, Nat.zero_le _⟩ (fun r_1 hw => ?_)
  refine z_ri [.int r_1] [] ⟨hx, hb, hml, hown, hts⟩ (kX1_excessAt l D cA a_row a_row_gains a_row_lows a_row_highs f_row_low f_row_high f_row_places f_row_gains f_row_lows f_row_highs r_1 _ hw) (cwV 1 hts gX4_depthOf_X1_excessAt rfl rfl rfl vX1_excessAt ⟨Nat.le_of_ble_eq_true rfl, Nat.le_of_ble_eq_true rfl⟩) hK (hP.sub [1, 2, 3, 4] rfl) (va_recv hK.1 (hP.sub (ws' := [(a_row, .inr (0, [.long f_row_low, .long f_row_high, .int f_row_places, .ref a_row_gains, .ref a_row_lows, .ref a_row_highs]))]) [1] rfl) (ci := 0) (q0 := 0) rfl rfl) rfl hl.1 rfl (Nat.le_of_ble_eq_true rfl) dX4_depthOf_9 ⟨Nat.zero_le _, Nat.zero_le _⟩ (fun r_2 hw => ?_)
  exact z_iret hx hb hr hlk hw dX4_depthOf_12
def wX4_aboveBy (f_row_low : Int64) (f_row_high : Int64) (f_row_places : Int32) (f_row_gains : Nat → Int32) (f_row_lows : Nat → Int32) (f_row_highs : Nat → Int32) (p1 : Int32) (p2 : Int32) (post : Int32 → Prop) : Prop := (wX4_openOf f_row_low f_row_high f_row_places p1 (fun r_1 : Int32 => ((wX1_excessAt f_row_low f_row_high r_1 (fun r_2 : Int32 => (((p2 ≤ r_2 → (wX1_searchBack f_row_low f_row_high f_row_gains f_row_lows f_row_highs (r_1 + (1 : Int32)) (r_2 - p2) (fun r_4 : Int32 => ((wX1_opensAhead f_row_low f_row_high r_4 (fun r_5 : Int32 => (post r_5))))))) ∧ (¬ p2 ≤ r_2 → post (-4 : Int32)))))))))
abbrev rX4_aboveBy : Room := { frames := 4, cells := 0, slots := 0, locals := 95 }
theorem vX4_aboveBy : yX4_aboveBy.cls = RX4 ∧ yX4_aboveBy.cls ≠ "java/lang/invoke/MethodHandle" ∧ yX4_aboveBy.cls ≠ "java/lang/invoke/VarHandle" ∧ (parseMethodDescriptor yX4_aboveBy.desc).map (fun d => d.parameters.length) = some 2 := by decide +kernel
set_option maxHeartbeats 4000000 in
set_option maxRecDepth 100000 in
theorem kX4_aboveBy (l : Launch) (D : va_G) (cA : Nat → ClassId) (a0 a_row a_weights a_carried a_row_gains a_row_lows a_row_highs : Nat) (f_row_low : Int64) (f_row_high : Int64) (f_row_places : Int32) (f_row_gains : Nat → Int32) (f_row_lows : Nat → Int32) (f_row_highs : Nat → Int32) (f_weights : Nat → Int32) (f_carried : Nat → Int32) (p1 : Int32) (p2 : Int32) (post : Int32 → Prop) (h : wX4_aboveBy f_row_low f_row_high f_row_places f_row_gains f_row_lows f_row_highs p1 p2 post) : Met l yX4_aboveBy wsX4_aboveBy rX4_aboveBy (zPr D cA [.ref a0, .int p1, .int p2] [(a0, .inr (3, [.ref a_row, .ref a_weights, .ref a_carried])), (a_row, .inr (0, [.long f_row_low, .long f_row_high, .int f_row_places, .ref a_row_gains, .ref a_row_lows, .ref a_row_highs])), (a_row_gains, .inl (cA 0, 8, .inl f_row_gains)), (a_row_lows, .inl (cA 0, 8, .inl f_row_lows)), (a_row_highs, .inl (cA 0, 8, .inl f_row_highs)), (a_weights, .inl (cA 0, 64, .inl f_weights)), (a_carried, .inl (cA 0, 64, .inl f_carried))]) (vp_Si post) 0 0 (fun _ => False) := by
  refine z_ro (cc := cX4_aboveBy) (maxL := 5) (ret := (some .int)) (by decide) rfl (Nat.le_of_ble_eq_true rfl) ?_
  intro p e s m args below meth c ls hx hb hr hlk hml hown hts hK hP hl
  have hown : s.vm.findClass RX4 = some m.cls := hown
  have hl : lv_has ls 5 [(0, .ref a0), (1, .int p1), (2, .int p2)] := hl
  have hw := h
  unfold wX4_aboveBy at hw
  have iwX4 : ∀ w ∈ wsX40, w ∈ wsX4_aboveBy := fun w h9 => List.mem_cons_of_mem _ (List.mem_append_left _ (List.mem_append_right _ h9))
  have kf12 := hts (.fieldLink RX4 12 "ExcessTree$Tree" "row" "LExcessTree$Row;") (by decide +kernel)
  refine lv_aload_n hx hb dX4_aboveBy_0 rfl (lv_at hl 0 rfl) ?_
  refine lv_iload_n hx hb dX4_aboveBy_1 rfl (lv_at hl 1 rfl) ?_
  refine z_ri [.int p1] [] ⟨hx, hb, hml, hown, hts⟩ (kX4_openOf l D cA a0 a_row a_weights a_carried a_row_gains a_row_lows a_row_highs f_row_low f_row_high f_row_places f_row_gains f_row_lows f_row_highs f_weights f_carried p1 _ hw) (cwV 1 hts gX4_aboveBy_X4_openOf rfl rfl rfl vX4_openOf ⟨Nat.le_of_ble_eq_true rfl, Nat.le_of_ble_eq_true rfl⟩) hK (hP.sub [0, 1, 2, 3, 4, 5, 6] rfl) (va_recv hK.1 (hP.sub (ws' := [(a0, .inr (3, [.ref a_row, .ref a_weights, .ref a_carried]))]) [0] rfl) (ci := 3) (q0 := 0) rfl rfl) rfl hl.1 rfl (Nat.le_of_ble_eq_true rfl) dX4_aboveBy_2 ⟨Nat.zero_le _, Nat.zero_le _⟩ (fun r_1 hw => ?_)
  refine lv_istore_n (lv' := [(3, .int r_1), (0, .ref a0), (1, .int p1), (2, .int p2)]) hx hb dX4_aboveBy_5 rfl hl (by decide) rfl (fun ls hl => ?_)
  refine lv_aload_n hx hb dX4_aboveBy_6 rfl (lv_at hl 1 rfl) ?_
  refine va_get (D := D) (ci := 3) (v := .ref a_row) (C := RX4) (T := TX4) (N := 3) hx hb hts iwX4 hown hK.1 hP 0 rfl rfl 0 (by decide) kf12 (fun _ h9 => h9) rfl dX4_aboveBy_7 ?_
  refine lv_iload_n hx hb dX4_aboveBy_10 rfl (lv_at hl 0 rfl) ?_
  refine z_ri [.int r_1] [] ⟨hx, hb, hml, hown, hts⟩ (kX1_excessAt l D cA a_row a_row_gains a_row_lows a_row_highs f_row_low f_row_high f_row_places f_row_gains f_row_lows f_row_highs r_1 _ hw) (cwV 1 hts gX4_aboveBy_X1_excessAt rfl rfl rfl vX1_excessAt ⟨Nat.le_of_ble_eq_true rfl, Nat.le_of_ble_eq_true rfl⟩) hK (hP.sub [1, 2, 3, 4] rfl) (va_recv hK.1 (hP.sub (ws' := [(a_row, .inr (0, [.long f_row_low, .long f_row_high, .int f_row_places, .ref a_row_gains, .ref a_row_lows, .ref a_row_highs]))]) [1] rfl) (ci := 0) (q0 := 0) rfl rfl) rfl hl.1 rfl (Nat.le_of_ble_eq_true rfl) dX4_aboveBy_11 ⟨Nat.zero_le _, Nat.zero_le _⟩ (fun r_2 hw => ?_)
  refine lv_istore (lv' := [(4, .int r_2), (3, .int r_1), (0, .ref a0), (1, .int p1), (2, .int p2)]) hx hb dX4_aboveBy_14 hl (by decide) rfl (fun ls hl => ?_)
  refine lv_iload_n hx hb dX4_aboveBy_16 rfl (lv_at hl 4 rfl) ?_
  refine lv_iload hx hb dX4_aboveBy_17 (lv_at hl 0 rfl) ?_
  refine lv_icmp_le (tgt := 25) hx hb dX4_aboveBy_19 (by decide) (fun c_3 => ?_) (fun c_3 => ?_)
  · have hw := hw.1 c_3
    refine lv_aload_n hx hb dX4_aboveBy_25 rfl (lv_at hl 2 rfl) ?_
    refine va_get (D := D) (ci := 3) (v := .ref a_row) (C := RX4) (T := TX4) (N := 3) hx hb hts iwX4 hown hK.1 hP 0 rfl rfl 0 (by decide) kf12 (fun _ h9 => h9) rfl dX4_aboveBy_26 ?_
    refine lv_aload_n hx hb dX4_aboveBy_29 rfl (lv_at hl 2 rfl) ?_
    refine va_get (D := D) (ci := 3) (v := .ref a_row) (C := RX4) (T := TX4) (N := 3) hx hb hts iwX4 hown hK.1 hP 0 rfl rfl 0 (by decide) kf12 (fun _ h9 => h9) rfl dX4_aboveBy_30 ?_
    refine lv_iload_n hx hb dX4_aboveBy_33 rfl (lv_at hl 1 rfl) ?_
    refine lv_iconst (v := 1) hx hb dX4_aboveBy_34 (by decide) ?_
    refine lv_iadd hx hb dX4_aboveBy_35 ?_
    refine lv_iload hx hb dX4_aboveBy_36 (lv_at hl 0 rfl) ?_
    refine lv_iload_n hx hb dX4_aboveBy_38 rfl (lv_at hl 4 rfl) ?_
    refine lv_isub hx hb dX4_aboveBy_39 ?_
    refine z_ri [.int (r_1 + (1 : Int32)), .int (r_2 - p2)] [.ref a_row] ⟨hx, hb, hml, hown, hts⟩ (kX1_searchBack l D cA a_row a_row_gains a_row_lows a_row_highs f_row_low f_row_high f_row_places f_row_gains f_row_lows f_row_highs (r_1 + (1 : Int32)) (r_2 - p2) _ hw) (cwV 2 hts gX4_aboveBy_X1_searchBack rfl rfl rfl vX1_searchBack ⟨Nat.le_of_ble_eq_true rfl, Nat.le_of_ble_eq_true rfl⟩) hK (hP.sub [1, 2, 3, 4] rfl) (va_recv hK.1 (hP.sub (ws' := [(a_row, .inr (0, [.long f_row_low, .long f_row_high, .int f_row_places, .ref a_row_gains, .ref a_row_lows, .ref a_row_highs]))]) [1] rfl) (ci := 0) (q0 := 0) rfl rfl) rfl hl.1 rfl (Nat.le_of_ble_eq_true rfl) dX4_aboveBy_40 ⟨Nat.zero_le _, Nat.zero_le _⟩ (fun r_4 hw => ?_)
    refine z_ri [.int r_4] [] ⟨hx, hb, hml, hown, hts⟩ (kX1_opensAhead l D cA a_row a_row_gains a_row_lows a_row_highs f_row_low f_row_high f_row_places f_row_gains f_row_lows f_row_highs r_4 _ hw) (cwV 1 hts gX4_aboveBy_X1_opensAhead rfl rfl rfl vX1_opensAhead ⟨Nat.le_of_ble_eq_true rfl, Nat.le_of_ble_eq_true rfl⟩) hK (hP.sub [1, 2, 3, 4] rfl) (va_recv hK.1 (hP.sub (ws' := [(a_row, .inr (0, [.long f_row_low, .long f_row_high, .int f_row_places, .ref a_row_gains, .ref a_row_lows, .ref a_row_highs]))]) [1] rfl) (ci := 0) (q0 := 0) rfl rfl) rfl hl.1 rfl (Nat.le_of_ble_eq_true rfl) dX4_aboveBy_43 ⟨Nat.zero_le _, Nat.zero_le _⟩ (fun r_5 hw => ?_)
    exact z_iret hx hb hr hlk hw dX4_aboveBy_46
  · have hw := hw.2 c_3
    refine lv_bipush (v := -4) hx hb dX4_aboveBy_22 (by decide) ?_
    exact z_iret hx hb hr hlk hw dX4_aboveBy_24
def wX4_firstChildOf (f_row_low : Int64) (f_row_high : Int64) (f_row_places : Int32) (p1 : Int32) (post : Int32 → Prop) : Prop := (wX4_openOf f_row_low f_row_high f_row_places p1 (fun r_1 : Int32 => ((wX1_bitAt f_row_low f_row_high (r_1 + (1 : Int32)) (fun r_2 : Int32 => (((¬ r_2 = (1 : Int32) → post (-4 : Int32)) ∧ (r_2 = (1 : Int32) → post (p1 + (1 : Int32))))))))))
abbrev rX4_firstChildOf : Room := { frames := 4, cells := 0, slots := 0, locals := 95 }
theorem vX4_firstChildOf : yX4_firstChildOf.cls = RX4 ∧ yX4_firstChildOf.cls ≠ "java/lang/invoke/MethodHandle" ∧ yX4_firstChildOf.cls ≠ "java/lang/invoke/VarHandle" ∧ (parseMethodDescriptor yX4_firstChildOf.desc).map (fun d => d.parameters.length) = some 1 := by decide +kernel
set_option maxHeartbeats 4000000 in
set_option maxRecDepth 100000 in
theorem kX4_firstChildOf (l : Launch) (D : va_G) (cA : Nat → ClassId) (a0 a_row a_weights a_carried a_row_gains a_row_lows a_row_highs : Nat) (f_row_low : Int64) (f_row_high : Int64) (f_row_places : Int32) (f_row_gains : Nat → Int32) (f_row_lows : Nat → Int32) (f_row_highs : Nat → Int32) (f_weights : Nat → Int32) (f_carried : Nat → Int32) (p1 : Int32) (post : Int32 → Prop) (h : wX4_firstChildOf f_row_low f_row_high f_row_places p1 post) : Met l yX4_firstChildOf wsX4_firstChildOf rX4_firstChildOf (zPr D cA [.ref a0, .int p1] [(a0, .inr (3, [.ref a_row, .ref a_weights, .ref a_carried])), (a_row, .inr (0, [.long f_row_low, .long f_row_high, .int f_row_places, .ref a_row_gains, .ref a_row_lows, .ref a_row_highs])), (a_row_gains, .inl (cA 0, 8, .inl f_row_gains)), (a_row_lows, .inl (cA 0, 8, .inl f_row_lows)), (a_row_highs, .inl (cA 0, 8, .inl f_row_highs)), (a_weights, .inl (cA 0, 64, .inl f_weights)), (a_carried, .inl (cA 0, 64, .inl f_carried))]) (vp_Si post) 0 0 (fun _ => False) := by
  refine z_ro (cc := cX4_firstChildOf) (maxL := 2) (ret := (some .int)) (by decide) rfl (Nat.le_of_ble_eq_true rfl) ?_
  intro p e s m args below meth c ls hx hb hr hlk hml hown hts hK hP hl
  have hown : s.vm.findClass RX4 = some m.cls := hown
  have hl : lv_has ls 2 [(0, .ref a0), (1, .int p1)] := hl
  have hw := h
  unfold wX4_firstChildOf at hw
  have iwX4 : ∀ w ∈ wsX40, w ∈ wsX4_firstChildOf := fun w h9 => List.mem_cons_of_mem _ (List.mem_append_left _ (List.mem_append_right _ h9))
  have kf12 := hts (.fieldLink RX4 12 "ExcessTree$Tree" "row" "LExcessTree$Row;") (by decide +kernel)
  refine lv_aload_n hx hb dX4_firstChildOf_0 rfl (lv_at hl 0 rfl) ?_
  refine va_get (D := D) (ci := 3) (v := .ref a_row) (C := RX4) (T := TX4) (N := 3) hx hb hts iwX4 hown hK.1 hP 0 rfl rfl 0 (by decide) kf12 (fun _ h9 => h9) rfl dX4_firstChildOf_1 ?_
  refine lv_aload_n hx hb dX4_firstChildOf_4 rfl (lv_at hl 0 rfl) ?_
  refine lv_iload_n hx hb dX4_firstChildOf_5 rfl (lv_at hl 1 rfl) ?_
  refine z_ri [.int p1] [.ref a_row] ⟨hx, hb, hml, hown, hts⟩ (kX4_openOf l D cA a0 a_row a_weights a_carried a_row_gains a_row_lows a_row_highs f_row_low f_row_high f_row_places f_row_gains f_row_lows f_row_highs f_weights f_carried p1 _ hw) (cwV 1 hts gX4_firstChildOf_X4_openOf rfl rfl rfl vX4_openOf ⟨Nat.le_of_ble_eq_true rfl, Nat.le_of_ble_eq_true rfl⟩) hK (hP.sub [0, 1, 2, 3, 4, 5, 6] rfl) (va_recv hK.1 (hP.sub (ws' := [(a0, .inr (3, [.ref a_row, .ref a_weights, .ref a_carried]))]) [0] rfl) (ci := 3) (q0 := 0) rfl rfl) rfl hl.1 rfl (Nat.le_of_ble_eq_true rfl) dX4_firstChildOf_6 ⟨Nat.zero_le _, Nat.zero_le _⟩ (fun r_1 hw => ?_)
  refine lv_iconst (v := 1) hx hb dX4_firstChildOf_9 (by decide) ?_
  refine lv_iadd hx hb dX4_firstChildOf_10 ?_
  refine z_ri [.int (r_1 + (1 : Int32))] [] ⟨hx, hb, hml, hown, hts⟩ (kX1_bitAt l D cA a_row a_row_gains a_row_lows a_row_highs f_row_low f_row_high f_row_places f_row_gains f_row_lows f_row_highs (r_1 + (1 : Int32)) _ hw) (cwV 1 hts gX4_firstChildOf_X1_bitAt rfl rfl rfl vX1_bitAt ⟨Nat.le_of_ble_eq_true rfl, Nat.le_of_ble_eq_true rfl⟩) hK (hP.sub [1, 2, 3, 4] rfl) (va_recv hK.1 (hP.sub (ws' := [(a_row, .inr (0, [.long f_row_low, .long f_row_high, .int f_row_places, .ref a_row_gains, .ref a_row_lows, .ref a_row_highs]))]) [1] rfl) (ci := 0) (q0 := 0) rfl rfl) rfl hl.1 rfl (Nat.le_of_ble_eq_true rfl) dX4_firstChildOf_11 ⟨Nat.zero_le _, Nat.zero_le _⟩ (fun r_2 hw => ?_)
  refine lv_iconst (v := 1) hx hb dX4_firstChildOf_14 (by decide) ?_
  refine lv_icmp_ne (tgt := 24) hx hb dX4_firstChildOf_15 (by decide) (fun c_3 => ?_) (fun c_3 => ?_)
  · have hw := hw.1 c_3
    refine lv_bipush (v := -4) hx hb dX4_firstChildOf_24 (by decide) ?_
    exact z_iret hx hb hr hlk hw dX4_firstChildOf_26
  · have hw := hw.2 c_3
    refine lv_iload_n hx hb dX4_firstChildOf_18 rfl (lv_at hl 1 rfl) ?_
    refine lv_iconst (v := 1) hx hb dX4_firstChildOf_19 (by decide) ?_
    refine lv_iadd hx hb dX4_firstChildOf_20 ?_
    refine lv_goto (tgt := 26) hx hb dX4_firstChildOf_21 (by decide) ?_
    exact z_iret hx hb hr hlk hw dX4_firstChildOf_26
def wX4_lastChildOf (f_row_low : Int64) (f_row_high : Int64) (f_row_places : Int32) (f_row_gains : Nat → Int32) (f_row_lows : Nat → Int32) (f_row_highs : Nat → Int32) (p1 : Int32) (post : Int32 → Prop) : Prop := (wX4_closeOf f_row_low f_row_high f_row_places f_row_gains f_row_lows f_row_highs p1 (fun r_1 : Int32 => ((∀ x_2 : Int32, x_2 = (r_1 - (1 : Int32)) → (wX1_bitAt f_row_low f_row_high x_2 (fun r_3 : Int32 => (((¬ r_3 = 0 → post (-4 : Int32)) ∧ (r_3 = 0 → (wX4_nodeWithPlace f_row_low f_row_high f_row_places f_row_gains f_row_lows f_row_highs x_2 (fun r_5 : Int32 => (post r_5))))))))))))
abbrev rX4_lastChildOf : Room := { frames := 5, cells := 0, slots := 0, locals := 116 }
theorem vX4_lastChildOf : yX4_lastChildOf.cls = RX4 ∧ yX4_lastChildOf.cls ≠ "java/lang/invoke/MethodHandle" ∧ yX4_lastChildOf.cls ≠ "java/lang/invoke/VarHandle" ∧ (parseMethodDescriptor yX4_lastChildOf.desc).map (fun d => d.parameters.length) = some 1 := by decide +kernel
set_option maxHeartbeats 4000000 in
set_option maxRecDepth 100000 in
theorem kX4_lastChildOf (l : Launch) (D : va_G) (cA : Nat → ClassId) (a0 a_row a_weights a_carried a_row_gains a_row_lows a_row_highs : Nat) (f_row_low : Int64) (f_row_high : Int64) (f_row_places : Int32) (f_row_gains : Nat → Int32) (f_row_lows : Nat → Int32) (f_row_highs : Nat → Int32) (f_weights : Nat → Int32) (f_carried : Nat → Int32) (p1 : Int32) (post : Int32 → Prop) (h : wX4_lastChildOf f_row_low f_row_high f_row_places f_row_gains f_row_lows f_row_highs p1 post) : Met l yX4_lastChildOf wsX4_lastChildOf rX4_lastChildOf (zPr D cA [.ref a0, .int p1] [(a0, .inr (3, [.ref a_row, .ref a_weights, .ref a_carried])), (a_row, .inr (0, [.long f_row_low, .long f_row_high, .int f_row_places, .ref a_row_gains, .ref a_row_lows, .ref a_row_highs])), (a_row_gains, .inl (cA 0, 8, .inl f_row_gains)), (a_row_lows, .inl (cA 0, 8, .inl f_row_lows)), (a_row_highs, .inl (cA 0, 8, .inl f_row_highs)), (a_weights, .inl (cA 0, 64, .inl f_weights)), (a_carried, .inl (cA 0, 64, .inl f_carried))]) (vp_Si post) 0 0 (fun _ => False) := by
  refine z_ro (cc := cX4_lastChildOf) (maxL := 3) (ret := (some .int)) (by decide) rfl (Nat.le_of_ble_eq_true rfl) ?_
  intro p e s m args below meth c ls hx hb hr hlk hml hown hts hK hP hl
  have hown : s.vm.findClass RX4 = some m.cls := hown
  have hl : lv_has ls 3 [(0, .ref a0), (1, .int p1)] := hl
  have hw := h
  unfold wX4_lastChildOf at hw
  have iwX4 : ∀ w ∈ wsX40, w ∈ wsX4_lastChildOf := fun w h9 => List.mem_cons_of_mem _ (List.mem_append_left _ (List.mem_append_right _ h9))
  have kf12 := hts (.fieldLink RX4 12 "ExcessTree$Tree" "row" "LExcessTree$Row;") (by decide +kernel)
  refine lv_aload_n hx hb dX4_lastChildOf_0 rfl (lv_at hl 0 rfl) ?_
  refine lv_iload_n hx hb dX4_lastChildOf_1 rfl (lv_at hl 1 rfl) ?_
  refine z_ri [.int p1] [] ⟨hx, hb, hml, hown, hts⟩ (kX4_closeOf l D cA a0 a_row a_weights a_carried a_row_gains a_row_lows a_row_highs f_row_low f_row_high f_row_places f_row_gains f_row_lows f_row_highs f_weights f_carried p1 _ hw) (cwV 1 hts gX4_lastChildOf_X4_closeOf rfl rfl rfl vX4_closeOf ⟨Nat.le_of_ble_eq_true rfl, Nat.le_of_ble_eq_true rfl⟩) hK (hP.sub [0, 1, 2, 3, 4, 5, 6] rfl) (va_recv hK.1 (hP.sub (ws' := [(a0, .inr (3, [.ref a_row, .ref a_weights, .ref a_carried]))]) [0] rfl) (ci := 3) (q0 := 0) rfl rfl) rfl hl.1 rfl (Nat.le_of_ble_eq_true rfl) dX4_lastChildOf_2 ⟨Nat.zero_le _, Nat.zero_le _⟩ (fun r_1 hw => ?_)
  refine lv_iconst (v := 1) hx hb dX4_lastChildOf_5 (by decide) ?_
  refine lv_isub hx hb dX4_lastChildOf_6 ?_
  refine lv_topi (fun x_2 ex_2 => ?_)
  have hw := hw x_2 ex_2
  refine lv_istore_n (lv' := [(2, .int x_2), (0, .ref a0), (1, .int p1)]) hx hb dX4_lastChildOf_7 rfl hl (by decide) rfl (fun ls hl => ?_)
  refine lv_aload_n hx hb dX4_lastChildOf_8 rfl (lv_at hl 1 rfl) ?_
  refine va_get (D := D) (ci := 3) (v := .ref a_row) (C := RX4) (T := TX4) (N := 3) hx hb hts iwX4 hown hK.1 hP 0 rfl rfl 0 (by decide) kf12 (fun _ h9 => h9) rfl dX4_lastChildOf_9 ?_
  refine lv_iload_n hx hb dX4_lastChildOf_12 rfl (lv_at hl 0 rfl) ?_
  refine z_ri [.int x_2] [] ⟨hx, hb, hml, hown, hts⟩ (kX1_bitAt l D cA a_row a_row_gains a_row_lows a_row_highs f_row_low f_row_high f_row_places f_row_gains f_row_lows f_row_highs x_2 _ hw) (cwV 1 hts gX4_lastChildOf_X1_bitAt rfl rfl rfl vX1_bitAt ⟨Nat.le_of_ble_eq_true rfl, Nat.le_of_ble_eq_true rfl⟩) hK (hP.sub [1, 2, 3, 4] rfl) (va_recv hK.1 (hP.sub (ws' := [(a_row, .inr (0, [.long f_row_low, .long f_row_high, .int f_row_places, .ref a_row_gains, .ref a_row_lows, .ref a_row_highs]))]) [1] rfl) (ci := 0) (q0 := 0) rfl rfl) rfl hl.1 rfl (Nat.le_of_ble_eq_true rfl) dX4_lastChildOf_13 ⟨Nat.zero_le _, Nat.zero_le _⟩ (fun r_3 hw => ?_)
  refine lv_if_ne (tgt := 27) hx hb dX4_lastChildOf_16 (by decide) (fun c_4 => ?_) (fun c_4 => ?_)
  · have hw := hw.1 c_4
    refine lv_bipush (v := -4) hx hb dX4_lastChildOf_27 (by decide) ?_
    exact z_iret hx hb hr hlk hw dX4_lastChildOf_29
  · have hw := hw.2 c_4
    refine lv_aload_n hx hb dX4_lastChildOf_19 rfl (lv_at hl 1 rfl) ?_
    refine lv_iload_n hx hb dX4_lastChildOf_20 rfl (lv_at hl 0 rfl) ?_
    refine z_ri [.int x_2] [] ⟨hx, hb, hml, hown, hts⟩ (kX4_nodeWithPlace l D cA a0 a_row a_weights a_carried a_row_gains a_row_lows a_row_highs f_row_low f_row_high f_row_places f_row_gains f_row_lows f_row_highs f_weights f_carried x_2 _ hw) (cwV 1 hts gX4_lastChildOf_X4_nodeWithPlace rfl rfl rfl vX4_nodeWithPlace ⟨Nat.le_of_ble_eq_true rfl, Nat.le_of_ble_eq_true rfl⟩) hK (hP.sub [0, 1, 2, 3, 4, 5, 6] rfl) (va_recv hK.1 (hP.sub (ws' := [(a0, .inr (3, [.ref a_row, .ref a_weights, .ref a_carried]))]) [0] rfl) (ci := 3) (q0 := 0) rfl rfl) rfl hl.1 rfl (Nat.le_of_ble_eq_true rfl) dX4_lastChildOf_21 ⟨Nat.zero_le _, Nat.zero_le _⟩ (fun r_5 hw => ?_)
    refine lv_goto (tgt := 29) hx hb dX4_lastChildOf_24 (by decide) ?_
    exact z_iret hx hb hr hlk hw dX4_lastChildOf_29
def wX4_nextChildAfter (f_row_low : Int64) (f_row_high : Int64) (f_row_places : Int32) (f_row_gains : Nat → Int32) (f_row_lows : Nat → Int32) (f_row_highs : Nat → Int32) (p1 : Int32) (post : Int32 → Prop) : Prop := (wX4_closeOf f_row_low f_row_high f_row_places f_row_gains f_row_lows f_row_highs p1 (fun r_1 : Int32 => ((∀ x_2 : Int32, x_2 = (r_1 + (1 : Int32)) → ((f_row_places ≤ x_2 → post (-4 : Int32)) ∧ (¬ f_row_places ≤ x_2 → (wX1_bitAt f_row_low f_row_high x_2 (fun r_4 : Int32 => (((¬ r_4 = (1 : Int32) → post (-4 : Int32)) ∧ (r_4 = (1 : Int32) → (wX4_nodeWithPlace f_row_low f_row_high f_row_places f_row_gains f_row_lows f_row_highs x_2 (fun r_6 : Int32 => (post r_6))))))))))))))
abbrev rX4_nextChildAfter : Room := { frames := 5, cells := 0, slots := 0, locals := 116 }
theorem vX4_nextChildAfter : yX4_nextChildAfter.cls = RX4 ∧ yX4_nextChildAfter.cls ≠ "java/lang/invoke/MethodHandle" ∧ yX4_nextChildAfter.cls ≠ "java/lang/invoke/VarHandle" ∧ (parseMethodDescriptor yX4_nextChildAfter.desc).map (fun d => d.parameters.length) = some 1 := by decide +kernel
set_option maxHeartbeats 4000000 in
set_option maxRecDepth 100000 in
theorem kX4_nextChildAfter (l : Launch) (D : va_G) (cA : Nat → ClassId) (a0 a_row a_weights a_carried a_row_gains a_row_lows a_row_highs : Nat) (f_row_low : Int64) (f_row_high : Int64) (f_row_places : Int32) (f_row_gains : Nat → Int32) (f_row_lows : Nat → Int32) (f_row_highs : Nat → Int32) (f_weights : Nat → Int32) (f_carried : Nat → Int32) (p1 : Int32) (post : Int32 → Prop) (h : wX4_nextChildAfter f_row_low f_row_high f_row_places f_row_gains f_row_lows f_row_highs p1 post) : Met l yX4_nextChildAfter wsX4_nextChildAfter rX4_nextChildAfter (zPr D cA [.ref a0, .int p1] [(a0, .inr (3, [.ref a_row, .ref a_weights, .ref a_carried])), (a_row, .inr (0, [.long f_row_low, .long f_row_high, .int f_row_places, .ref a_row_gains, .ref a_row_lows, .ref a_row_highs])), (a_row_gains, .inl (cA 0, 8, .inl f_row_gains)), (a_row_lows, .inl (cA 0, 8, .inl f_row_lows)), (a_row_highs, .inl (cA 0, 8, .inl f_row_highs)), (a_weights, .inl (cA 0, 64, .inl f_weights)), (a_carried, .inl (cA 0, 64, .inl f_carried))]) (vp_Si post) 0 0 (fun _ => False) := by
  refine z_ro (cc := cX4_nextChildAfter) (maxL := 3) (ret := (some .int)) (by decide) rfl (Nat.le_of_ble_eq_true rfl) ?_
  intro p e s m args below meth c ls hx hb hr hlk hml hown hts hK hP hl
  have hown : s.vm.findClass RX4 = some m.cls := hown
  have hl : lv_has ls 3 [(0, .ref a0), (1, .int p1)] := hl
  have hw := h
  unfold wX4_nextChildAfter at hw
  have iwX4 : ∀ w ∈ wsX40, w ∈ wsX4_nextChildAfter := fun w h9 => List.mem_cons_of_mem _ (List.mem_append_left _ (List.mem_append_right _ h9))
  have kf12 := hts (.fieldLink RX4 12 "ExcessTree$Tree" "row" "LExcessTree$Row;") (by decide +kernel)
  have iwX1 : ∀ w ∈ wsX10, w ∈ wsX4_nextChildAfter := fun w h9 => List.mem_cons_of_mem _ (List.mem_append_right _ h9)
  have kn25 := hK.nest (A := args) 0 rfl
  refine lv_aload_n hx hb dX4_nextChildAfter_0 rfl (lv_at hl 0 rfl) ?_
  refine lv_iload_n hx hb dX4_nextChildAfter_1 rfl (lv_at hl 1 rfl) ?_
  refine z_ri [.int p1] [] ⟨hx, hb, hml, hown, hts⟩ (kX4_closeOf l D cA a0 a_row a_weights a_carried a_row_gains a_row_lows a_row_highs f_row_low f_row_high f_row_places f_row_gains f_row_lows f_row_highs f_weights f_carried p1 _ hw) (cwV 1 hts gX4_nextChildAfter_X4_closeOf rfl rfl rfl vX4_closeOf ⟨Nat.le_of_ble_eq_true rfl, Nat.le_of_ble_eq_true rfl⟩) hK (hP.sub [0, 1, 2, 3, 4, 5, 6] rfl) (va_recv hK.1 (hP.sub (ws' := [(a0, .inr (3, [.ref a_row, .ref a_weights, .ref a_carried]))]) [0] rfl) (ci := 3) (q0 := 0) rfl rfl) rfl hl.1 rfl (Nat.le_of_ble_eq_true rfl) dX4_nextChildAfter_2 ⟨Nat.zero_le _, Nat.zero_le _⟩ (fun r_1 hw => ?_)
  refine lv_iconst (v := 1) hx hb dX4_nextChildAfter_5 (by decide) ?_
  refine lv_iadd hx hb dX4_nextChildAfter_6 ?_
  refine lv_topi (fun x_2 ex_2 => ?_)
  have hw := hw x_2 ex_2
  refine lv_istore_n (lv' := [(2, .int x_2), (0, .ref a0), (1, .int p1)]) hx hb dX4_nextChildAfter_7 rfl hl (by decide) rfl (fun ls hl => ?_)
  refine lv_iload_n hx hb dX4_nextChildAfter_8 rfl (lv_at hl 0 rfl) ?_
  refine lv_aload_n hx hb dX4_nextChildAfter_9 rfl (lv_at hl 1 rfl) ?_
  refine va_get (D := D) (ci := 3) (v := .ref a_row) (C := RX4) (T := TX4) (N := 3) hx hb hts iwX4 hown hK.1 hP 0 rfl rfl 0 (by decide) kf12 (fun _ h9 => h9) rfl dX4_nextChildAfter_10 ?_
  refine va_getN (own := RX4) (index := 25) (ref := "ExcessTree$Row") (host := "ExcessTree") (D := D) (ci := 0) (v := .int f_row_places) (C := RX1) (T := TX1) (N := 6) hx hb hts iwX1 hown hK.1 hP 1 rfl rfl 2 (by decide) kn25 (fun _ h9 => h9) rfl dX4_nextChildAfter_13 ?_
  refine lv_icmp_ge (tgt := 39) hx hb dX4_nextChildAfter_16 (by decide) (fun c_3 => ?_) (fun c_3 => ?_)
  · have hw := hw.1 c_3
    refine lv_bipush (v := -4) hx hb dX4_nextChildAfter_39 (by decide) ?_
    exact z_iret hx hb hr hlk hw dX4_nextChildAfter_41
  · have hw := hw.2 c_3
    refine lv_aload_n hx hb dX4_nextChildAfter_19 rfl (lv_at hl 1 rfl) ?_
    refine va_get (D := D) (ci := 3) (v := .ref a_row) (C := RX4) (T := TX4) (N := 3) hx hb hts iwX4 hown hK.1 hP 0 rfl rfl 0 (by decide) kf12 (fun _ h9 => h9) rfl dX4_nextChildAfter_20 ?_
    refine lv_iload_n hx hb dX4_nextChildAfter_23 rfl (lv_at hl 0 rfl) ?_
    refine z_ri [.int x_2] [] ⟨hx, hb, hml, hown, hts⟩ (kX1_bitAt l D cA a_row a_row_gains a_row_lows a_row_highs f_row_low f_row_high f_row_places f_row_gains f_row_lows f_row_highs x_2 _ hw) (cwV 1 hts gX4_nextChildAfter_X1_bitAt rfl rfl rfl vX1_bitAt ⟨Nat.le_of_ble_eq_true rfl, Nat.le_of_ble_eq_true rfl⟩) hK (hP.sub [1, 2, 3, 4] rfl) (va_recv hK.1 (hP.sub (ws' := [(a_row, .inr (0, [.long f_row_low, .long f_row_high, .int f_row_places, .ref a_row_gains, .ref a_row_lows, .ref a_row_highs]))]) [1] rfl) (ci := 0) (q0 := 0) rfl rfl) rfl hl.1 rfl (Nat.le_of_ble_eq_true rfl) dX4_nextChildAfter_24 ⟨Nat.zero_le _, Nat.zero_le _⟩ (fun r_4 hw => ?_)
    refine lv_iconst (v := 1) hx hb dX4_nextChildAfter_27 (by decide) ?_
    refine lv_icmp_ne (tgt := 39) hx hb dX4_nextChildAfter_28 (by decide) (fun c_5 => ?_) (fun c_5 => ?_)
    · have hw := hw.1 c_5
      refine lv_bipush (v := -4) hx hb dX4_nextChildAfter_39 (by decide) ?_
      exact z_iret hx hb hr hlk hw dX4_nextChildAfter_41
    · have hw := hw.2 c_5
      refine lv_aload_n hx hb dX4_nextChildAfter_31 rfl (lv_at hl 1 rfl) ?_
      refine lv_iload_n hx hb dX4_nextChildAfter_32 rfl (lv_at hl 0 rfl) ?_
      refine z_ri [.int x_2] [] ⟨hx, hb, hml, hown, hts⟩ (kX4_nodeWithPlace l D cA a0 a_row a_weights a_carried a_row_gains a_row_lows a_row_highs f_row_low f_row_high f_row_places f_row_gains f_row_lows f_row_highs f_weights f_carried x_2 _ hw) (cwV 1 hts gX4_nextChildAfter_X4_nodeWithPlace rfl rfl rfl vX4_nodeWithPlace ⟨Nat.le_of_ble_eq_true rfl, Nat.le_of_ble_eq_true rfl⟩) hK (hP.sub [0, 1, 2, 3, 4, 5, 6] rfl) (va_recv hK.1 (hP.sub (ws' := [(a0, .inr (3, [.ref a_row, .ref a_weights, .ref a_carried]))]) [0] rfl) (ci := 3) (q0 := 0) rfl rfl) rfl hl.1 rfl (Nat.le_of_ble_eq_true rfl) dX4_nextChildAfter_33 ⟨Nat.zero_le _, Nat.zero_le _⟩ (fun r_6 hw => ?_)
      refine lv_goto (tgt := 41) hx hb dX4_nextChildAfter_36 (by decide) ?_
      exact z_iret hx hb hr hlk hw dX4_nextChildAfter_41
def wX4_childBefore (f_row_low : Int64) (f_row_high : Int64) (f_row_places : Int32) (f_row_gains : Nat → Int32) (f_row_lows : Nat → Int32) (f_row_highs : Nat → Int32) (p1 : Int32) (post : Int32 → Prop) : Prop := (wX4_openOf f_row_low f_row_high f_row_places p1 (fun r_1 : Int32 => ((∀ x_2 : Int32, x_2 = (r_1 - (1 : Int32)) → ((x_2 < 0 → post (-4 : Int32)) ∧ (¬ x_2 < 0 → (wX1_bitAt f_row_low f_row_high x_2 (fun r_4 : Int32 => (((¬ r_4 = 0 → post (-4 : Int32)) ∧ (r_4 = 0 → (wX4_nodeWithPlace f_row_low f_row_high f_row_places f_row_gains f_row_lows f_row_highs x_2 (fun r_6 : Int32 => (post r_6))))))))))))))
abbrev rX4_childBefore : Room := { frames := 5, cells := 0, slots := 0, locals := 108 }
theorem vX4_childBefore : yX4_childBefore.cls = RX4 ∧ yX4_childBefore.cls ≠ "java/lang/invoke/MethodHandle" ∧ yX4_childBefore.cls ≠ "java/lang/invoke/VarHandle" ∧ (parseMethodDescriptor yX4_childBefore.desc).map (fun d => d.parameters.length) = some 1 := by decide +kernel
set_option maxHeartbeats 4000000 in
set_option maxRecDepth 100000 in
theorem kX4_childBefore (l : Launch) (D : va_G) (cA : Nat → ClassId) (a0 a_row a_weights a_carried a_row_gains a_row_lows a_row_highs : Nat) (f_row_low : Int64) (f_row_high : Int64) (f_row_places : Int32) (f_row_gains : Nat → Int32) (f_row_lows : Nat → Int32) (f_row_highs : Nat → Int32) (f_weights : Nat → Int32) (f_carried : Nat → Int32) (p1 : Int32) (post : Int32 → Prop) (h : wX4_childBefore f_row_low f_row_high f_row_places f_row_gains f_row_lows f_row_highs p1 post) : Met l yX4_childBefore wsX4_childBefore rX4_childBefore (zPr D cA [.ref a0, .int p1] [(a0, .inr (3, [.ref a_row, .ref a_weights, .ref a_carried])), (a_row, .inr (0, [.long f_row_low, .long f_row_high, .int f_row_places, .ref a_row_gains, .ref a_row_lows, .ref a_row_highs])), (a_row_gains, .inl (cA 0, 8, .inl f_row_gains)), (a_row_lows, .inl (cA 0, 8, .inl f_row_lows)), (a_row_highs, .inl (cA 0, 8, .inl f_row_highs)), (a_weights, .inl (cA 0, 64, .inl f_weights)), (a_carried, .inl (cA 0, 64, .inl f_carried))]) (vp_Si post) 0 0 (fun _ => False) := by
  refine z_ro (cc := cX4_childBefore) (maxL := 3) (ret := (some .int)) (by decide) rfl (Nat.le_of_ble_eq_true rfl) ?_
  intro p e s m args below meth c ls hx hb hr hlk hml hown hts hK hP hl
  have hown : s.vm.findClass RX4 = some m.cls := hown
  have hl : lv_has ls 3 [(0, .ref a0), (1, .int p1)] := hl
  have hw := h
  unfold wX4_childBefore at hw
  have iwX4 : ∀ w ∈ wsX40, w ∈ wsX4_childBefore := fun w h9 => List.mem_cons_of_mem _ (List.mem_append_left _ (List.mem_append_right _ h9))
  have kf12 := hts (.fieldLink RX4 12 "ExcessTree$Tree" "row" "LExcessTree$Row;") (by decide +kernel)
  refine lv_aload_n hx hb dX4_childBefore_0 rfl (lv_at hl 0 rfl) ?_
  refine lv_iload_n hx hb dX4_childBefore_1 rfl (lv_at hl 1 rfl) ?_
  refine z_ri [.int p1] [] ⟨hx, hb, hml, hown, hts⟩ (kX4_openOf l D cA a0 a_row a_weights a_carried a_row_gains a_row_lows a_row_highs f_row_low f_row_high f_row_places f_row_gains f_row_lows f_row_highs f_weights f_carried p1 _ hw) (cwV 1 hts gX4_childBefore_X4_openOf rfl rfl rfl vX4_openOf ⟨Nat.le_of_ble_eq_true rfl, Nat.le_of_ble_eq_true rfl⟩) hK (hP.sub [0, 1, 2, 3, 4, 5, 6] rfl) (va_recv hK.1 (hP.sub (ws' := [(a0, .inr (3, [.ref a_row, .ref a_weights, .ref a_carried]))]) [0] rfl) (ci := 3) (q0 := 0) rfl rfl) rfl hl.1 rfl (Nat.le_of_ble_eq_true rfl) dX4_childBefore_2 ⟨Nat.zero_le _, Nat.zero_le _⟩ (fun r_1 hw => ?_)
  refine lv_iconst (v := 1) hx hb dX4_childBefore_5 (by decide) ?_
  refine lv_isub hx hb dX4_childBefore_6 ?_
  refine lv_topi (fun x_2 ex_2 => ?_)
  have hw := hw x_2 ex_2
  refine lv_istore_n (lv' := [(2, .int x_2), (0, .ref a0), (1, .int p1)]) hx hb dX4_childBefore_7 rfl hl (by decide) rfl (fun ls hl => ?_)
  refine lv_iload_n hx hb dX4_childBefore_8 rfl (lv_at hl 0 rfl) ?_
  refine lv_if_lt (tgt := 31) hx hb dX4_childBefore_9 (by decide) (fun c_3 => ?_) (fun c_3 => ?_)
  · have hw := hw.1 c_3
    refine lv_bipush (v := -4) hx hb dX4_childBefore_31 (by decide) ?_
    exact z_iret hx hb hr hlk hw dX4_childBefore_33
  · have hw := hw.2 c_3
    refine lv_aload_n hx hb dX4_childBefore_12 rfl (lv_at hl 1 rfl) ?_
    refine va_get (D := D) (ci := 3) (v := .ref a_row) (C := RX4) (T := TX4) (N := 3) hx hb hts iwX4 hown hK.1 hP 0 rfl rfl 0 (by decide) kf12 (fun _ h9 => h9) rfl dX4_childBefore_13 ?_
    refine lv_iload_n hx hb dX4_childBefore_16 rfl (lv_at hl 0 rfl) ?_
    refine z_ri [.int x_2] [] ⟨hx, hb, hml, hown, hts⟩ (kX1_bitAt l D cA a_row a_row_gains a_row_lows a_row_highs f_row_low f_row_high f_row_places f_row_gains f_row_lows f_row_highs x_2 _ hw) (cwV 1 hts gX4_childBefore_X1_bitAt rfl rfl rfl vX1_bitAt ⟨Nat.le_of_ble_eq_true rfl, Nat.le_of_ble_eq_true rfl⟩) hK (hP.sub [1, 2, 3, 4] rfl) (va_recv hK.1 (hP.sub (ws' := [(a_row, .inr (0, [.long f_row_low, .long f_row_high, .int f_row_places, .ref a_row_gains, .ref a_row_lows, .ref a_row_highs]))]) [1] rfl) (ci := 0) (q0 := 0) rfl rfl) rfl hl.1 rfl (Nat.le_of_ble_eq_true rfl) dX4_childBefore_17 ⟨Nat.zero_le _, Nat.zero_le _⟩ (fun r_4 hw => ?_)
    refine lv_if_ne (tgt := 31) hx hb dX4_childBefore_20 (by decide) (fun c_5 => ?_) (fun c_5 => ?_)
    · have hw := hw.1 c_5
      refine lv_bipush (v := -4) hx hb dX4_childBefore_31 (by decide) ?_
      exact z_iret hx hb hr hlk hw dX4_childBefore_33
    · have hw := hw.2 c_5
      refine lv_aload_n hx hb dX4_childBefore_23 rfl (lv_at hl 1 rfl) ?_
      refine lv_iload_n hx hb dX4_childBefore_24 rfl (lv_at hl 0 rfl) ?_
      refine z_ri [.int x_2] [] ⟨hx, hb, hml, hown, hts⟩ (kX4_nodeWithPlace l D cA a0 a_row a_weights a_carried a_row_gains a_row_lows a_row_highs f_row_low f_row_high f_row_places f_row_gains f_row_lows f_row_highs f_weights f_carried x_2 _ hw) (cwV 1 hts gX4_childBefore_X4_nodeWithPlace rfl rfl rfl vX4_nodeWithPlace ⟨Nat.le_of_ble_eq_true rfl, Nat.le_of_ble_eq_true rfl⟩) hK (hP.sub [0, 1, 2, 3, 4, 5, 6] rfl) (va_recv hK.1 (hP.sub (ws' := [(a0, .inr (3, [.ref a_row, .ref a_weights, .ref a_carried]))]) [0] rfl) (ci := 3) (q0 := 0) rfl rfl) rfl hl.1 rfl (Nat.le_of_ble_eq_true rfl) dX4_childBefore_25 ⟨Nat.zero_le _, Nat.zero_le _⟩ (fun r_6 hw => ?_)
      refine lv_goto (tgt := 33) hx hb dX4_childBefore_28 (by decide) ?_
      exact z_iret hx hb hr hlk hw dX4_childBefore_33
def wX4_childrenOf (f_row_low : Int64) (f_row_high : Int64) (f_row_places : Int32) (f_row_gains : Nat → Int32) (f_row_lows : Nat → Int32) (f_row_highs : Nat → Int32) (p1 : Int32) (post : Int32 → Prop) : Prop := (wX4_openOf f_row_low f_row_high f_row_places p1 (fun r_1 : Int32 => ((wX1_partnerOf f_row_low f_row_high f_row_places f_row_gains f_row_lows f_row_highs r_1 (fun r_2 : Int32 => ((wX1_excessAt f_row_low f_row_high r_1 (fun r_3 : Int32 => ((wX1_pointsWith f_row_low f_row_high (r_1 + (1 : Int32)) r_2 (r_3 + (1 : Int32)) (fun r_4 : Int32 => (post (r_4 - (1 : Int32))))))))))))))
abbrev rX4_childrenOf : Room := { frames := 4, cells := 0, slots := 0, locals := 95 }
theorem vX4_childrenOf : yX4_childrenOf.cls = RX4 ∧ yX4_childrenOf.cls ≠ "java/lang/invoke/MethodHandle" ∧ yX4_childrenOf.cls ≠ "java/lang/invoke/VarHandle" ∧ (parseMethodDescriptor yX4_childrenOf.desc).map (fun d => d.parameters.length) = some 1 := by decide +kernel
set_option maxHeartbeats 4000000 in
set_option maxRecDepth 100000 in
theorem kX4_childrenOf (l : Launch) (D : va_G) (cA : Nat → ClassId) (a0 a_row a_weights a_carried a_row_gains a_row_lows a_row_highs : Nat) (f_row_low : Int64) (f_row_high : Int64) (f_row_places : Int32) (f_row_gains : Nat → Int32) (f_row_lows : Nat → Int32) (f_row_highs : Nat → Int32) (f_weights : Nat → Int32) (f_carried : Nat → Int32) (p1 : Int32) (post : Int32 → Prop) (h : wX4_childrenOf f_row_low f_row_high f_row_places f_row_gains f_row_lows f_row_highs p1 post) : Met l yX4_childrenOf wsX4_childrenOf rX4_childrenOf (zPr D cA [.ref a0, .int p1] [(a0, .inr (3, [.ref a_row, .ref a_weights, .ref a_carried])), (a_row, .inr (0, [.long f_row_low, .long f_row_high, .int f_row_places, .ref a_row_gains, .ref a_row_lows, .ref a_row_highs])), (a_row_gains, .inl (cA 0, 8, .inl f_row_gains)), (a_row_lows, .inl (cA 0, 8, .inl f_row_lows)), (a_row_highs, .inl (cA 0, 8, .inl f_row_highs)), (a_weights, .inl (cA 0, 64, .inl f_weights)), (a_carried, .inl (cA 0, 64, .inl f_carried))]) (vp_Si post) 0 0 (fun _ => False) := by
  refine z_ro (cc := cX4_childrenOf) (maxL := 3) (ret := (some .int)) (by decide) rfl (Nat.le_of_ble_eq_true rfl) ?_
  intro p e s m args below meth c ls hx hb hr hlk hml hown hts hK hP hl
  have hown : s.vm.findClass RX4 = some m.cls := hown
  have hl : lv_has ls 3 [(0, .ref a0), (1, .int p1)] := hl
  have hw := h
  unfold wX4_childrenOf at hw
  have iwX4 : ∀ w ∈ wsX40, w ∈ wsX4_childrenOf := fun w h9 => List.mem_cons_of_mem _ (List.mem_append_left _ (List.mem_append_right _ h9))
  have kf12 := hts (.fieldLink RX4 12 "ExcessTree$Tree" "row" "LExcessTree$Row;") (by decide +kernel)
  refine lv_aload_n hx hb dX4_childrenOf_0 rfl (lv_at hl 0 rfl) ?_
  refine lv_iload_n hx hb dX4_childrenOf_1 rfl (lv_at hl 1 rfl) ?_
  refine z_ri [.int p1] [] ⟨hx, hb, hml, hown, hts⟩ (kX4_openOf l D cA a0 a_row a_weights a_carried a_row_gains a_row_lows a_row_highs f_row_low f_row_high f_row_places f_row_gains f_row_lows f_row_highs f_weights f_carried p1 _ hw) (cwV 1 hts gX4_childrenOf_X4_openOf rfl rfl rfl vX4_openOf ⟨Nat.le_of_ble_eq_true rfl, Nat.le_of_ble_eq_true rfl⟩) hK (hP.sub [0, 1, 2, 3, 4, 5, 6] rfl) (va_recv hK.1 (hP.sub (ws' := [(a0, .inr (3, [.ref a_row, .ref a_weights, .ref a_carried]))]) [0] rfl) (ci := 3) (q0 := 0) rfl rfl) rfl hl.1 rfl (Nat.le_of_ble_eq_true rfl) dX4_childrenOf_2 ⟨Nat.zero_le _, Nat.zero_le _⟩ (fun r_1 hw => ?_)
  refine lv_istore_n (lv' := [(2, .int r_1), (0, .ref a0), (1, .int p1)]) hx hb dX4_childrenOf_5 rfl hl (by decide) rfl (fun ls hl => ?_)
  refine lv_aload_n hx hb dX4_childrenOf_6 rfl (lv_at hl 1 rfl) ?_
  refine va_get (D := D) (ci := 3) (v := .ref a_row) (C := RX4) (T := TX4) (N := 3) hx hb hts iwX4 hown hK.1 hP 0 rfl rfl 0 (by decide) kf12 (fun _ h9 => h9) rfl dX4_childrenOf_7 ?_
  refine lv_iload_n hx hb dX4_childrenOf_10 rfl (lv_at hl 0 rfl) ?_
  refine lv_iconst (v := 1) hx hb dX4_childrenOf_11 (by decide) ?_
  refine lv_iadd hx hb dX4_childrenOf_12 ?_
  refine lv_aload_n hx hb dX4_childrenOf_13 rfl (lv_at hl 1 rfl) ?_
  refine va_get (D := D) (ci := 3) (v := .ref a_row) (C := RX4) (T := TX4) (N := 3) hx hb hts iwX4 hown hK.1 hP 0 rfl rfl 0 (by decide) kf12 (fun _ h9 => h9) rfl dX4_childrenOf_14 ?_
  refine lv_iload_n hx hb dX4_childrenOf_17 rfl (lv_at hl 0 rfl) ?_
  refine z_ri [.int r_1] [.int (r_1 + (1 : Int32)), .ref a_row] ⟨hx, hb, hml, hown, hts⟩ (kX1_partnerOf l D cA a_row a_row_gains a_row_lows a_row_highs f_row_low f_row_high f_row_places f_row_gains f_row_lows f_row_highs r_1 _ hw) (cwV 1 hts gX4_childrenOf_X1_partnerOf rfl rfl rfl vX1_partnerOf ⟨Nat.le_of_ble_eq_true rfl, Nat.le_of_ble_eq_true rfl⟩) hK (hP.sub [1, 2, 3, 4] rfl) (va_recv hK.1 (hP.sub (ws' := [(a_row, .inr (0, [.long f_row_low, .long f_row_high, .int f_row_places, .ref a_row_gains, .ref a_row_lows, .ref a_row_highs]))]) [1] rfl) (ci := 0) (q0 := 0) rfl rfl) rfl hl.1 rfl (Nat.le_of_ble_eq_true rfl) dX4_childrenOf_18 ⟨Nat.zero_le _, Nat.zero_le _⟩ (fun r_2 hw => ?_)
  refine lv_aload_n hx hb dX4_childrenOf_21 rfl (lv_at hl 1 rfl) ?_
  refine va_get (D := D) (ci := 3) (v := .ref a_row) (C := RX4) (T := TX4) (N := 3) hx hb hts iwX4 hown hK.1 hP 0 rfl rfl 0 (by decide) kf12 (fun _ h9 => h9) rfl dX4_childrenOf_22 ?_
  refine lv_iload_n hx hb dX4_childrenOf_25 rfl (lv_at hl 0 rfl) ?_
  refine z_ri [.int r_1] [.int r_2, .int (r_1 + (1 : Int32)), .ref a_row] ⟨hx, hb, hml, hown, hts⟩ (kX1_excessAt l D cA a_row a_row_gains a_row_lows a_row_highs f_row_low f_row_high f_row_places f_row_gains f_row_lows f_row_highs r_1 _ hw) (cwV 1 hts gX4_childrenOf_X1_excessAt rfl rfl rfl vX1_excessAt ⟨Nat.le_of_ble_eq_true rfl, Nat.le_of_ble_eq_true rfl⟩) hK (hP.sub [1, 2, 3, 4] rfl) (va_recv hK.1 (hP.sub (ws' := [(a_row, .inr (0, [.long f_row_low, .long f_row_high, .int f_row_places, .ref a_row_gains, .ref a_row_lows, .ref a_row_highs]))]) [1] rfl) (ci := 0) (q0 := 0) rfl rfl) rfl hl.1 rfl (Nat.le_of_ble_eq_true rfl) dX4_childrenOf_26 ⟨Nat.zero_le _, Nat.zero_le _⟩ (fun r_3 hw => ?_)
  refine lv_iconst (v := 1) hx hb dX4_childrenOf_29 (by decide) ?_
  refine lv_iadd hx hb dX4_childrenOf_30 ?_
  refine z_ri [.int (r_1 + (1 : Int32)), .int r_2, .int (r_3 + (1 : Int32))] [] ⟨hx, hb, hml, hown, hts⟩ (kX1_pointsWith l D cA a_row a_row_gains a_row_lows a_row_highs f_row_low f_row_high f_row_places f_row_gains f_row_lows f_row_highs (r_1 + (1 : Int32)) r_2 (r_3 + (1 : Int32)) _ hw) (cwV 3 hts gX4_childrenOf_X1_pointsWith rfl rfl rfl vX1_pointsWith ⟨Nat.le_of_ble_eq_true rfl, Nat.le_of_ble_eq_true rfl⟩) hK (hP.sub [1, 2, 3, 4] rfl) (va_recv hK.1 (hP.sub (ws' := [(a_row, .inr (0, [.long f_row_low, .long f_row_high, .int f_row_places, .ref a_row_gains, .ref a_row_lows, .ref a_row_highs]))]) [1] rfl) (ci := 0) (q0 := 0) rfl rfl) rfl hl.1 rfl (Nat.le_of_ble_eq_true rfl) dX4_childrenOf_31 ⟨Nat.zero_le _, Nat.zero_le _⟩ (fun r_4 hw => ?_)
  refine lv_iconst (v := 1) hx hb dX4_childrenOf_34 (by decide) ?_
  refine lv_isub hx hb dX4_childrenOf_35 ?_
  exact z_iret hx hb hr hlk hw dX4_childrenOf_36
def wX4_childAt (f_row_low : Int64) (f_row_high : Int64) (f_row_places : Int32) (f_row_gains : Nat → Int32) (f_row_lows : Nat → Int32) (f_row_highs : Nat → Int32) (p1 : Int32) (p2 : Int32) (post : Int32 → Prop) : Prop := (wX4_placeForChild f_row_low f_row_high f_row_places f_row_gains f_row_lows f_row_highs p1 p2 (fun r_1 : Int32 => ((wX1_bitAt f_row_low f_row_high r_1 (fun r_2 : Int32 => (((¬ r_2 = (1 : Int32) → post (-4 : Int32)) ∧ (r_2 = (1 : Int32) → (wX1_opensAhead f_row_low f_row_high r_1 (fun r_4 : Int32 => (post r_4)))))))))))
abbrev rX4_childAt : Room := { frames := 5, cells := 0, slots := 0, locals := 120 }
theorem vX4_childAt : yX4_childAt.cls = RX4 ∧ yX4_childAt.cls ≠ "java/lang/invoke/MethodHandle" ∧ yX4_childAt.cls ≠ "java/lang/invoke/VarHandle" ∧ (parseMethodDescriptor yX4_childAt.desc).map (fun d => d.parameters.length) = some 2 := by decide +kernel
set_option maxHeartbeats 4000000 in
set_option maxRecDepth 100000 in
theorem kX4_childAt (l : Launch) (D : va_G) (cA : Nat → ClassId) (a0 a_row a_weights a_carried a_row_gains a_row_lows a_row_highs : Nat) (f_row_low : Int64) (f_row_high : Int64) (f_row_places : Int32) (f_row_gains : Nat → Int32) (f_row_lows : Nat → Int32) (f_row_highs : Nat → Int32) (f_weights : Nat → Int32) (f_carried : Nat → Int32) (p1 : Int32) (p2 : Int32) (post : Int32 → Prop) (h : wX4_childAt f_row_low f_row_high f_row_places f_row_gains f_row_lows f_row_highs p1 p2 post) : Met l yX4_childAt wsX4_childAt rX4_childAt (zPr D cA [.ref a0, .int p1, .int p2] [(a0, .inr (3, [.ref a_row, .ref a_weights, .ref a_carried])), (a_row, .inr (0, [.long f_row_low, .long f_row_high, .int f_row_places, .ref a_row_gains, .ref a_row_lows, .ref a_row_highs])), (a_row_gains, .inl (cA 0, 8, .inl f_row_gains)), (a_row_lows, .inl (cA 0, 8, .inl f_row_lows)), (a_row_highs, .inl (cA 0, 8, .inl f_row_highs)), (a_weights, .inl (cA 0, 64, .inl f_weights)), (a_carried, .inl (cA 0, 64, .inl f_carried))]) (vp_Si post) 0 0 (fun _ => False) := by
  refine z_ro (cc := cX4_childAt) (maxL := 4) (ret := (some .int)) (by decide) rfl (Nat.le_of_ble_eq_true rfl) ?_
  intro p e s m args below meth c ls hx hb hr hlk hml hown hts hK hP hl
  have hown : s.vm.findClass RX4 = some m.cls := hown
  have hl : lv_has ls 4 [(0, .ref a0), (1, .int p1), (2, .int p2)] := hl
  have hw := h
  unfold wX4_childAt at hw
  have iwX4 : ∀ w ∈ wsX40, w ∈ wsX4_childAt := fun w h9 => List.mem_cons_of_mem _ (List.mem_append_left _ (List.mem_append_right _ h9))
  have kf12 := hts (.fieldLink RX4 12 "ExcessTree$Tree" "row" "LExcessTree$Row;") (by decide +kernel)
  refine lv_aload_n hx hb dX4_childAt_0 rfl (lv_at hl 0 rfl) ?_
  refine lv_iload_n hx hb dX4_childAt_1 rfl (lv_at hl 1 rfl) ?_
  refine lv_iload_n hx hb dX4_childAt_2 rfl (lv_at hl 2 rfl) ?_
  refine z_ri [.int p1, .int p2] [] ⟨hx, hb, hml, hown, hts⟩ (kX4_placeForChild l D cA a0 a_row a_weights a_carried a_row_gains a_row_lows a_row_highs f_row_low f_row_high f_row_places f_row_gains f_row_lows f_row_highs f_weights f_carried p1 p2 _ hw) (cwV 2 hts gX4_childAt_X4_placeForChild rfl rfl rfl vX4_placeForChild ⟨Nat.le_of_ble_eq_true rfl, Nat.le_of_ble_eq_true rfl⟩) hK (hP.sub [0, 1, 2, 3, 4, 5, 6] rfl) (va_recv hK.1 (hP.sub (ws' := [(a0, .inr (3, [.ref a_row, .ref a_weights, .ref a_carried]))]) [0] rfl) (ci := 3) (q0 := 0) rfl rfl) rfl hl.1 rfl (Nat.le_of_ble_eq_true rfl) dX4_childAt_3 ⟨Nat.zero_le _, Nat.zero_le _⟩ (fun r_1 hw => ?_)
  refine lv_istore_n (lv' := [(3, .int r_1), (0, .ref a0), (1, .int p1), (2, .int p2)]) hx hb dX4_childAt_6 rfl hl (by decide) rfl (fun ls hl => ?_)
  refine lv_aload_n hx hb dX4_childAt_7 rfl (lv_at hl 1 rfl) ?_
  refine va_get (D := D) (ci := 3) (v := .ref a_row) (C := RX4) (T := TX4) (N := 3) hx hb hts iwX4 hown hK.1 hP 0 rfl rfl 0 (by decide) kf12 (fun _ h9 => h9) rfl dX4_childAt_8 ?_
  refine lv_iload_n hx hb dX4_childAt_11 rfl (lv_at hl 0 rfl) ?_
  refine z_ri [.int r_1] [] ⟨hx, hb, hml, hown, hts⟩ (kX1_bitAt l D cA a_row a_row_gains a_row_lows a_row_highs f_row_low f_row_high f_row_places f_row_gains f_row_lows f_row_highs r_1 _ hw) (cwV 1 hts gX4_childAt_X1_bitAt rfl rfl rfl vX1_bitAt ⟨Nat.le_of_ble_eq_true rfl, Nat.le_of_ble_eq_true rfl⟩) hK (hP.sub [1, 2, 3, 4] rfl) (va_recv hK.1 (hP.sub (ws' := [(a_row, .inr (0, [.long f_row_low, .long f_row_high, .int f_row_places, .ref a_row_gains, .ref a_row_lows, .ref a_row_highs]))]) [1] rfl) (ci := 0) (q0 := 0) rfl rfl) rfl hl.1 rfl (Nat.le_of_ble_eq_true rfl) dX4_childAt_12 ⟨Nat.zero_le _, Nat.zero_le _⟩ (fun r_2 hw => ?_)
  refine lv_iconst (v := 1) hx hb dX4_childAt_15 (by decide) ?_
  refine lv_icmp_ne (tgt := 30) hx hb dX4_childAt_16 (by decide) (fun c_3 => ?_) (fun c_3 => ?_)
  · have hw := hw.1 c_3
    refine lv_bipush (v := -4) hx hb dX4_childAt_30 (by decide) ?_
    exact z_iret hx hb hr hlk hw dX4_childAt_32
  · have hw := hw.2 c_3
    refine lv_aload_n hx hb dX4_childAt_19 rfl (lv_at hl 1 rfl) ?_
    refine va_get (D := D) (ci := 3) (v := .ref a_row) (C := RX4) (T := TX4) (N := 3) hx hb hts iwX4 hown hK.1 hP 0 rfl rfl 0 (by decide) kf12 (fun _ h9 => h9) rfl dX4_childAt_20 ?_
    refine lv_iload_n hx hb dX4_childAt_23 rfl (lv_at hl 0 rfl) ?_
    refine z_ri [.int r_1] [] ⟨hx, hb, hml, hown, hts⟩ (kX1_opensAhead l D cA a_row a_row_gains a_row_lows a_row_highs f_row_low f_row_high f_row_places f_row_gains f_row_lows f_row_highs r_1 _ hw) (cwV 1 hts gX4_childAt_X1_opensAhead rfl rfl rfl vX1_opensAhead ⟨Nat.le_of_ble_eq_true rfl, Nat.le_of_ble_eq_true rfl⟩) hK (hP.sub [1, 2, 3, 4] rfl) (va_recv hK.1 (hP.sub (ws' := [(a_row, .inr (0, [.long f_row_low, .long f_row_high, .int f_row_places, .ref a_row_gains, .ref a_row_lows, .ref a_row_highs]))]) [1] rfl) (ci := 0) (q0 := 0) rfl rfl) rfl hl.1 rfl (Nat.le_of_ble_eq_true rfl) dX4_childAt_24 ⟨Nat.zero_le _, Nat.zero_le _⟩ (fun r_4 hw => ?_)
    refine lv_goto (tgt := 32) hx hb dX4_childAt_27 (by decide) ?_
    exact z_iret hx hb hr hlk hw dX4_childAt_32
def wX4_orderOf (f_row_low : Int64) (f_row_high : Int64) (f_row_places : Int32) (f_row_gains : Nat → Int32) (f_row_lows : Nat → Int32) (f_row_highs : Nat → Int32) (p1 : Int32) (post : Int32 → Prop) : Prop := ((¬ p1 = 0 → (wX4_openOf f_row_low f_row_high f_row_places p1 (fun r_2 : Int32 => ((wX4_aboveBy f_row_low f_row_high f_row_places f_row_gains f_row_lows f_row_highs p1 (1 : Int32) (fun r_3 : Int32 => ((wX4_openOf f_row_low f_row_high f_row_places r_3 (fun r_4 : Int32 => ((wX1_excessAt f_row_low f_row_high r_2 (fun r_5 : Int32 => ((wX1_pointsWith f_row_low f_row_high (r_4 + (1 : Int32)) r_2 r_5 (fun r_6 : Int32 => (post (r_6 - (1 : Int32)))))))))))))))))) ∧ (p1 = 0 → post (0 : Int32)))
abbrev rX4_orderOf : Room := { frames := 5, cells := 0, slots := 0, locals := 119 }
theorem vX4_orderOf : yX4_orderOf.cls = RX4 ∧ yX4_orderOf.cls ≠ "java/lang/invoke/MethodHandle" ∧ yX4_orderOf.cls ≠ "java/lang/invoke/VarHandle" ∧ (parseMethodDescriptor yX4_orderOf.desc).map (fun d => d.parameters.length) = some 1 := by decide +kernel
set_option maxHeartbeats 4000000 in
set_option maxRecDepth 100000 in
theorem kX4_orderOf (l : Launch) (D : va_G) (cA : Nat → ClassId) (a0 a_row a_weights a_carried a_row_gains a_row_lows a_row_highs : Nat) (f_row_low : Int64) (f_row_high : Int64) (f_row_places : Int32) (f_row_gains : Nat → Int32) (f_row_lows : Nat → Int32) (f_row_highs : Nat → Int32) (f_weights : Nat → Int32) (f_carried : Nat → Int32) (p1 : Int32) (post : Int32 → Prop) (h : wX4_orderOf f_row_low f_row_high f_row_places f_row_gains f_row_lows f_row_highs p1 post) : Met l yX4_orderOf wsX4_orderOf rX4_orderOf (zPr D cA [.ref a0, .int p1] [(a0, .inr (3, [.ref a_row, .ref a_weights, .ref a_carried])), (a_row, .inr (0, [.long f_row_low, .long f_row_high, .int f_row_places, .ref a_row_gains, .ref a_row_lows, .ref a_row_highs])), (a_row_gains, .inl (cA 0, 8, .inl f_row_gains)), (a_row_lows, .inl (cA 0, 8, .inl f_row_lows)), (a_row_highs, .inl (cA 0, 8, .inl f_row_highs)), (a_weights, .inl (cA 0, 64, .inl f_weights)), (a_carried, .inl (cA 0, 64, .inl f_carried))]) (vp_Si post) 0 0 (fun _ => False) := by
  refine z_ro (cc := cX4_orderOf) (maxL := 3) (ret := (some .int)) (by decide) rfl (Nat.le_of_ble_eq_true rfl) ?_
  intro p e s m args below meth c ls hx hb hr hlk hml hown hts hK hP hl
  have hown : s.vm.findClass RX4 = some m.cls := hown
  have hl : lv_has ls 3 [(0, .ref a0), (1, .int p1)] := hl
  have hw := h
  unfold wX4_orderOf at hw
  have iwX4 : ∀ w ∈ wsX40, w ∈ wsX4_orderOf := fun w h9 => List.mem_cons_of_mem _ (List.mem_append_left _ (List.mem_append_right _ h9))
  have kf12 := hts (.fieldLink RX4 12 "ExcessTree$Tree" "row" "LExcessTree$Row;") (by decide +kernel)
  refine lv_iload_n hx hb dX4_orderOf_0 rfl (lv_at hl 1 rfl) ?_
  refine lv_if_ne (tgt := 6) hx hb dX4_orderOf_1 (by decide) (fun c_1 => ?_) (fun c_1 => ?_)
  · have hw := hw.1 c_1
    refine lv_aload_n hx hb dX4_orderOf_6 rfl (lv_at hl 0 rfl) ?_
    refine lv_iload_n hx hb dX4_orderOf_7 rfl (lv_at hl 1 rfl) ?_
    refine z_ri [.int p1] [] ⟨hx, hb, hml, hown, hts⟩ (kX4_openOf l D cA a0 a_row a_weights a_carried a_row_gains a_row_lows a_row_highs f_row_low f_row_high f_row_places f_row_gains f_row_lows f_row_highs f_weights f_carried p1 _ hw) (cwV 1 hts gX4_orderOf_X4_openOf rfl rfl rfl vX4_openOf ⟨Nat.le_of_ble_eq_true rfl, Nat.le_of_ble_eq_true rfl⟩) hK (hP.sub [0, 1, 2, 3, 4, 5, 6] rfl) (va_recv hK.1 (hP.sub (ws' := [(a0, .inr (3, [.ref a_row, .ref a_weights, .ref a_carried]))]) [0] rfl) (ci := 3) (q0 := 0) rfl rfl) rfl hl.1 rfl (Nat.le_of_ble_eq_true rfl) dX4_orderOf_8 ⟨Nat.zero_le _, Nat.zero_le _⟩ (fun r_2 hw => ?_)
    refine lv_istore_n (lv' := [(2, .int r_2), (0, .ref a0), (1, .int p1)]) hx hb dX4_orderOf_11 rfl hl (by decide) rfl (fun ls hl => ?_)
    refine lv_aload_n hx hb dX4_orderOf_12 rfl (lv_at hl 1 rfl) ?_
    refine va_get (D := D) (ci := 3) (v := .ref a_row) (C := RX4) (T := TX4) (N := 3) hx hb hts iwX4 hown hK.1 hP 0 rfl rfl 0 (by decide) kf12 (fun _ h9 => h9) rfl dX4_orderOf_13 ?_
    refine lv_aload_n hx hb dX4_orderOf_16 rfl (lv_at hl 1 rfl) ?_
    refine lv_aload_n hx hb dX4_orderOf_17 rfl (lv_at hl 1 rfl) ?_
    refine lv_iload_n hx hb dX4_orderOf_18 rfl (lv_at hl 2 rfl) ?_
    refine lv_iconst (v := 1) hx hb dX4_orderOf_19 (by decide) ?_
    refine z_ri [.int p1, .int (1 : Int32)] [.ref a0, .ref a_row] ⟨hx, hb, hml, hown, hts⟩ (kX4_aboveBy l D cA a0 a_row a_weights a_carried a_row_gains a_row_lows a_row_highs f_row_low f_row_high f_row_places f_row_gains f_row_lows f_row_highs f_weights f_carried p1 (1 : Int32) _ hw) (cwV 2 hts gX4_orderOf_X4_aboveBy rfl rfl rfl vX4_aboveBy ⟨Nat.le_of_ble_eq_true rfl, Nat.le_of_ble_eq_true rfl⟩) hK (hP.sub [0, 1, 2, 3, 4, 5, 6] rfl) (va_recv hK.1 (hP.sub (ws' := [(a0, .inr (3, [.ref a_row, .ref a_weights, .ref a_carried]))]) [0] rfl) (ci := 3) (q0 := 0) rfl rfl) rfl hl.1 rfl (Nat.le_of_ble_eq_true rfl) dX4_orderOf_20 ⟨Nat.zero_le _, Nat.zero_le _⟩ (fun r_3 hw => ?_)
    refine z_ri [.int r_3] [.ref a_row] ⟨hx, hb, hml, hown, hts⟩ (kX4_openOf l D cA a0 a_row a_weights a_carried a_row_gains a_row_lows a_row_highs f_row_low f_row_high f_row_places f_row_gains f_row_lows f_row_highs f_weights f_carried r_3 _ hw) (cwV 1 hts gX4_orderOf_X4_openOf rfl rfl rfl vX4_openOf ⟨Nat.le_of_ble_eq_true rfl, Nat.le_of_ble_eq_true rfl⟩) hK (hP.sub [0, 1, 2, 3, 4, 5, 6] rfl) (va_recv hK.1 (hP.sub (ws' := [(a0, .inr (3, [.ref a_row, .ref a_weights, .ref a_carried]))]) [0] rfl) (ci := 3) (q0 := 0) rfl rfl) rfl hl.1 rfl (Nat.le_of_ble_eq_true rfl) dX4_orderOf_23 ⟨Nat.zero_le _, Nat.zero_le _⟩ (fun r_4 hw => ?_)
    refine lv_iconst (v := 1) hx hb dX4_orderOf_26 (by decide) ?_
    refine lv_iadd hx hb dX4_orderOf_27 ?_
    refine lv_iload_n hx hb dX4_orderOf_28 rfl (lv_at hl 0 rfl) ?_
    refine lv_aload_n hx hb dX4_orderOf_29 rfl (lv_at hl 1 rfl) ?_
    refine va_get (D := D) (ci := 3) (v := .ref a_row) (C := RX4) (T := TX4) (N := 3) hx hb hts iwX4 hown hK.1 hP 0 rfl rfl 0 (by decide) kf12 (fun _ h9 => h9) rfl dX4_orderOf_30 ?_
    refine lv_iload_n hx hb dX4_orderOf_33 rfl (lv_at hl 0 rfl) ?_
    refine z_ri [.int r_2] [.int r_2, .int (r_4 + (1 : Int32)), .ref a_row] ⟨hx, hb, hml, hown, hts⟩ (kX1_excessAt l D cA a_row a_row_gains a_row_lows a_row_highs f_row_low f_row_high f_row_places f_row_gains f_row_lows f_row_highs r_2 _ hw) (cwV 1 hts gX4_orderOf_X1_excessAt rfl rfl rfl vX1_excessAt ⟨Nat.le_of_ble_eq_true rfl, Nat.le_of_ble_eq_true rfl⟩) hK (hP.sub [1, 2, 3, 4] rfl) (va_recv hK.1 (hP.sub (ws' := [(a_row, .inr (0, [.long f_row_low, .long f_row_high, .int f_row_places, .ref a_row_gains, .ref a_row_lows, .ref a_row_highs]))]) [1] rfl) (ci := 0) (q0 := 0) rfl rfl) rfl hl.1 rfl (Nat.le_of_ble_eq_true rfl) dX4_orderOf_34 ⟨Nat.zero_le _, Nat.zero_le _⟩ (fun r_5 hw => ?_)
    refine z_ri [.int (r_4 + (1 : Int32)), .int r_2, .int r_5] [] ⟨hx, hb, hml, hown, hts⟩ (kX1_pointsWith l D cA a_row a_row_gains a_row_lows a_row_highs f_row_low f_row_high f_row_places f_row_gains f_row_lows f_row_highs (r_4 + (1 : Int32)) r_2 r_5 _ hw) (cwV 3 hts gX4_orderOf_X1_pointsWith rfl rfl rfl vX1_pointsWith ⟨Nat.le_of_ble_eq_true rfl, Nat.le_of_ble_eq_true rfl⟩) hK (hP.sub [1, 2, 3, 4] rfl) (va_recv hK.1 (hP.sub (ws' := [(a_row, .inr (0, [.long f_row_low, .long f_row_high, .int f_row_places, .ref a_row_gains, .ref a_row_lows, .ref a_row_highs]))]) [1] rfl) (ci := 0) (q0 := 0) rfl rfl) rfl hl.1 rfl (Nat.le_of_ble_eq_true rfl) dX4_orderOf_37 ⟨Nat.zero_le _, Nat.zero_le _⟩ (fun r_6 hw => ?_)
    refine lv_iconst (v := 1) hx hb dX4_orderOf_40 (by decide) ?_
    refine lv_isub hx hb dX4_orderOf_41 ?_
    exact z_iret hx hb hr hlk hw dX4_orderOf_42
  · have hw := hw.2 c_1
    refine lv_iconst (v := 0) hx hb dX4_orderOf_4 (by decide) ?_
    exact z_iret hx hb hr hlk hw dX4_orderOf_5
