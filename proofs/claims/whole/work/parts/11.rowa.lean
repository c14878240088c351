/-! written by wip/whole/gen.py -/
def wX1_blocks (f_places : Int32)  (post : Int32 → Prop) : Prop := post (((f_places + (16 : Int32)) - (1 : Int32)) / (16 : Int32))
abbrev rX1_blocks : Room := { frames := 0, cells := 0, slots := 0, locals := 0 }
theorem vX1_blocks : yX1_blocks.cls = RX1 ∧ yX1_blocks.cls ≠ "java/lang/invoke/MethodHandle" ∧ yX1_blocks.cls ≠ "java/lang/invoke/VarHandle" ∧ (parseMethodDescriptor yX1_blocks.desc).map (fun d => d.parameters.length) = some 0 := by decide +kernel
set_option maxHeartbeats 4000000 in
set_option maxRecDepth 100000 in
theorem kX1_blocks (l : Launch) (D : va_G) (cA : Nat → ClassId) (a0 a_gains a_lows a_highs : Nat) (f_low : Int64) (f_high : Int64) (f_places : Int32) (f_gains : Nat → Int32) (f_lows : Nat → Int32) (f_highs : Nat → Int32)  (post : Int32 → Prop) (h : wX1_blocks f_places post) : Met l yX1_blocks wsX1_blocks rX1_blocks (zPr D cA [.ref a0] [(a0, .inr (0, [.long f_low, .long f_high, .int f_places, .ref a_gains, .ref a_lows, .ref a_highs])), (a_gains, .inl (cA 0, 8, .inl f_gains)), (a_lows, .inl (cA 0, 8, .inl f_lows)), (a_highs, .inl (cA 0, 8, .inl f_highs))]) (vp_Si post) 0 0 (fun _ => False) := by
  refine z_ro (cc := cX1_blocks) (maxL := 1) (ret := (some .int)) (by decide) rfl (Nat.le_of_ble_eq_true rfl) ?_
  intro p e s m args below meth c ls hx hb hr hlk hml hown hts hK hP hl
  have hown : s.vm.findClass RX1 = some m.cls := hown
  have hl : lv_has ls 1 [(0, .ref a0)] := hl
  have hw := h
  unfold wX1_blocks at hw
  have iwX1 : ∀ w ∈ wsX10, w ∈ wsX1_blocks := fun w h9 => List.mem_cons_of_mem _ (List.mem_append_right _ h9)
  have kf21 := hts (.fieldLink RX1 21 "ExcessTree$Row" "places" "I") (by decide +kernel)
  refine lv_aload_n hx hb dX1_blocks_0 rfl (lv_at hl 0 rfl) ?_
  refine va_get (D := D) (ci := 0) (v := .int f_places) (C := RX1) (T := TX1) (N := 6) hx hb hts iwX1 hown hK.1 hP 0 rfl rfl 2 (by decide) kf21 (fun _ h9 => h9) rfl dX1_blocks_1 ?_
  refine lv_bipush (v := 16) hx hb dX1_blocks_4 (by decide) ?_
  refine lv_iadd hx hb dX1_blocks_6 ?_
  refine lv_iconst (v := 1) hx hb dX1_blocks_7 (by decide) ?_
  refine lv_isub hx hb dX1_blocks_8 ?_
  refine lv_bipush (v := 16) hx hb dX1_blocks_9 (by decide) ?_
  refine lv_idiv hx hb dX1_blocks_11 (by decide) ?_
  exact z_iret hx hb hr hlk hw dX1_blocks_12
def wX1_bitAt (f_low : Int64) (f_high : Int64) (p1 : Int32) (post : Int32 → Prop) : Prop := (((64 : Int32) ≤ p1 → post ((((zlushr f_high (p1 &&& (63 : Int32)))).toInt32) &&& (1 : Int32))) ∧ (¬ (64 : Int32) ≤ p1 → post ((((zlushr f_low (p1 &&& (63 : Int32)))).toInt32) &&& (1 : Int32))))
abbrev rX1_bitAt : Room := { frames := 0, cells := 0, slots := 0, locals := 0 }
theorem vX1_bitAt : yX1_bitAt.cls = RX1 ∧ yX1_bitAt.cls ≠ "java/lang/invoke/MethodHandle" ∧ yX1_bitAt.cls ≠ "java/lang/invoke/VarHandle" ∧ (parseMethodDescriptor yX1_bitAt.desc).map (fun d => d.parameters.length) = some 1 := by decide +kernel
set_option maxHeartbeats 4000000 in
set_option maxRecDepth 100000 in
theorem kX1_bitAt (l : Launch) (D : va_G) (cA : Nat → ClassId) (a0 a_gains a_lows a_highs : Nat) (f_low : Int64) (f_high : Int64) (f_places : Int32) (f_gains : Nat → Int32) (f_lows : Nat → Int32) (f_highs : Nat → Int32) (p1 : Int32) (post : Int32 → Prop) (h : wX1_bitAt f_low f_high p1 post) : Met l yX1_bitAt wsX1_bitAt rX1_bitAt (zPr D cA [.ref a0, .int p1] [(a0, .inr (0, [.long f_low, .long f_high, .int f_places, .ref a_gains, .ref a_lows, .ref a_highs])), (a_gains, .inl (cA 0, 8, .inl f_gains)), (a_lows, .inl (cA 0, 8, .inl f_lows)), (a_highs, .inl (cA 0, 8, .inl f_highs))]) (vp_Si post) 0 0 (fun _ => False) := by
  refine z_ro (cc := cX1_bitAt) (maxL := 2) (ret := (some .int)) (by decide) rfl (Nat.le_of_ble_eq_true rfl) ?_
  intro p e s m args below meth c ls hx hb hr hlk hml hown hts hK hP hl
  have hown : s.vm.findClass RX1 = some m.cls := hown
  have hl : lv_has ls 2 [(0, .ref a0), (1, .int p1)] := hl
  have hw := h
  unfold wX1_bitAt at hw
  have iwX1 : ∀ w ∈ wsX10, w ∈ wsX1_bitAt := fun w h9 => List.mem_cons_of_mem _ (List.mem_append_right _ h9)
  have kf29 := hts (.fieldLink RX1 29 "ExcessTree$Row" "high" "J") (by decide +kernel)
  have kf25 := hts (.fieldLink RX1 25 "ExcessTree$Row" "low" "J") (by decide +kernel)
  refine lv_iload_n hx hb dX1_bitAt_0 rfl (lv_at hl 1 rfl) ?_
  refine lv_bipush (v := 64) hx hb dX1_bitAt_1 (by decide) ?_
  refine lv_icmp_ge (tgt := 13) hx hb dX1_bitAt_3 (by decide) (fun c_1 => ?_) (fun c_1 => ?_)
  · have hw := hw.1 c_1
    refine lv_aload_n hx hb dX1_bitAt_13 rfl (lv_at hl 0 rfl) ?_
    refine va_get (D := D) (ci := 0) (v := .long f_high) (C := RX1) (T := TX1) (N := 6) hx hb hts iwX1 hown hK.1 hP 0 rfl rfl 1 (by decide) kf29 (fun _ h9 => h9) rfl dX1_bitAt_14 ?_
    refine lv_iload_n hx hb dX1_bitAt_17 rfl (lv_at hl 1 rfl) ?_
    refine lv_bipush (v := 63) hx hb dX1_bitAt_18 (by decide) ?_
    refine lv_iand hx hb dX1_bitAt_20 ?_
    refine lv_lushr (v := (zlushr f_high (p1 &&& (63 : Int32)))) hx hb dX1_bitAt_21 rfl ?_
    refine lv_l2i (v := (((zlushr f_high (p1 &&& (63 : Int32)))).toInt32)) hx hb dX1_bitAt_22 rfl ?_
    refine lv_iconst (v := 1) hx hb dX1_bitAt_23 (by decide) ?_
    refine lv_iand hx hb dX1_bitAt_24 ?_
    exact z_iret hx hb hr hlk hw dX1_bitAt_25
  · have hw := hw.2 c_1
    refine lv_aload_n hx hb dX1_bitAt_6 rfl (lv_at hl 0 rfl) ?_
    refine va_get (D := D) (ci := 0) (v := .long f_low) (C := RX1) (T := TX1) (N := 6) hx hb hts iwX1 hown hK.1 hP 0 rfl rfl 0 (by decide) kf25 (fun _ h9 => h9) rfl dX1_bitAt_7 ?_
    refine lv_goto (tgt := 17) hx hb dX1_bitAt_10 (by decide) ?_
    refine lv_iload_n hx hb dX1_bitAt_17 rfl (lv_at hl 1 rfl) ?_
    refine lv_bipush (v := 63) hx hb dX1_bitAt_18 (by decide) ?_
    refine lv_iand hx hb dX1_bitAt_20 ?_
    refine lv_lushr (v := (zlushr f_low (p1 &&& (63 : Int32)))) hx hb dX1_bitAt_21 rfl ?_
    refine lv_l2i (v := (((zlushr f_low (p1 &&& (63 : Int32)))).toInt32)) hx hb dX1_bitAt_22 rfl ?_
    refine lv_iconst (v := 1) hx hb dX1_bitAt_23 (by decide) ?_
    refine lv_iand hx hb dX1_bitAt_24 ?_
    exact z_iret hx hb hr hlk hw dX1_bitAt_25
def wX1_stepAt (f_low : Int64) (f_high : Int64) (p1 : Int32) (post : Int32 → Prop) : Prop := (((64 : Int32) ≤ p1 → ((¬ (lg_cmp ((zlushr f_high (p1 &&& (63 : Int32))) &&& (1 : Int64)) (1 : Int64)) = 0 → post (-1 : Int32)) ∧ ((lg_cmp ((zlushr f_high (p1 &&& (63 : Int32))) &&& (1 : Int64)) (1 : Int64)) = 0 → post (1 : Int32)))) ∧ (¬ (64 : Int32) ≤ p1 → ((¬ (lg_cmp ((zlushr f_low (p1 &&& (63 : Int32))) &&& (1 : Int64)) (1 : Int64)) = 0 → post (-1 : Int32)) ∧ ((lg_cmp ((zlushr f_low (p1 &&& (63 : Int32))) &&& (1 : Int64)) (1 : Int64)) = 0 → post (1 : Int32)))))
abbrev rX1_stepAt : Room := { frames := 0, cells := 0, slots := 0, locals := 0 }
theorem vX1_stepAt : yX1_stepAt.cls = RX1 ∧ yX1_stepAt.cls ≠ "java/lang/invoke/MethodHandle" ∧ yX1_stepAt.cls ≠ "java/lang/invoke/VarHandle" ∧ (parseMethodDescriptor yX1_stepAt.desc).map (fun d => d.parameters.length) = some 1 := by decide +kernel
set_option maxHeartbeats 4000000 in
set_option maxRecDepth 100000 in
theorem kX1_stepAt (l : Launch) (D : va_G) (cA : Nat → ClassId) (a0 a_gains a_lows a_highs : Nat) (f_low : Int64) (f_high : Int64) (f_places : Int32) (f_gains : Nat → Int32) (f_lows : Nat → Int32) (f_highs : Nat → Int32) (p1 : Int32) (post : Int32 → Prop) (h : wX1_stepAt f_low f_high p1 post) : Met l yX1_stepAt wsX1_stepAt rX1_stepAt (zPr D cA [.ref a0, .int p1] [(a0, .inr (0, [.long f_low, .long f_high, .int f_places, .ref a_gains, .ref a_lows, .ref a_highs])), (a_gains, .inl (cA 0, 8, .inl f_gains)), (a_lows, .inl (cA 0, 8, .inl f_lows)), (a_highs, .inl (cA 0, 8, .inl f_highs))]) (vp_Si post) 0 0 (fun _ => False) := by
  refine z_ro (cc := cX1_stepAt) (maxL := 2) (ret := (some .int)) (by decide) rfl (Nat.le_of_ble_eq_true rfl) ?_
  intro p e s m args below meth c ls hx hb hr hlk hml hown hts hK hP hl
  have hown : s.vm.findClass RX1 = some m.cls := hown
  have hl : lv_has ls 2 [(0, .ref a0), (1, .int p1)] := hl
  have hw := h
  unfold wX1_stepAt at hw
  have iwX1 : ∀ w ∈ wsX10, w ∈ wsX1_stepAt := fun w h9 => List.mem_cons_of_mem _ (List.mem_append_right _ h9)
  have kf29 := hts (.fieldLink RX1 29 "ExcessTree$Row" "high" "J") (by decide +kernel)
  have kf25 := hts (.fieldLink RX1 25 "ExcessTree$Row" "low" "J") (by decide +kernel)
  refine lv_iload_n hx hb dX1_stepAt_0 rfl (lv_at hl 1 rfl) ?_
  refine lv_bipush (v := 64) hx hb dX1_stepAt_1 (by decide) ?_
  refine lv_icmp_ge (tgt := 13) hx hb dX1_stepAt_3 (by decide) (fun c_1 => ?_) (fun c_1 => ?_)
  · have hw := hw.1 c_1
    refine lv_aload_n hx hb dX1_stepAt_13 rfl (lv_at hl 0 rfl) ?_
    refine va_get (D := D) (ci := 0) (v := .long f_high) (C := RX1) (T := TX1) (N := 6) hx hb hts iwX1 hown hK.1 hP 0 rfl rfl 1 (by decide) kf29 (fun _ h9 => h9) rfl dX1_stepAt_14 ?_
    refine lv_iload_n hx hb dX1_stepAt_17 rfl (lv_at hl 1 rfl) ?_
    refine lv_bipush (v := 63) hx hb dX1_stepAt_18 (by decide) ?_
    refine lv_iand hx hb dX1_stepAt_20 ?_
    refine lv_lushr (v := (zlushr f_high (p1 &&& (63 : Int32)))) hx hb dX1_stepAt_21 rfl ?_
    refine lv_lconst (v := 1) hx hb dX1_stepAt_22 (by decide) ?_
    refine lv_land hx hb dX1_stepAt_23 ?_
    refine lv_lconst (v := 1) hx hb dX1_stepAt_24 (by decide) ?_
    refine W.lcmp hx hb dX1_stepAt_25 ?_
    refine lv_if_ne (tgt := 33) hx hb dX1_stepAt_26 (by decide) (fun c_2 => ?_) (fun c_2 => ?_)
    · have hw := hw.1 c_2
      refine lv_iconst (v := -1) hx hb dX1_stepAt_33 (by decide) ?_
      exact z_iret hx hb hr hlk hw dX1_stepAt_34
    · have hw := hw.2 c_2
      refine lv_iconst (v := 1) hx hb dX1_stepAt_29 (by decide) ?_
      refine lv_goto (tgt := 34) hx hb dX1_stepAt_30 (by decide) ?_
      exact z_iret hx hb hr hlk hw dX1_stepAt_34
  · have hw := hw.2 c_1
    refine lv_aload_n hx hb dX1_stepAt_6 rfl (lv_at hl 0 rfl) ?_
    refine va_get (D := D) (ci := 0) (v := .long f_low) (C := RX1) (T := TX1) (N := 6) hx hb hts iwX1 hown hK.1 hP 0 rfl rfl 0 (by decide) kf25 (fun _ h9 => h9) rfl dX1_stepAt_7 ?_
    refine lv_goto (tgt := 17) hx hb dX1_stepAt_10 (by decide) ?_
    refine lv_iload_n hx hb dX1_stepAt_17 rfl (lv_at hl 1 rfl) ?_
    refine lv_bipush (v := 63) hx hb dX1_stepAt_18 (by decide) ?_
    refine lv_iand hx hb dX1_stepAt_20 ?_
    refine lv_lushr (v := (zlushr f_low (p1 &&& (63 : Int32)))) hx hb dX1_stepAt_21 rfl ?_
    refine lv_lconst (v := 1) hx hb dX1_stepAt_22 (by decide) ?_
    refine lv_land hx hb dX1_stepAt_23 ?_
    refine lv_lconst (v := 1) hx hb dX1_stepAt_24 (by decide) ?_
    refine W.lcmp hx hb dX1_stepAt_25 ?_
    refine lv_if_ne (tgt := 33) hx hb dX1_stepAt_26 (by decide) (fun c_3 => ?_) (fun c_3 => ?_)
    · have hw := hw.1 c_3
      refine lv_iconst (v := -1) hx hb dX1_stepAt_33 (by decide) ?_
      exact z_iret hx hb hr hlk hw dX1_stepAt_34
    · have hw := hw.2 c_3
      refine lv_iconst (v := 1) hx hb dX1_stepAt_29 (by decide) ?_
      refine lv_goto (tgt := 34) hx hb dX1_stepAt_30 (by decide) ?_
      exact z_iret hx hb hr hlk hw dX1_stepAt_34
def wX1_excessAt (f_low : Int64) (f_high : Int64) (p1 : Int32) (post : Int32 → Prop) : Prop := (wX0_firstOf p1 (fun r_1 : Int64 => ((wJ13_bitCount_95d88 (f_low &&& r_1) (fun r_2 : Int32 => ((wX0_firstOf (p1 - (64 : Int32)) (fun r_3 : Int64 => ((wJ13_bitCount_95d88 (f_high &&& r_3) (fun r_4 : Int32 => (post ((((2 : Int32) * r_2) + ((2 : Int32) * r_4)) - p1)))))))))))))
abbrev rX1_excessAt : Room := { frames := 1, cells := 0, slots := 0, locals := 21 }
theorem vX1_excessAt : yX1_excessAt.cls = RX1 ∧ yX1_excessAt.cls ≠ "java/lang/invoke/MethodHandle" ∧ yX1_excessAt.cls ≠ "java/lang/invoke/VarHandle" ∧ (parseMethodDescriptor yX1_excessAt.desc).map (fun d => d.parameters.length) = some 1 := by decide +kernel
set_option maxHeartbeats 4000000 in
set_option maxRecDepth 100000 in
theorem kX1_excessAt (l : Launch) (D : va_G) (cA : Nat → ClassId) (a0 a_gains a_lows a_highs : Nat) (f_low : Int64) (f_high : Int64) (f_places : Int32) (f_gains : Nat → Int32) (f_lows : Nat → Int32) (f_highs : Nat → Int32) (p1 : Int32) (post : Int32 → Prop) (h : wX1_excessAt f_low f_high p1 post) : Met l yX1_excessAt wsX1_excessAt rX1_excessAt (zPr D cA [.ref a0, .int p1] [(a0, .inr (0, [.long f_low, .long f_high, .int f_places, .ref a_gains, .ref a_lows, .ref a_highs])), (a_gains, .inl (cA 0, 8, .inl f_gains)), (a_lows, .inl (cA 0, 8, .inl f_lows)), (a_highs, .inl (cA 0, 8, .inl f_highs))]) (vp_Si post) 0 0 (fun _ => False) := by
  refine z_ro (cc := cX1_excessAt) (maxL := 2) (ret := (some .int)) (by decide) rfl (Nat.le_of_ble_eq_true rfl) ?_
  intro p e s m args below meth c ls hx hb hr hlk hml hown hts hK hP hl
  have hown : s.vm.findClass RX1 = some m.cls := hown
  have hl : lv_has ls 2 [(0, .ref a0), (1, .int p1)] := hl
  have hw := h
  unfold wX1_excessAt at hw
  have iwX1 : ∀ w ∈ wsX10, w ∈ wsX1_excessAt := fun w h9 => List.mem_cons_of_mem _ (List.mem_append_right _ h9)
  have kf25 := hts (.fieldLink RX1 25 "ExcessTree$Row" "low" "J") (by decide +kernel)
  have kf29 := hts (.fieldLink RX1 29 "ExcessTree$Row" "high" "J") (by decide +kernel)
  refine lv_iconst (v := 2) hx hb dX1_excessAt_0 (by decide) ?_
  refine lv_aload_n hx hb dX1_excessAt_1 rfl (lv_at hl 0 rfl) ?_
  refine va_get (D := D) (ci := 0) (v := .long f_low) (C := RX1) (T := TX1) (N := 6) hx hb hts iwX1 hown hK.1 hP 0 rfl rfl 0 (by decide) kf25 (fun _ h9 => h9) rfl dX1_excessAt_2 ?_
  refine lv_iload_n hx hb dX1_excessAt_5 rfl (lv_at hl 1 rfl) ?_
  refine z_sl [.int p1] [.long f_low, .int (2 : Int32)] ⟨hx, hb, hml, hown, hts⟩ (kX0_firstOf l D cA p1 _ hw) (va_cwS 1 hts gX1_excessAt_X0_firstOf rfl rfl rfl vX0_firstOf ⟨Nat.le_of_ble_eq_true rfl, Nat.le_of_ble_eq_true rfl⟩) hK z_p0 rfl hl.1 rfl (Nat.le_of_ble_eq_true rfl) dX1_excessAt_6 ⟨Nat.zero_le _, Nat.zero_le _⟩ (fun r_1 hw => ?_)
  refine lv_land hx hb dX1_excessAt_9 ?_
  refine z_si [.long (f_low &&& r_1)] [.int (2 : Int32)] ⟨hx, hb, hml, hown, hts⟩ (kJ13_bitCount_95d88 l D cA (f_low &&& r_1) _ hw) (va_cwS 1 hts gX1_excessAt_J13_bitCount_95d88 rfl rfl rfl vJ13_bitCount_95d88 ⟨Nat.le_of_ble_eq_true rfl, Nat.le_of_ble_eq_true rfl⟩) hK z_p0 rfl hl.1 rfl (Nat.le_of_ble_eq_true rfl) dX1_excessAt_10 ⟨Nat.zero_le _, Nat.zero_le _⟩ (fun r_2 hw => ?_)
  refine lv_imul hx hb dX1_excessAt_13 ?_
  refine lv_iconst (v := 2) hx hb dX1_excessAt_14 (by decide) ?_
  refine lv_aload_n hx hb dX1_excessAt_15 rfl (lv_at hl 0 rfl) ?_
  refine va_get (D := D) (ci := 0) (v := .long f_high) (C := RX1) (T := TX1) (N := 6) hx hb hts iwX1 hown hK.1 hP 0 rfl rfl 1 (by decide) kf29 (fun _ h9 => h9) rfl dX1_excessAt_16 ?_
  refine lv_iload_n hx hb dX1_excessAt_19 rfl (lv_at hl 1 rfl) ?_
  refine lv_bipush (v := 64) hx hb dX1_excessAt_20 (by decide) ?_
  refine lv_isub hx hb dX1_excessAt_22 ?_
  refine z_sl [.int (p1 - (64 : Int32))] [.long f_high, .int (2 : Int32), .int ((2 : Int32) * r_2)] ⟨hx, hb, hml, hown, hts⟩ (kX0_firstOf l D cA (p1 - (64 : Int32)) _ hw) (va_cwS 1 hts gX1_excessAt_X0_firstOf rfl rfl rfl vX0_firstOf ⟨Nat.le_of_ble_eq_true rfl, Nat.le_of_ble_eq_true rfl⟩) hK z_p0 rfl hl.1 rfl (Nat.le_of_ble_eq_true rfl) dX1_excessAt_23 ⟨Nat.zero_le _, Nat.zero_le _⟩ (fun r_3 hw => ?_)
  refine lv_land hx hb dX1_excessAt_26 ?_
  refine z_si [.long (f_high &&& r_3)] [.int (2 : Int32), .int ((2 : Int32) * r_2)] ⟨hx, hb, hml, hown, hts⟩ (kJ13_bitCount_95d88 l D cA (f_high &&& r_3) _ hw) (va_cwS 1 hts gX1_excessAt_J13_bitCount_95d88 rfl rfl rfl vJ13_bitCount_95d88 ⟨Nat.le_of_ble_eq_true rfl, Nat.le_of_ble_eq_true rfl⟩) hK z_p0 rfl hl.1 rfl (Nat.le_of_ble_eq_true rfl) dX1_excessAt_27 ⟨Nat.zero_le _, Nat.zero_le _⟩ (fun r_4 hw => ?_)
  refine lv_imul hx hb dX1_excessAt_30 ?_
  refine lv_iadd hx hb dX1_excessAt_31 ?_
  refine lv_iload_n hx hb dX1_excessAt_32 rfl (lv_at hl 1 rfl) ?_
  refine lv_isub hx hb dX1_excessAt_33 ?_
  exact z_iret hx hb hr hlk hw dX1_excessAt_34
def wX1_opensAhead (f_low : Int64) (f_high : Int64) (p1 : Int32) (post : Int32 → Prop) : Prop := (wX1_excessAt f_low f_high p1 (fun r_1 : Int32 => (post ((p1 + r_1) / (2 : Int32)))))
abbrev rX1_opensAhead : Room := { frames := 2, cells := 0, slots := 0, locals := 42 }
theorem vX1_opensAhead : yX1_opensAhead.cls = RX1 ∧ yX1_opensAhead.cls ≠ "java/lang/invoke/MethodHandle" ∧ yX1_opensAhead.cls ≠ "java/lang/invoke/VarHandle" ∧ (parseMethodDescriptor yX1_opensAhead.desc).map (fun d => d.parameters.length) = some 1 := by decide +kernel
set_option maxHeartbeats 4000000 in
set_option maxRecDepth 100000 in
theorem kX1_opensAhead (l : Launch) (D : va_G) (cA : Nat → ClassId) (a0 a_gains a_lows a_highs : Nat) (f_low : Int64) (f_high : Int64) (f_places : Int32) (f_gains : Nat → Int32) (f_lows : Nat → Int32) (f_highs : Nat → Int32) (p1 : Int32) (post : Int32 → Prop) (h : wX1_opensAhead f_low f_high p1 post) : Met l yX1_opensAhead wsX1_opensAhead rX1_opensAhead (zPr D cA [.ref a0, .int p1] [(a0, .inr (0, [.long f_low, .long f_high, .int f_places, .ref a_gains, .ref a_lows, .ref a_highs])), (a_gains, .inl (cA 0, 8, .inl f_gains)), (a_lows, .inl (cA 0, 8, .inl f_lows)), (a_highs, .inl (cA 0, 8, .inl f_highs))]) (vp_Si post) 0 0 (fun _ => False) := by
  refine z_ro (cc := cX1_opensAhead) (maxL := 2) (ret := (some .int)) (by decide) rfl (Nat.le_of_ble_eq_true rfl) ?_
  intro p e s m args below meth c ls hx hb hr hlk hml hown hts hK hP hl
  have hown : s.vm.findClass RX1 = some m.cls := hown
  have hl : lv_has ls 2 [(0, .ref a0), (1, .int p1)] := hl
  have hw := h
  unfold wX1_opensAhead at hw
  refine lv_iload_n hx hb dX1_opensAhead_0 rfl (lv_at hl 1 rfl) ?_
  refine lv_aload_n hx hb dX1_opensAhead_1 rfl (lv_at hl 0 rfl) ?_
  refine lv_iload_n hx hb dX1_opensAhead_2 rfl (lv_at hl 1 rfl) ?_
  refine z_ri [.int p1] [.int p1] ⟨hx, hb, hml, hown, hts⟩ (kX1_excessAt l D cA a0 a_gains a_lows a_highs f_low f_high f_places f_gains f_lows f_highs p1 _ hw) (cwV 1 hts gX1_opensAhead_X1_excessAt rfl rfl rfl vX1_excessAt ⟨Nat.le_of_ble_eq_true rfl, Nat.le_of_ble_eq_true rfl⟩) hK (hP.sub [0, 1, 2, 3] rfl) (va_recv hK.1 (hP.sub (ws' := [(a0, .inr (0, [.long f_low, .long f_high, .int f_places, .ref a_gains, .ref a_lows, .ref a_highs]))]) [0] rfl) (ci := 0) (q0 := 0) rfl rfl) rfl hl.1 rfl (Nat.le_of_ble_eq_true rfl) dX1_opensAhead_3 ⟨Nat.zero_le _, Nat.zero_le _⟩ (fun r_1 hw => ?_)
  refine lv_iadd hx hb dX1_opensAhead_6 ?_
  refine lv_iconst (v := 2) hx hb dX1_opensAhead_7 (by decide) ?_
  refine lv_idiv hx hb dX1_opensAhead_8 (by decide) ?_
  exact z_iret hx hb hr hlk hw dX1_opensAhead_9
def wX1_opensAtOddPlaces (f_low : Int64) (f_high : Int64)  (post : Int32 → Prop) : Prop := (wJ13_bitCount_95d88 (f_low &&& (-6148914691236517206 : Int64)) (fun r_1 : Int32 => ((wJ13_bitCount_95d88 (f_high &&& (-6148914691236517206 : Int64)) (fun r_2 : Int32 => (post (r_1 + r_2)))))))
abbrev rX1_opensAtOddPlaces : Room := { frames := 1, cells := 0, slots := 0, locals := 21 }
theorem vX1_opensAtOddPlaces : yX1_opensAtOddPlaces.cls = RX1 ∧ yX1_opensAtOddPlaces.cls ≠ "java/lang/invoke/MethodHandle" ∧ yX1_opensAtOddPlaces.cls ≠ "java/lang/invoke/VarHandle" ∧ (parseMethodDescriptor yX1_opensAtOddPlaces.desc).map (fun d => d.parameters.length) = some 0 := by decide +kernel
set_option maxHeartbeats 4000000 in
set_option maxRecDepth 100000 in
theorem kX1_opensAtOddPlaces (l : Launch) (D : va_G) (cA : Nat → ClassId) (a0 a_gains a_lows a_highs : Nat) (f_low : Int64) (f_high : Int64) (f_places : Int32) (f_gains : Nat → Int32) (f_lows : Nat → Int32) (f_highs : Nat → Int32)  (post : Int32 → Prop) (h : wX1_opensAtOddPlaces f_low f_high post) : Met l yX1_opensAtOddPlaces wsX1_opensAtOddPlaces rX1_opensAtOddPlaces (zPr D cA [.ref a0] [(a0, .inr (0, [.long f_low, .long f_high, .int f_places, .ref a_gains, .ref a_lows, .ref a_highs])), (a_gains, .inl (cA 0, 8, .inl f_gains)), (a_lows, .inl (cA 0, 8, .inl f_lows)), (a_highs, .inl (cA 0, 8, .inl f_highs))]) (vp_Si post) 0 0 (fun _ => False) := by
  refine z_ro (cc := cX1_opensAtOddPlaces) (maxL := 3) (ret := (some .int)) (by decide) rfl (Nat.le_of_ble_eq_true rfl) ?_
  intro p e s m args below meth c ls hx hb hr hlk hml hown hts hK hP hl
  have hown : s.vm.findClass RX1 = some m.cls := hown
  have hl : lv_has ls 3 [(0, .ref a0)] := hl
  have hw := h
  unfold wX1_opensAtOddPlaces at hw
  have kl48 := hts (.constantLong RX1 48 (-6148914691236517206)) (by decide +kernel)
  have iwX1 : ∀ w ∈ wsX10, w ∈ wsX1_opensAtOddPlaces := fun w h9 => List.mem_cons_of_mem _ (List.mem_append_right _ h9)
  have kf25 := hts (.fieldLink RX1 25 "ExcessTree$Row" "low" "J") (by decide +kernel)
  have kf29 := hts (.fieldLink RX1 29 "ExcessTree$Row" "high" "J") (by decide +kernel)
  refine lv_ldc2 (v := -6148914691236517206) hx hb hown kl48 dX1_opensAtOddPlaces_0 ?_
  refine lv_lstore_n (lv' := [(1, .long (-6148914691236517206 : Int64)), (0, .ref a0)]) hx hb dX1_opensAtOddPlaces_3 rfl hl (by decide) rfl (fun ls hl => ?_)
  refine lv_aload_n hx hb dX1_opensAtOddPlaces_4 rfl (lv_at hl 1 rfl) ?_
  refine va_get (D := D) (ci := 0) (v := .long f_low) (C := RX1) (T := TX1) (N := 6) hx hb hts iwX1 hown hK.1 hP 0 rfl rfl 0 (by decide) kf25 (fun _ h9 => h9) rfl dX1_opensAtOddPlaces_5 ?_
  refine lv_lload_n hx hb dX1_opensAtOddPlaces_8 rfl (lv_at hl 0 rfl) ?_
  refine lv_land hx hb dX1_opensAtOddPlaces_9 ?_
  refine z_si [.long (f_low &&& (-6148914691236517206 : Int64))] [] ⟨hx, hb, hml, hown, hts⟩ (kJ13_bitCount_95d88 l D cA (f_low &&& (-6148914691236517206 : Int64)) _ hw) (va_cwS 1 hts gX1_opensAtOddPlaces_J13_bitCount_95d88 rfl rfl rfl vJ13_bitCount_95d88 ⟨Nat.le_of_ble_eq_true rfl, Nat.le_of_ble_eq_true rfl⟩) hK z_p0 rfl hl.1 rfl (Nat.le_of_ble_eq_true rfl) dX1_opensAtOddPlaces_10 ⟨Nat.zero_le _, Nat.zero_le _⟩ (fun r_1 hw => ?_)
  refine lv_aload_n hx hb dX1_opensAtOddPlaces_13 rfl (lv_at hl 1 rfl) ?_
  refine va_get (D := D) (ci := 0) (v := .long f_high) (C := RX1) (T := TX1) (N := 6) hx hb hts iwX1 hown hK.1 hP 0 rfl rfl 1 (by decide) kf29 (fun _ h9 => h9) rfl dX1_opensAtOddPlaces_14 ?_
  refine lv_lload_n hx hb dX1_opensAtOddPlaces_17 rfl (lv_at hl 0 rfl) ?_
  refine lv_land hx hb dX1_opensAtOddPlaces_18 ?_
  refine z_si [.long (f_high &&& (-6148914691236517206 : Int64))] [.int r_1] ⟨hx, hb, hml, hown, hts⟩ (kJ13_bitCount_95d88 l D cA (f_high &&& (-6148914691236517206 : Int64)) _ hw) (va_cwS 1 hts gX1_opensAtOddPlaces_J13_bitCount_95d88 rfl rfl rfl vJ13_bitCount_95d88 ⟨Nat.le_of_ble_eq_true rfl, Nat.le_of_ble_eq_true rfl⟩) hK z_p0 rfl hl.1 rfl (Nat.le_of_ble_eq_true rfl) dX1_opensAtOddPlaces_19 ⟨Nat.zero_le _, Nat.zero_le _⟩ (fun r_2 hw => ?_)
  refine lv_iadd hx hb dX1_opensAtOddPlaces_22 ?_
  exact z_iret hx hb hr hlk hw dX1_opensAtOddPlaces_23
def wX1_signsLow (f_low : Int64) (f_high : Int64) (f_places : Int32) (p1 : Int32) (post : Int64 → Prop) : Prop := ((¬ p1 = 0 → ((¬ p1 = (1 : Int32) → (wX0_downLow f_low f_high (1 : Int32) (fun r_3 : Int64 => (post (f_low &&& (r_3 ^^^ (-1 : Int64))))))) ∧ (p1 = (1 : Int32) → (wX0_firstOf f_places (fun r_4 : Int64 => (post ((f_low ^^^ (-1 : Int64)) &&& r_4))))))) ∧ (p1 = 0 → post f_low))
abbrev rX1_signsLow : Room := { frames := 1, cells := 0, slots := 0, locals := 24 }
theorem vX1_signsLow : yX1_signsLow.cls = RX1 ∧ yX1_signsLow.cls ≠ "java/lang/invoke/MethodHandle" ∧ yX1_signsLow.cls ≠ "java/lang/invoke/VarHandle" ∧ (parseMethodDescriptor yX1_signsLow.desc).map (fun d => d.parameters.length) = some 1 := by decide +kernel
set_option maxHeartbeats 4000000 in
set_option maxRecDepth 100000 in
theorem kX1_signsLow (l : Launch) (D : va_G) (cA : Nat → ClassId) (a0 a_gains a_lows a_highs : Nat) (f_low : Int64) (f_high : Int64) (f_places : Int32) (f_gains : Nat → Int32) (f_lows : Nat → Int32) (f_highs : Nat → Int32) (p1 : Int32) (post : Int64 → Prop) (h : wX1_signsLow f_low f_high f_places p1 post) : Met l yX1_signsLow wsX1_signsLow rX1_signsLow (zPr D cA [.ref a0, .int p1] [(a0, .inr (0, [.long f_low, .long f_high, .int f_places, .ref a_gains, .ref a_lows, .ref a_highs])), (a_gains, .inl (cA 0, 8, .inl f_gains)), (a_lows, .inl (cA 0, 8, .inl f_lows)), (a_highs, .inl (cA 0, 8, .inl f_highs))]) (vp_Sl post) 0 0 (fun _ => False) := by
  refine z_ro (cc := cX1_signsLow) (maxL := 2) (ret := (some .long)) (by decide) rfl (Nat.le_of_ble_eq_true rfl) ?_
  intro p e s m args below meth c ls hx hb hr hlk hml hown hts hK hP hl
  have hown : s.vm.findClass RX1 = some m.cls := hown
  have hl : lv_has ls 2 [(0, .ref a0), (1, .int p1)] := hl
  have hw := h
  unfold wX1_signsLow at hw
  have iwX1 : ∀ w ∈ wsX10, w ∈ wsX1_signsLow := fun w h9 => List.mem_cons_of_mem _ (List.mem_append_right _ h9)
  have kf25 := hts (.fieldLink RX1 25 "ExcessTree$Row" "low" "J") (by decide +kernel)
  have kf29 := hts (.fieldLink RX1 29 "ExcessTree$Row" "high" "J") (by decide +kernel)
  have kl50 := hts (.constantLong RX1 50 (-1)) (by decide +kernel)
  have kf21 := hts (.fieldLink RX1 21 "ExcessTree$Row" "places" "I") (by decide +kernel)
  refine lv_iload_n hx hb dX1_signsLow_0 rfl (lv_at hl 1 rfl) ?_
  refine lv_if_ne (tgt := 9) hx hb dX1_signsLow_1 (by decide) (fun c_1 => ?_) (fun c_1 => ?_)
  · have hw := hw.1 c_1
    refine lv_iload_n hx hb dX1_signsLow_9 rfl (lv_at hl 1 rfl) ?_
    refine lv_iconst (v := 1) hx hb dX1_signsLow_10 (by decide) ?_
    refine lv_icmp_ne (tgt := 33) hx hb dX1_signsLow_11 (by decide) (fun c_2 => ?_) (fun c_2 => ?_)
    · have hw := hw.1 c_2
      refine lv_aload_n hx hb dX1_signsLow_33 rfl (lv_at hl 0 rfl) ?_
      refine va_get (D := D) (ci := 0) (v := .long f_low) (C := RX1) (T := TX1) (N := 6) hx hb hts iwX1 hown hK.1 hP 0 rfl rfl 0 (by decide) kf25 (fun _ h9 => h9) rfl dX1_signsLow_34 ?_
      refine lv_aload_n hx hb dX1_signsLow_37 rfl (lv_at hl 0 rfl) ?_
      refine va_get (D := D) (ci := 0) (v := .long f_low) (C := RX1) (T := TX1) (N := 6) hx hb hts iwX1 hown hK.1 hP 0 rfl rfl 0 (by decide) kf25 (fun _ h9 => h9) rfl dX1_signsLow_38 ?_
      refine lv_aload_n hx hb dX1_signsLow_41 rfl (lv_at hl 0 rfl) ?_
      refine va_get (D := D) (ci := 0) (v := .long f_high) (C := RX1) (T := TX1) (N := 6) hx hb hts iwX1 hown hK.1 hP 0 rfl rfl 1 (by decide) kf29 (fun _ h9 => h9) rfl dX1_signsLow_42 ?_
      refine lv_iconst (v := 1) hx hb dX1_signsLow_45 (by decide) ?_
      refine z_sl [.long f_low, .long f_high, .int (1 : Int32)] [.long f_low] ⟨hx, hb, hml, hown, hts⟩ (kX0_downLow l D cA f_low f_high (1 : Int32) _ hw) (va_cwS 3 hts gX1_signsLow_X0_downLow rfl rfl rfl vX0_downLow ⟨Nat.le_of_ble_eq_true rfl, Nat.le_of_ble_eq_true rfl⟩) hK z_p0 rfl hl.1 rfl (Nat.le_of_ble_eq_true rfl) dX1_signsLow_46 ⟨Nat.zero_le _, Nat.zero_le _⟩ (fun r_3 hw => ?_)
      refine lv_ldc2 (v := -1) hx hb hown kl50 dX1_signsLow_49 ?_
      refine lv_lxor hx hb dX1_signsLow_52 ?_
      refine lv_land hx hb dX1_signsLow_53 ?_
      exact z_lret hx hb hr hlk hw dX1_signsLow_54
    · have hw := hw.2 c_2
      refine lv_aload_n hx hb dX1_signsLow_14 rfl (lv_at hl 0 rfl) ?_
      refine va_get (D := D) (ci := 0) (v := .long f_low) (C := RX1) (T := TX1) (N := 6) hx hb hts iwX1 hown hK.1 hP 0 rfl rfl 0 (by decide) kf25 (fun _ h9 => h9) rfl dX1_signsLow_15 ?_
      refine lv_ldc2 (v := -1) hx hb hown kl50 dX1_signsLow_18 ?_
      refine lv_lxor hx hb dX1_signsLow_21 ?_
      refine lv_aload_n hx hb dX1_signsLow_22 rfl (lv_at hl 0 rfl) ?_
      refine va_get (D := D) (ci := 0) (v := .int f_places) (C := RX1) (T := TX1) (N := 6) hx hb hts iwX1 hown hK.1 hP 0 rfl rfl 2 (by decide) kf21 (fun _ h9 => h9) rfl dX1_signsLow_23 ?_
      refine z_sl [.int f_places] [.long (f_low ^^^ (-1 : Int64))] ⟨hx, hb, hml, hown, hts⟩ (kX0_firstOf l D cA f_places _ hw) (va_cwS 1 hts gX1_signsLow_X0_firstOf rfl rfl rfl vX0_firstOf ⟨Nat.le_of_ble_eq_true rfl, Nat.le_of_ble_eq_true rfl⟩) hK z_p0 rfl hl.1 rfl (Nat.le_of_ble_eq_true rfl) dX1_signsLow_26 ⟨Nat.zero_le _, Nat.zero_le _⟩ (fun r_4 hw => ?_)
      refine lv_land hx hb dX1_signsLow_29 ?_
      refine lv_goto (tgt := 54) hx hb dX1_signsLow_30 (by decide) ?_
      exact z_lret hx hb hr hlk hw dX1_signsLow_54
  · have hw := hw.2 c_1
    refine lv_aload_n hx hb dX1_signsLow_4 rfl (lv_at hl 0 rfl) ?_
    refine va_get (D := D) (ci := 0) (v := .long f_low) (C := RX1) (T := TX1) (N := 6) hx hb hts iwX1 hown hK.1 hP 0 rfl rfl 0 (by decide) kf25 (fun _ h9 => h9) rfl dX1_signsLow_5 ?_
    exact z_lret hx hb hr hlk hw dX1_signsLow_8
def wX1_signsHigh (f_high : Int64) (f_places : Int32) (p1 : Int32) (post : Int64 → Prop) : Prop := ((¬ p1 = 0 → ((¬ p1 = (1 : Int32) → (wX0_downHigh f_high (1 : Int32) (fun r_3 : Int64 => (post (f_high &&& (r_3 ^^^ (-1 : Int64))))))) ∧ (p1 = (1 : Int32) → (wX0_firstOf (f_places - (64 : Int32)) (fun r_4 : Int64 => (post ((f_high ^^^ (-1 : Int64)) &&& r_4))))))) ∧ (p1 = 0 → post f_high))
abbrev rX1_signsHigh : Room := { frames := 1, cells := 0, slots := 0, locals := 22 }
theorem vX1_signsHigh : yX1_signsHigh.cls = RX1 ∧ yX1_signsHigh.cls ≠ "java/lang/invoke/MethodHandle" ∧ yX1_signsHigh.cls ≠ "java/lang/invoke/VarHandle" ∧ (parseMethodDescriptor yX1_signsHigh.desc).map (fun d => d.parameters.length) = some 1 := by decide +kernel
set_option maxHeartbeats 4000000 in
set_option maxRecDepth 100000 in
theorem kX1_signsHigh (l : Launch) (D : va_G) (cA : Nat → ClassId) (a0 a_gains a_lows a_highs : Nat) (f_low : Int64) (f_high : Int64) (f_places : Int32) (f_gains : Nat → Int32) (f_lows : Nat → Int32) (f_highs : Nat → Int32) (p1 : Int32) (post : Int64 → Prop) (h : wX1_signsHigh f_high f_places p1 post) : Met l yX1_signsHigh wsX1_signsHigh rX1_signsHigh (zPr D cA [.ref a0, .int p1] [(a0, .inr (0, [.long f_low, .long f_high, .int f_places, .ref a_gains, .ref a_lows, .ref a_highs])), (a_gains, .inl (cA 0, 8, .inl f_gains)), (a_lows, .inl (cA 0, 8, .inl f_lows)), (a_highs, .inl (cA 0, 8, .inl f_highs))]) (vp_Sl post) 0 0 (fun _ => False) := by
  refine z_ro (cc := cX1_signsHigh) (maxL := 2) (ret := (some .long)) (by decide) rfl (Nat.le_of_ble_eq_true rfl) ?_
  intro p e s m args below meth c ls hx hb hr hlk hml hown hts hK hP hl
  have hown : s.vm.findClass RX1 = some m.cls := hown
  have hl : lv_has ls 2 [(0, .ref a0), (1, .int p1)] := hl
  have hw := h
  unfold wX1_signsHigh at hw
  have iwX1 : ∀ w ∈ wsX10, w ∈ wsX1_signsHigh := fun w h9 => List.mem_cons_of_mem _ (List.mem_append_right _ h9)
  have kf29 := hts (.fieldLink RX1 29 "ExcessTree$Row" "high" "J") (by decide +kernel)
  have kl50 := hts (.constantLong RX1 50 (-1)) (by decide +kernel)
  have kf21 := hts (.fieldLink RX1 21 "ExcessTree$Row" "places" "I") (by decide +kernel)
  refine lv_iload_n hx hb dX1_signsHigh_0 rfl (lv_at hl 1 rfl) ?_
  refine lv_if_ne (tgt := 9) hx hb dX1_signsHigh_1 (by decide) (fun c_1 => ?_) (fun c_1 => ?_)
  · have hw := hw.1 c_1
    refine lv_iload_n hx hb dX1_signsHigh_9 rfl (lv_at hl 1 rfl) ?_
    refine lv_iconst (v := 1) hx hb dX1_signsHigh_10 (by decide) ?_
    refine lv_icmp_ne (tgt := 36) hx hb dX1_signsHigh_11 (by decide) (fun c_2 => ?_) (fun c_2 => ?_)
    · have hw := hw.1 c_2
      refine lv_aload_n hx hb dX1_signsHigh_36 rfl (lv_at hl 0 rfl) ?_
      refine va_get (D := D) (ci := 0) (v := .long f_high) (C := RX1) (T := TX1) (N := 6) hx hb hts iwX1 hown hK.1 hP 0 rfl rfl 1 (by decide) kf29 (fun _ h9 => h9) rfl dX1_signsHigh_37 ?_
      refine lv_aload_n hx hb dX1_signsHigh_40 rfl (lv_at hl 0 rfl) ?_
      refine va_get (D := D) (ci := 0) (v := .long f_high) (C := RX1) (T := TX1) (N := 6) hx hb hts iwX1 hown hK.1 hP 0 rfl rfl 1 (by decide) kf29 (fun _ h9 => h9) rfl dX1_signsHigh_41 ?_
      refine lv_iconst (v := 1) hx hb dX1_signsHigh_44 (by decide) ?_
      refine z_sl [.long f_high, .int (1 : Int32)] [.long f_high] ⟨hx, hb, hml, hown, hts⟩ (kX0_downHigh l D cA f_high (1 : Int32) _ hw) (va_cwS 2 hts gX1_signsHigh_X0_downHigh rfl rfl rfl vX0_downHigh ⟨Nat.le_of_ble_eq_true rfl, Nat.le_of_ble_eq_true rfl⟩) hK z_p0 rfl hl.1 rfl (Nat.le_of_ble_eq_true rfl) dX1_signsHigh_45 ⟨Nat.zero_le _, Nat.zero_le _⟩ (fun r_3 hw => ?_)
      refine lv_ldc2 (v := -1) hx hb hown kl50 dX1_signsHigh_48 ?_
      refine lv_lxor hx hb dX1_signsHigh_51 ?_
      refine lv_land hx hb dX1_signsHigh_52 ?_
      exact z_lret hx hb hr hlk hw dX1_signsHigh_53
    · have hw := hw.2 c_2
      refine lv_aload_n hx hb dX1_signsHigh_14 rfl (lv_at hl 0 rfl) ?_
      refine va_get (D := D) (ci := 0) (v := .long f_high) (C := RX1) (T := TX1) (N := 6) hx hb hts iwX1 hown hK.1 hP 0 rfl rfl 1 (by decide) kf29 (fun _ h9 => h9) rfl dX1_signsHigh_15 ?_
      refine lv_ldc2 (v := -1) hx hb hown kl50 dX1_signsHigh_18 ?_
      refine lv_lxor hx hb dX1_signsHigh_21 ?_
      refine lv_aload_n hx hb dX1_signsHigh_22 rfl (lv_at hl 0 rfl) ?_
      refine va_get (D := D) (ci := 0) (v := .int f_places) (C := RX1) (T := TX1) (N := 6) hx hb hts iwX1 hown hK.1 hP 0 rfl rfl 2 (by decide) kf21 (fun _ h9 => h9) rfl dX1_signsHigh_23 ?_
      refine lv_bipush (v := 64) hx hb dX1_signsHigh_26 (by decide) ?_
      refine lv_isub hx hb dX1_signsHigh_28 ?_
      refine z_sl [.int (f_places - (64 : Int32))] [.long (f_high ^^^ (-1 : Int64))] ⟨hx, hb, hml, hown, hts⟩ (kX0_firstOf l D cA (f_places - (64 : Int32)) _ hw) (va_cwS 1 hts gX1_signsHigh_X0_firstOf rfl rfl rfl vX0_firstOf ⟨Nat.le_of_ble_eq_true rfl, Nat.le_of_ble_eq_true rfl⟩) hK z_p0 rfl hl.1 rfl (Nat.le_of_ble_eq_true rfl) dX1_signsHigh_29 ⟨Nat.zero_le _, Nat.zero_le _⟩ (fun r_4 hw => ?_)
      refine lv_land hx hb dX1_signsHigh_32 ?_
      refine lv_goto (tgt := 53) hx hb dX1_signsHigh_33 (by decide) ?_
      exact z_lret hx hb hr hlk hw dX1_signsHigh_53
  · have hw := hw.2 c_1
    refine lv_aload_n hx hb dX1_signsHigh_4 rfl (lv_at hl 0 rfl) ?_
    refine va_get (D := D) (ci := 0) (v := .long f_high) (C := RX1) (T := TX1) (N := 6) hx hb hts iwX1 hown hK.1 hP 0 rfl rfl 1 (by decide) kf29 (fun _ h9 => h9) rfl dX1_signsHigh_5 ?_
    exact z_lret hx hb hr hlk hw dX1_signsHigh_8
def wX1_signsAhead (f_low : Int64) (f_high : Int64) (f_places : Int32) (p1 : Int32) (p2 : Int32) (post : Int32 → Prop) : Prop := (wX1_signsLow f_low f_high f_places p2 (fun r_1 : Int64 => ((wX0_firstOf p1 (fun r_2 : Int64 => ((wJ13_bitCount_95d88 (r_1 &&& r_2) (fun r_3 : Int32 => ((wX1_signsHigh f_high f_places p2 (fun r_4 : Int64 => ((wX0_firstOf (p1 - (64 : Int32)) (fun r_5 : Int64 => ((wJ13_bitCount_95d88 (r_4 &&& r_5) (fun r_6 : Int32 => (post (r_3 + r_6)))))))))))))))))))
abbrev rX1_signsAhead : Room := { frames := 2, cells := 0, slots := 0, locals := 45 }
theorem vX1_signsAhead : yX1_signsAhead.cls = RX1 ∧ yX1_signsAhead.cls ≠ "java/lang/invoke/MethodHandle" ∧ yX1_signsAhead.cls ≠ "java/lang/invoke/VarHandle" ∧ (parseMethodDescriptor yX1_signsAhead.desc).map (fun d => d.parameters.length) = some 2 := by decide +kernel
set_option maxHeartbeats 4000000 in
set_option maxRecDepth 100000 in
theorem kX1_signsAhead (l : Launch) (D : va_G) (cA : Nat → ClassId) (a0 a_gains a_lows a_highs : Nat) (f_low : Int64) (f_high : Int64) (f_places : Int32) (f_gains : Nat → Int32) (f_lows : Nat → Int32) (f_highs : Nat → Int32) (p1 : Int32) (p2 : Int32) (post : Int32 → Prop) (h : wX1_signsAhead f_low f_high f_places p1 p2 post) : Met l yX1_signsAhead wsX1_signsAhead rX1_signsAhead (zPr D cA [.ref a0, .int p1, .int p2] [(a0, .inr (0, [.long f_low, .long f_high, .int f_places, .ref a_gains, .ref a_lows, .ref a_highs])), (a_gains, .inl (cA 0, 8, .inl f_gains)), (a_lows, .inl (cA 0, 8, .inl f_lows)), (a_highs, .inl (cA 0, 8, .inl f_highs))]) (vp_Si post) 0 0 (fun _ => False) := by
  refine z_ro (cc := cX1_signsAhead) (maxL := 3) (ret := (some .int)) (by decide) rfl (Nat.le_of_ble_eq_true rfl) ?_
  intro p e s m args below meth c ls hx hb hr hlk hml hown hts hK hP hl
  have hown : s.vm.findClass RX1 = some m.cls := hown
  have hl : lv_has ls 3 [(0, .ref a0), (1, .int p1), (2, .int p2)] := hl
  have hw := h
  unfold wX1_signsAhead at hw
  refine lv_aload_n hx hb dX1_signsAhead_0 rfl (lv_at hl 0 rfl) ?_
  refine lv_iload_n hx hb dX1_signsAhead_1 rfl (lv_at hl 2 rfl) ?_
  refine z_rl [.int p2] [] ⟨hx, hb, hml, hown, hts⟩ (kX1_signsLow l D cA a0 a_gains a_lows a_highs f_low f_high f_places f_gains f_lows f_highs p2 _ hw) (cwV 1 hts gX1_signsAhead_X1_signsLow rfl rfl rfl vX1_signsLow ⟨Nat.le_of_ble_eq_true rfl, Nat.le_of_ble_eq_true rfl⟩) hK (hP.sub [0, 1, 2, 3] rfl) (va_recv hK.1 (hP.sub (ws' := [(a0, .inr (0, [.long f_low, .long f_high, .int f_places, .ref a_gains, .ref a_lows, .ref a_highs]))]) [0] rfl) (ci := 0) (q0 := 0) rfl rfl) rfl hl.1 rfl (Nat.le_of_ble_eq_true rfl) dX1_signsAhead_2 ⟨Nat.zero_le _, Nat.zero_le _⟩ (fun r_1 hw => ?_)
  refine lv_iload_n hx hb dX1_signsAhead_5 rfl (lv_at hl 1 rfl) ?_
  refine z_sl [.int p1] [.long r_1] ⟨hx, hb, hml, hown, hts⟩ (kX0_firstOf l D cA p1 _ hw) (va_cwS 1 hts gX1_signsAhead_X0_firstOf rfl rfl rfl vX0_firstOf ⟨Nat.le_of_ble_eq_true rfl, Nat.le_of_ble_eq_true rfl⟩) hK z_p0 rfl hl.1 rfl (Nat.le_of_ble_eq_true rfl) dX1_signsAhead_6 ⟨Nat.zero_le _, Nat.zero_le _⟩ (fun r_2 hw => ?_)
  refine lv_land hx hb dX1_signsAhead_9 ?_
  refine z_si [.long (r_1 &&& r_2)] [] ⟨hx, hb, hml, hown, hts⟩ (kJ13_bitCount_95d88 l D cA (r_1 &&& r_2) _ hw) (va_cwS 1 hts gX1_signsAhead_J13_bitCount_95d88 rfl rfl rfl vJ13_bitCount_95d88 ⟨Nat.le_of_ble_eq_true rfl, Nat.le_of_ble_eq_true rfl⟩) hK z_p0 rfl hl.1 rfl (Nat.le_of_ble_eq_true rfl) dX1_signsAhead_10 ⟨Nat.zero_le _, Nat.zero_le _⟩ (fun r_3 hw => ?_)
  refine lv_aload_n hx hb dX1_signsAhead_13 rfl (lv_at hl 0 rfl) ?_
  refine lv_iload_n hx hb dX1_signsAhead_14 rfl (lv_at hl 2 rfl) ?_
  refine z_rl [.int p2] [.int r_3] ⟨hx, hb, hml, hown, hts⟩ (kX1_signsHigh l D cA a0 a_gains a_lows a_highs f_low f_high f_places f_gains f_lows f_highs p2 _ hw) (cwV 1 hts gX1_signsAhead_X1_signsHigh rfl rfl rfl vX1_signsHigh ⟨Nat.le_of_ble_eq_true rfl, Nat.le_of_ble_eq_true rfl⟩) hK (hP.sub [0, 1, 2, 3] rfl) (va_recv hK.1 (hP.sub (ws' := [(a0, .inr (0, [.long f_low, .long f_high, .int f_places, .ref a_gains, .ref a_lows, .ref a_highs]))]) [0] rfl) (ci := 0) (q0 := 0) rfl rfl) rfl hl.1 rfl (Nat.le_of_ble_eq_true rfl) dX1_signsAhead_15 ⟨Nat.zero_le _, Nat.zero_le _⟩ (fun r_4 hw => ?_)
  refine lv_iload_n hx hb dX1_signsAhead_18 rfl (lv_at hl 1 rfl) ?_
  refine lv_bipush (v := 64) hx hb dX1_signsAhead_19 (by decide) ?_
  refine lv_isub hx hb dX1_signsAhead_21 ?_
  refine z_sl [.int (p1 - (64 : Int32))] [.long r_4, .int r_3] ⟨hx, hb, hml, hown, hts⟩ (kX0_firstOf l D cA (p1 - (64 : Int32)) _ hw) (va_cwS 1 hts gX1_signsAhead_X0_firstOf rfl rfl rfl vX0_firstOf ⟨Nat.le_of_ble_eq_true rfl, Nat.le_of_ble_eq_true rfl⟩) hK z_p0 rfl hl.1 rfl (Nat.le_of_ble_eq_true rfl) dX1_signsAhead_22 ⟨Nat.zero_le _, Nat.zero_le _⟩ (fun r_5 hw => ?_)
  refine lv_land hx hb dX1_signsAhead_25 ?_
  refine z_si [.long (r_4 &&& r_5)] [.int r_3] ⟨hx, hb, hml, hown, hts⟩ (kJ13_bitCount_95d88 l D cA (r_4 &&& r_5) _ hw) (va_cwS 1 hts gX1_signsAhead_J13_bitCount_95d88 rfl rfl rfl vJ13_bitCount_95d88 ⟨Nat.le_of_ble_eq_true rfl, Nat.le_of_ble_eq_true rfl⟩) hK z_p0 rfl hl.1 rfl (Nat.le_of_ble_eq_true rfl) dX1_signsAhead_26 ⟨Nat.zero_le _, Nat.zero_le _⟩ (fun r_6 hw => ?_)
  refine lv_iadd hx hb dX1_signsAhead_29 ?_
  exact z_iret hx hb hr hlk hw dX1_signsAhead_30
def wX1_placeOfSign (f_low : Int64) (f_high : Int64) (f_places : Int32) (p1 : Int32) (p2 : Int32) (post : Int32 → Prop) : Prop := (wX1_signsLow f_low f_high f_places p2 (fun r_1 : Int64 => ((wJ13_bitCount_95d88 r_1 (fun r_2 : Int32 => (((r_2 ≤ p1 → (wX1_signsHigh f_high f_places p2 (fun r_4 : Int64 => ((∀ x_5 : Int32, x_5 = (p1 - r_2) → (wJ13_bitCount_95d88 r_4 (fun r_6 : Int32 => (((r_6 ≤ x_5 → post (-4 : Int32)) ∧ (¬ r_6 ≤ x_5 → (wX0_indexOfOne r_4 x_5 (fun r_8 : Int32 => (post ((64 : Int32) + r_8)))))))))))))) ∧ (¬ r_2 ≤ p1 → (wX0_indexOfOne r_1 p1 (fun r_9 : Int32 => (post r_9)))))))))))
abbrev rX1_placeOfSign : Room := { frames := 2, cells := 0, slots := 0, locals := 46 }
theorem vX1_placeOfSign : yX1_placeOfSign.cls = RX1 ∧ yX1_placeOfSign.cls ≠ "java/lang/invoke/MethodHandle" ∧ yX1_placeOfSign.cls ≠ "java/lang/invoke/VarHandle" ∧ (parseMethodDescriptor yX1_placeOfSign.desc).map (fun d => d.parameters.length) = some 2 := by decide +kernel
set_option maxHeartbeats 4000000 in
set_option maxRecDepth 100000 in
theorem kX1_placeOfSign (l : Launch) (D : va_G) (cA : Nat → ClassId) (a0 a_gains a_lows a_highs : Nat) (f_low : Int64) (f_high : Int64) (f_places : Int32) (f_gains : Nat → Int32) (f_lows : Nat → Int32) (f_highs : Nat → Int32) (p1 : Int32) (p2 : Int32) (post : Int32 → Prop) (h : wX1_placeOfSign f_low f_high f_places p1 p2 post) : Met l yX1_placeOfSign wsX1_placeOfSign rX1_placeOfSign (zPr D cA [.ref a0, .int p1, .int p2] [(a0, .inr (0, [.long f_low, .long f_high, .int f_places, .ref a_gains, .ref a_lows, .ref a_highs])), (a_gains, .inl (cA 0, 8, .inl f_gains)), (a_lows, .inl (cA 0, 8, .inl f_lows)), (a_highs, .inl (cA 0, 8, .inl f_highs))]) (vp_Si post) 0 0 (fun _ => False) := by
  refine z_ro (cc := cX1_placeOfSign) (maxL := 9) (ret := (some .int)) (by decide) rfl (Nat.le_of_ble_eq_true rfl) ?_
  intro p e s m args below meth c ls hx hb hr hlk hml hown hts hK hP hl
  have hown : s.vm.findClass RX1 = some m.cls := hown
  have hl : lv_has ls 9 [(0, .ref a0), (1, .int p1), (2, .int p2)] := hl
  have hw := h
  unfold wX1_placeOfSign at hw
  refine lv_aload_n hx hb dX1_placeOfSign_0 rfl (lv_at hl 0 rfl) ?_
  refine lv_iload_n hx hb dX1_placeOfSign_1 rfl (lv_at hl 2 rfl) ?_
  refine z_rl [.int p2] [] ⟨hx, hb, hml, hown, hts⟩ (kX1_signsLow l D cA a0 a_gains a_lows a_highs f_low f_high f_places f_gains f_lows f_highs p2 _ hw) (cwV 1 hts gX1_placeOfSign_X1_signsLow rfl rfl rfl vX1_signsLow ⟨Nat.le_of_ble_eq_true rfl, Nat.le_of_ble_eq_true rfl⟩) hK (hP.sub [0, 1, 2, 3] rfl) (va_recv hK.1 (hP.sub (ws' := [(a0, .inr (0, [.long f_low, .long f_high, .int f_places, .ref a_gains, .ref a_lows, .ref a_highs]))]) [0] rfl) (ci := 0) (q0 := 0) rfl rfl) rfl hl.1 rfl (Nat.le_of_ble_eq_true rfl) dX1_placeOfSign_2 ⟨Nat.zero_le _, Nat.zero_le _⟩ (fun r_1 hw => ?_)
  refine lv_lstore_n (lv' := [(3, .long r_1), (0, .ref a0), (1, .int p1), (2, .int p2)]) hx hb dX1_placeOfSign_5 rfl hl (by decide) rfl (fun ls hl => ?_)
  refine lv_lload_n hx hb dX1_placeOfSign_6 rfl (lv_at hl 0 rfl) ?_
  refine z_si [.long r_1] [] ⟨hx, hb, hml, hown, hts⟩ (kJ13_bitCount_95d88 l D cA r_1 _ hw) (va_cwS 1 hts gX1_placeOfSign_J13_bitCount_95d88 rfl rfl rfl vJ13_bitCount_95d88 ⟨Nat.le_of_ble_eq_true rfl, Nat.le_of_ble_eq_true rfl⟩) hK z_p0 rfl hl.1 rfl (Nat.le_of_ble_eq_true rfl) dX1_placeOfSign_7 ⟨Nat.zero_le _, Nat.zero_le _⟩ (fun r_2 hw => ?_)
  refine lv_istore (lv' := [(5, .int r_2), (3, .long r_1), (0, .ref a0), (1, .int p1), (2, .int p2)]) hx hb dX1_placeOfSign_10 hl (by decide) rfl (fun ls hl => ?_)
  refine lv_iload_n hx hb dX1_placeOfSign_12 rfl (lv_at hl 3 rfl) ?_
  refine lv_iload hx hb dX1_placeOfSign_13 (lv_at hl 0 rfl) ?_
  refine lv_icmp_ge (tgt := 24) hx hb dX1_placeOfSign_15 (by decide) (fun c_3 => ?_) (fun c_3 => ?_)
  · have hw := hw.1 c_3
    refine lv_aload_n hx hb dX1_placeOfSign_24 rfl (lv_at hl 2 rfl) ?_
    refine lv_iload_n hx hb dX1_placeOfSign_25 rfl (lv_at hl 4 rfl) ?_
    refine z_rl [.int p2] [] ⟨hx, hb, hml, hown, hts⟩ (kX1_signsHigh l D cA a0 a_gains a_lows a_highs f_low f_high f_places f_gains f_lows f_highs p2 _ hw) (cwV 1 hts gX1_placeOfSign_X1_signsHigh rfl rfl rfl vX1_signsHigh ⟨Nat.le_of_ble_eq_true rfl, Nat.le_of_ble_eq_true rfl⟩) hK (hP.sub [0, 1, 2, 3] rfl) (va_recv hK.1 (hP.sub (ws' := [(a0, .inr (0, [.long f_low, .long f_high, .int f_places, .ref a_gains, .ref a_lows, .ref a_highs]))]) [0] rfl) (ci := 0) (q0 := 0) rfl rfl) rfl hl.1 rfl (Nat.le_of_ble_eq_true rfl) dX1_placeOfSign_26 ⟨Nat.zero_le _, Nat.zero_le _⟩ (fun r_4 hw => ?_)
    refine lv_lstore (lv' := [(6, .long r_4), (5, .int r_2), (3, .long r_1), (0, .ref a0), (1, .int p1), (2, .int p2)]) hx hb dX1_placeOfSign_29 hl (by decide) rfl (fun ls hl => ?_)
    refine lv_iload_n hx hb dX1_placeOfSign_31 rfl (lv_at hl 4 rfl) ?_
    refine lv_iload hx hb dX1_placeOfSign_32 (lv_at hl 1 rfl) ?_
    refine lv_isub hx hb dX1_placeOfSign_34 ?_
    refine lv_topi (fun x_5 ex_5 => ?_)
    have hw := hw x_5 ex_5
    refine lv_istore (lv' := [(8, .int x_5), (6, .long r_4), (5, .int r_2), (3, .long r_1), (0, .ref a0), (1, .int p1), (2, .int p2)]) hx hb dX1_placeOfSign_35 hl (by decide) rfl (fun ls hl => ?_)
    refine lv_iload hx hb dX1_placeOfSign_37 (lv_at hl 0 rfl) ?_
    refine lv_lload hx hb dX1_placeOfSign_39 (lv_at hl 1 rfl) ?_
    refine z_si [.long r_4] [.int x_5] ⟨hx, hb, hml, hown, hts⟩ (kJ13_bitCount_95d88 l D cA r_4 _ hw) (va_cwS 1 hts gX1_placeOfSign_J13_bitCount_95d88 rfl rfl rfl vJ13_bitCount_95d88 ⟨Nat.le_of_ble_eq_true rfl, Nat.le_of_ble_eq_true rfl⟩) hK z_p0 rfl hl.1 rfl (Nat.le_of_ble_eq_true rfl) dX1_placeOfSign_41 ⟨Nat.zero_le _, Nat.zero_le _⟩ (fun r_6 hw => ?_)
    refine lv_icmp_ge (tgt := 60) hx hb dX1_placeOfSign_44 (by decide) (fun c_7 => ?_) (fun c_7 => ?_)
    · have hw := hw.1 c_7
      refine lv_bipush (v := -4) hx hb dX1_placeOfSign_60 (by decide) ?_
      exact z_iret hx hb hr hlk hw dX1_placeOfSign_62
    · have hw := hw.2 c_7
      refine lv_bipush (v := 64) hx hb dX1_placeOfSign_47 (by decide) ?_
      refine lv_lload hx hb dX1_placeOfSign_49 (lv_at hl 1 rfl) ?_
      refine lv_iload hx hb dX1_placeOfSign_51 (lv_at hl 0 rfl) ?_
      refine z_si [.long r_4, .int x_5] [.int (64 : Int32)] ⟨hx, hb, hml, hown, hts⟩ (kX0_indexOfOne l D cA r_4 x_5 _ hw) (va_cwS 2 hts gX1_placeOfSign_X0_indexOfOne rfl rfl rfl vX0_indexOfOne ⟨Nat.le_of_ble_eq_true rfl, Nat.le_of_ble_eq_true rfl⟩) hK z_p0 rfl hl.1 rfl (Nat.le_of_ble_eq_true rfl) dX1_placeOfSign_53 ⟨Nat.zero_le _, Nat.zero_le _⟩ (fun r_8 hw => ?_)
      refine lv_iadd hx hb dX1_placeOfSign_56 ?_
      refine lv_goto (tgt := 62) hx hb dX1_placeOfSign_57 (by decide) ?_
      exact z_iret hx hb hr hlk hw dX1_placeOfSign_62
  · have hw := hw.2 c_3
    refine lv_lload_n hx hb dX1_placeOfSign_18 rfl (lv_at hl 1 rfl) ?_
    refine lv_iload_n hx hb dX1_placeOfSign_19 rfl (lv_at hl 3 rfl) ?_
    refine z_si [.long r_1, .int p1] [] ⟨hx, hb, hml, hown, hts⟩ (kX0_indexOfOne l D cA r_1 p1 _ hw) (va_cwS 2 hts gX1_placeOfSign_X0_indexOfOne rfl rfl rfl vX0_indexOfOne ⟨Nat.le_of_ble_eq_true rfl, Nat.le_of_ble_eq_true rfl⟩) hK z_p0 rfl hl.1 rfl (Nat.le_of_ble_eq_true rfl) dX1_placeOfSign_20 ⟨Nat.zero_le _, Nat.zero_le _⟩ (fun r_9 hw => ?_)
    exact z_iret hx hb hr hlk hw dX1_placeOfSign_23
def wX1_reaches (f_lows : Nat → Int32) (f_highs : Nat → Int32) (p1 : Int32) (p2 : Int32) (post : Int32 → Prop) : Prop := (vp_in p1 8 ∧ ((p2 < (f_lows p1.toNatClampNeg) → post (0 : Int32)) ∧ (¬ p2 < (f_lows p1.toNatClampNeg) → (vp_in p1 8 ∧ (((f_highs p1.toNatClampNeg) < p2 → post (0 : Int32)) ∧ (¬ (f_highs p1.toNatClampNeg) < p2 → post (1 : Int32)))))))
abbrev rX1_reaches : Room := { frames := 0, cells := 0, slots := 0, locals := 0 }
theorem vX1_reaches : yX1_reaches.cls = RX1 ∧ yX1_reaches.cls ≠ "java/lang/invoke/MethodHandle" ∧ yX1_reaches.cls ≠ "java/lang/invoke/VarHandle" ∧ (parseMethodDescriptor yX1_reaches.desc).map (fun d => d.parameters.length) = some 2 := by decide +kernel
set_option maxHeartbeats 4000000 in
set_option maxRecDepth 100000 in
theorem kX1_reaches (l : Launch) (D : va_G) (cA : Nat → ClassId) (a0 a_gains a_lows a_highs : Nat) (f_low : Int64) (f_high : Int64) (f_places : Int32) (f_gains : Nat → Int32) (f_lows : Nat → Int32) (f_highs : Nat → Int32) (p1 : Int32) (p2 : Int32) (post : Int32 → Prop) (h : wX1_reaches f_lows f_highs p1 p2 post) : Met l yX1_reaches wsX1_reaches rX1_reaches (zPr D cA [.ref a0, .int p1, .int p2] [(a0, .inr (0, [.long f_low, .long f_high, .int f_places, .ref a_gains, .ref a_lows, .ref a_highs])), (a_gains, .inl (cA 0, 8, .inl f_gains)), (a_lows, .inl (cA 0, 8, .inl f_lows)), (a_highs, .inl (cA 0, 8, .inl f_highs))]) (vp_Si post) 0 0 (fun _ => False) := by
  refine z_ro (cc := cX1_reaches) (maxL := 3) (ret := (some .boolean)) (by decide) rfl (Nat.le_of_ble_eq_true rfl) ?_
  intro p e s m args below meth c ls hx hb hr hlk hml hown hts hK hP hl
  have hown : s.vm.findClass RX1 = some m.cls := hown
  have hl : lv_has ls 3 [(0, .ref a0), (1, .int p1), (2, .int p2)] := hl
  have hw := h
  unfold wX1_reaches at hw
  have iwX1 : ∀ w ∈ wsX10, w ∈ wsX1_reaches := fun w h9 => List.mem_cons_of_mem _ (List.mem_append_right _ h9)
  have kf15 := hts (.fieldLink RX1 15 "ExcessTree$Row" "lows" "[I") (by decide +kernel)
  have kf18 := hts (.fieldLink RX1 18 "ExcessTree$Row" "highs" "[I") (by decide +kernel)
  refine lv_aload_n hx hb dX1_reaches_0 rfl (lv_at hl 0 rfl) ?_
  refine va_get (D := D) (ci := 0) (v := .ref a_lows) (C := RX1) (T := TX1) (N := 6) hx hb hts iwX1 hown hK.1 hP 0 rfl rfl 4 (by decide) kf15 (fun _ h9 => h9) rfl dX1_reaches_1 ?_
  refine lv_iload_n hx hb dX1_reaches_4 rfl (lv_at hl 1 rfl) ?_
  have hq := hw.1
  have hw := hw.2
  refine va_iald hx hb hK.1 hP 2 0 rfl rfl hq dX1_reaches_5 ?_
  refine lv_iload_n hx hb dX1_reaches_6 rfl (lv_at hl 2 rfl) ?_
  refine lv_icmp_gt (tgt := 24) hx hb dX1_reaches_7 (by decide) (fun c_1 => ?_) (fun c_1 => ?_)
  · have hw := hw.1 c_1
    refine lv_iconst (v := 0) hx hb dX1_reaches_24 (by decide) ?_
    exact z_zret hx hb hr hlk rfl hw dX1_reaches_25
  · have hw := hw.2 c_1
    refine lv_iload_n hx hb dX1_reaches_10 rfl (lv_at hl 2 rfl) ?_
    refine lv_aload_n hx hb dX1_reaches_11 rfl (lv_at hl 0 rfl) ?_
    refine va_get (D := D) (ci := 0) (v := .ref a_highs) (C := RX1) (T := TX1) (N := 6) hx hb hts iwX1 hown hK.1 hP 0 rfl rfl 5 (by decide) kf18 (fun _ h9 => h9) rfl dX1_reaches_12 ?_
    refine lv_iload_n hx hb dX1_reaches_15 rfl (lv_at hl 1 rfl) ?_
    have hq := hw.1
    have hw := hw.2
    refine va_iald hx hb hK.1 hP 3 0 rfl rfl hq dX1_reaches_16 ?_
    refine lv_icmp_gt (tgt := 24) hx hb dX1_reaches_17 (by decide) (fun c_2 => ?_) (fun c_2 => ?_)
    · have hw := hw.1 c_2
      refine lv_iconst (v := 0) hx hb dX1_reaches_24 (by decide) ?_
      exact z_zret hx hb hr hlk rfl hw dX1_reaches_25
    · have hw := hw.2 c_2
      refine lv_iconst (v := 1) hx hb dX1_reaches_20 (by decide) ?_
      refine lv_goto (tgt := 25) hx hb dX1_reaches_21 (by decide) ?_
      exact z_zret hx hb hr hlk rfl hw dX1_reaches_25
def wX1_searchOn (f_low : Int64) (f_high : Int64) (f_places : Int32) (f_gains : Nat → Int32) (f_lows : Nat → Int32) (f_highs : Nat → Int32) (p1 : Int32) (p2 : Int32) (post : Int32 → Prop) : Prop := (wX1_excessAt f_low f_high p1 (fun r_1 : Int32 => ((∃ (I_2 : Int32 → Int32 → Prop) (mu_2 : Int32 → Int32 → Nat), I_2 r_1 p1 ∧ ∀ (x_3 : Int32) (x_4 : Int32), I_2 x_3 x_4 → ((f_places ≤ x_4 → post (-4 : Int32)) ∧ (¬ f_places ≤ x_4 → ((¬ (x_4 - x_4 / (16 : Int32) * (16 : Int32)) = 0 → (wX1_stepAt f_low f_high x_4 (fun r_7 : Int32 => ((∀ x_8 : Int32, x_8 = (x_3 + r_7) → (∀ x_9 : Int32, x_9 = x_4 + (1) → ((¬ x_8 = p2 → (I_2 x_8 x_9 ∧ mu_2 x_8 x_9 < mu_2 x_3 x_4)) ∧ (x_8 = p2 → post x_9)))))))) ∧ ((x_4 - x_4 / (16 : Int32) * (16 : Int32)) = 0 → (wX1_reaches f_lows f_highs (x_4 / (16 : Int32)) (p2 - x_3) (fun r_11 : Int32 => (((¬ r_11 = 0 → (wX1_stepAt f_low f_high x_4 (fun r_13 : Int32 => ((∀ x_14 : Int32, x_14 = (x_3 + r_13) → (∀ x_15 : Int32, x_15 = x_4 + (1) → ((¬ x_14 = p2 → (I_2 x_14 x_15 ∧ mu_2 x_14 x_15 < mu_2 x_3 x_4)) ∧ (x_14 = p2 → post x_15)))))))) ∧ (r_11 = 0 → (vp_in (x_4 / (16 : Int32)) 8 ∧ (∀ x_17 : Int32, x_17 = (x_3 + (f_gains (x_4 / (16 : Int32)).toNatClampNeg)) → (∀ x_18 : Int32, x_18 = x_4 + (16) → (I_2 x_17 x_18 ∧ mu_2 x_17 x_18 < mu_2 x_3 x_4)))))))))))))))))
abbrev rX1_searchOn : Room := { frames := 2, cells := 0, slots := 0, locals := 42 }
theorem vX1_searchOn : yX1_searchOn.cls = RX1 ∧ yX1_searchOn.cls ≠ "java/lang/invoke/MethodHandle" ∧ yX1_searchOn.cls ≠ "java/lang/invoke/VarHandle" ∧ (parseMethodDescriptor yX1_searchOn.desc).map (fun d => d.parameters.length) = some 2 := by decide +kernel
set_option maxHeartbeats 4000000 in
set_option maxRecDepth 100000 in
theorem kX1_searchOn (l : Launch) (D : va_G) (cA : Nat → ClassId) (a0 a_gains a_lows a_highs : Nat) (f_low : Int64) (f_high : Int64) (f_places : Int32) (f_gains : Nat → Int32) (f_lows : Nat → Int32) (f_highs : Nat → Int32) (p1 : Int32) (p2 : Int32) (post : Int32 → Prop) (h : wX1_searchOn f_low f_high f_places f_gains f_lows f_highs p1 p2 post) : Met l yX1_searchOn wsX1_searchOn rX1_searchOn (zPr D cA [.ref a0, .int p1, .int p2] [(a0, .inr (0, [.long f_low, .long f_high, .int f_places, .ref a_gains, .ref a_lows, .ref a_highs])), (a_gains, .inl (cA 0, 8, .inl f_gains)), (a_lows, .inl (cA 0, 8, .inl f_lows)), (a_highs, .inl (cA 0, 8, .inl f_highs))]) (vp_Si post) 0 0 (fun _ => False) := by
  refine z_ro (cc := cX1_searchOn) (maxL := 5) (ret := (some .int)) (by decide) rfl (Nat.le_of_ble_eq_true rfl) ?_
  intro p e s m args below meth c ls hx hb hr hlk hml hown hts hK hP hl
  have hown : s.vm.findClass RX1 = some m.cls := hown
  have hl : lv_has ls 5 [(0, .ref a0), (1, .int p1), (2, .int p2)] := hl
  have hw := h
  unfold wX1_searchOn at hw
  have iwX1 : ∀ w ∈ wsX10, w ∈ wsX1_searchOn := fun w h9 => List.mem_cons_of_mem _ (List.mem_append_right _ h9)
  have kf21 := hts (.fieldLink RX1 21 "ExcessTree$Row" "places" "I") (by decide +kernel)
  have kf9 := hts (.fieldLink RX1 9 "ExcessTree$Row" "gains" "[I") (by decide +kernel)
  refine lv_aload_n hx hb dX1_searchOn_0 rfl (lv_at hl 0 rfl) ?_
  refine lv_iload_n hx hb dX1_searchOn_1 rfl (lv_at hl 1 rfl) ?_
  refine z_ri [.int p1] [] ⟨hx, hb, hml, hown, hts⟩ (kX1_excessAt l D cA a0 a_gains a_lows a_highs f_low f_high f_places f_gains f_lows f_highs p1 _ hw) (cwV 1 hts gX1_searchOn_X1_excessAt rfl rfl rfl vX1_excessAt ⟨Nat.le_of_ble_eq_true rfl, Nat.le_of_ble_eq_true rfl⟩) hK (hP.sub [0, 1, 2, 3] rfl) (va_recv hK.1 (hP.sub (ws' := [(a0, .inr (0, [.long f_low, .long f_high, .int f_places, .ref a_gains, .ref a_lows, .ref a_highs]))]) [0] rfl) (ci := 0) (q0 := 0) rfl rfl) rfl hl.1 rfl (Nat.le_of_ble_eq_true rfl) dX1_searchOn_2 ⟨Nat.zero_le _, Nat.zero_le _⟩ (fun r_1 hw => ?_)
  refine lv_istore_n (lv' := [(3, .int r_1), (0, .ref a0), (1, .int p1), (2, .int p2)]) hx hb dX1_searchOn_5 rfl hl (by decide) rfl (fun ls hl => ?_)
  refine lv_iload_n hx hb dX1_searchOn_6 rfl (lv_at hl 2 rfl) ?_
  refine lv_istore (lv' := [(4, .int p1), (3, .int r_1), (0, .ref a0), (1, .int p1), (2, .int p2)]) hx hb dX1_searchOn_7 hl (by decide) rfl (fun ls hl => ?_)
  obtain ⟨I_2, mu_2, hI_2, hw⟩ := hw
  have lp_2 : ∀ (nn : Nat) (x_3 : Int32) (x_4 : Int32) (ls : Array Slot), mu_2 x_3 x_4 < nn → I_2 x_3 x_4 → lv_has ls 5 [(0, .ref a0), (2, .int p2), (3, .int x_3), (4, .int x_4)] → W p l e rX1_searchOn s m args below meth c s.heap [] 0 0 (MQ below (vp_Si post) args s 0 0 (fun _ => False)) (F0 m 9 ls []) := by
    intro nn
    induction nn with
    | zero => exact fun _ _ _ h0 => absurd h0 (Nat.not_lt_zero _)
    | succ nn ih_2 =>
      intro x_3 x_4 ls hmu_2 hI_2 hl
      have hw := hw x_3 x_4 hI_2
      refine lv_iload hx hb dX1_searchOn_9 (lv_at hl 3 rfl) ?_
      refine lv_aload_n hx hb dX1_searchOn_11 rfl (lv_at hl 0 rfl) ?_
      refine va_get (D := D) (ci := 0) (v := .int f_places) (C := RX1) (T := TX1) (N := 6) hx hb hts iwX1 hown hK.1 hP 0 rfl rfl 2 (by decide) kf21 (fun _ h9 => h9) rfl dX1_searchOn_12 ?_
      refine lv_icmp_ge (tgt := 80) hx hb dX1_searchOn_15 (by decide) (fun c_5 => ?_) (fun c_5 => ?_)
      · have hw := hw.1 c_5
        refine lv_bipush (v := -4) hx hb dX1_searchOn_80 (by decide) ?_
        exact z_iret hx hb hr hlk hw dX1_searchOn_82
      · have hw := hw.2 c_5
        refine lv_iload hx hb dX1_searchOn_18 (lv_at hl 3 rfl) ?_
        refine lv_bipush (v := 16) hx hb dX1_searchOn_20 (by decide) ?_
        refine lv_irem hx hb dX1_searchOn_22 (by decide) ?_
        refine lv_if_ne (tgt := 60) hx hb dX1_searchOn_23 (by decide) (fun c_6 => ?_) (fun c_6 => ?_)
        · have hw := hw.1 c_6
          refine lv_iload_n hx hb dX1_searchOn_60 rfl (lv_at hl 2 rfl) ?_
          refine lv_aload_n hx hb dX1_searchOn_61 rfl (lv_at hl 0 rfl) ?_
          refine lv_iload hx hb dX1_searchOn_62 (lv_at hl 3 rfl) ?_
          refine z_ri [.int x_4] [.int x_3] ⟨hx, hb, hml, hown, hts⟩ (kX1_stepAt l D cA a0 a_gains a_lows a_highs f_low f_high f_places f_gains f_lows f_highs x_4 _ hw) (cwV 1 hts gX1_searchOn_X1_stepAt rfl rfl rfl vX1_stepAt ⟨Nat.le_of_ble_eq_true rfl, Nat.le_of_ble_eq_true rfl⟩) hK (hP.sub [0, 1, 2, 3] rfl) (va_recv hK.1 (hP.sub (ws' := [(a0, .inr (0, [.long f_low, .long f_high, .int f_places, .ref a_gains, .ref a_lows, .ref a_highs]))]) [0] rfl) (ci := 0) (q0 := 0) rfl rfl) rfl hl.1 rfl (Nat.le_of_ble_eq_true rfl) dX1_searchOn_64 ⟨Nat.zero_le _, Nat.zero_le _⟩ (fun r_7 hw => ?_)
          refine lv_iadd hx hb dX1_searchOn_67 ?_
          refine lv_topi (fun x_8 ex_8 => ?_)
          have hw := hw x_8 ex_8
          refine lv_istore_n (lv' := [(3, .int x_8), (0, .ref a0), (2, .int p2), (4, .int x_4)]) hx hb dX1_searchOn_68 rfl hl (by decide) rfl (fun ls hl => ?_)
          obtain ⟨x_9, ex_9⟩ : ∃ y : Int32, y = x_4 + (1) := ⟨_, rfl⟩
          have hw := hw x_9 ex_9
          refine lv_iinc (v := x_9) (lv' := [(4, .int x_9), (3, .int x_8), (0, .ref a0), (2, .int p2)]) hx hb dX1_searchOn_69 hl (k := 3) rfl (by rw [ex_9]; rfl) (by decide) rfl (fun ls hl => ?_)
          refine lv_iload_n hx hb dX1_searchOn_72 rfl (lv_at hl 1 rfl) ?_
          refine lv_iload_n hx hb dX1_searchOn_73 rfl (lv_at hl 3 rfl) ?_
          refine lv_icmp_ne (tgt := 9) hx hb dX1_searchOn_74 (by decide) (fun c_10 => ?_) (fun c_10 => ?_)
          · have hw := hw.1 c_10
            exact ih_2 x_8 x_9 ls (Nat.lt_of_lt_of_le hw.2 (Nat.le_of_lt_succ hmu_2)) hw.1 (lv_sub hl [2, 3, 1, 0] rfl)
          · have hw := hw.2 c_10
            refine lv_iload hx hb dX1_searchOn_77 (lv_at hl 0 rfl) ?_
            exact z_iret hx hb hr hlk hw dX1_searchOn_79
        · have hw := hw.2 c_6
          refine lv_aload_n hx hb dX1_searchOn_26 rfl (lv_at hl 0 rfl) ?_
          refine lv_iload hx hb dX1_searchOn_27 (lv_at hl 3 rfl) ?_
          refine lv_bipush (v := 16) hx hb dX1_searchOn_29 (by decide) ?_
          refine lv_idiv hx hb dX1_searchOn_31 (by decide) ?_
          refine lv_iload_n hx hb dX1_searchOn_32 rfl (lv_at hl 1 rfl) ?_
          refine lv_iload_n hx hb dX1_searchOn_33 rfl (lv_at hl 2 rfl) ?_
          refine lv_isub hx hb dX1_searchOn_34 ?_
          refine z_ri [.int (x_4 / (16 : Int32)), .int (p2 - x_3)] [] ⟨hx, hb, hml, hown, hts⟩ (kX1_reaches l D cA a0 a_gains a_lows a_highs f_low f_high f_places f_gains f_lows f_highs (x_4 / (16 : Int32)) (p2 - x_3) _ hw) (cwV 2 hts gX1_searchOn_X1_reaches rfl rfl rfl vX1_reaches ⟨Nat.le_of_ble_eq_true rfl, Nat.le_of_ble_eq_true rfl⟩) hK (hP.sub [0, 1, 2, 3] rfl) (va_recv hK.1 (hP.sub (ws' := [(a0, .inr (0, [.long f_low, .long f_high, .int f_places, .ref a_gains, .ref a_lows, .ref a_highs]))]) [0] rfl) (ci := 0) (q0 := 0) rfl rfl) rfl hl.1 rfl (Nat.le_of_ble_eq_true rfl) dX1_searchOn_35 ⟨Nat.zero_le _, Nat.zero_le _⟩ (fun r_11 hw => ?_)
          refine lv_if_ne (tgt := 60) hx hb dX1_searchOn_38 (by decide) (fun c_12 => ?_) (fun c_12 => ?_)
          · have hw := hw.1 c_12
            refine lv_iload_n hx hb dX1_searchOn_60 rfl (lv_at hl 2 rfl) ?_
            refine lv_aload_n hx hb dX1_searchOn_61 rfl (lv_at hl 0 rfl) ?_
            refine lv_iload hx hb dX1_searchOn_62 (lv_at hl 3 rfl) ?_
            refine z_ri [.int x_4] [.int x_3] ⟨hx, hb, hml, hown, hts⟩ (kX1_stepAt l D cA a0 a_gains a_lows a_highs f_low f_high f_places f_gains f_lows f_highs x_4 _ hw) (cwV 1 hts gX1_searchOn_X1_stepAt rfl rfl rfl vX1_stepAt ⟨Nat.le_of_ble_eq_true rfl, Nat.le_of_ble_eq_true rfl⟩) hK (hP.sub [0, 1, 2, 3] rfl) (va_recv hK.1 (hP.sub (ws' := [(a0, .inr (0, [.long f_low, .long f_high, .int f_places, .ref a_gains, .ref a_lows, .ref a_highs]))]) [0] rfl) (ci := 0) (q0 := 0) rfl rfl) rfl hl.1 rfl (Nat.le_of_ble_eq_true rfl) dX1_searchOn_64 ⟨Nat.zero_le _, Nat.zero_le _⟩ (fun r_13 hw => ?_)
            refine lv_iadd hx hb dX1_searchOn_67 ?_
            refine lv_topi (fun x_14 ex_14 => ?_)
            have hw := hw x_14 ex_14
            refine lv_istore_n (lv' := [(3, .int x_14), (0, .ref a0), (2, .int p2), (4, .int x_4)]) hx hb dX1_searchOn_68 rfl hl (by decide) rfl (fun ls hl => ?_)
            obtain ⟨x_15, ex_15⟩ : ∃ y : Int32, y = x_4 + (1) := ⟨_, rfl⟩
            have hw := hw x_15 ex_15
            refine lv_iinc (v := x_15) (lv' := [(4, .int x_15), (3, .int x_14), (0, .ref a0), (2, .int p2)]) hx hb dX1_searchOn_69 hl (k := 3) rfl (by rw [ex_15]; rfl) (by decide) rfl (fun ls hl => ?_)
            refine lv_iload_n hx hb dX1_searchOn_72 rfl (lv_at hl 1 rfl) ?_
            refine lv_iload_n hx hb dX1_searchOn_73 rfl (lv_at hl 3 rfl) ?_
            refine lv_icmp_ne (tgt := 9) hx hb dX1_searchOn_74 (by decide) (fun c_16 => ?_) (fun c_16 => ?_)
            · have hw := hw.1 c_16
              exact ih_2 x_14 x_15 ls (Nat.lt_of_lt_of_le hw.2 (Nat.le_of_lt_succ hmu_2)) hw.1 (lv_sub hl [2, 3, 1, 0] rfl)
            · have hw := hw.2 c_16
              refine lv_iload hx hb dX1_searchOn_77 (lv_at hl 0 rfl) ?_
              exact z_iret hx hb hr hlk hw dX1_searchOn_79
          · have hw := hw.2 c_12
            refine lv_iload_n hx hb dX1_searchOn_41 rfl (lv_at hl 2 rfl) ?_
            refine lv_aload_n hx hb dX1_searchOn_42 rfl (lv_at hl 0 rfl) ?_
            refine va_get (D := D) (ci := 0) (v := .ref a_gains) (C := RX1) (T := TX1) (N := 6) hx hb hts iwX1 hown hK.1 hP 0 rfl rfl 3 (by decide) kf9 (fun _ h9 => h9) rfl dX1_searchOn_43 ?_
            refine lv_iload hx hb dX1_searchOn_46 (lv_at hl 3 rfl) ?_
            refine lv_bipush (v := 16) hx hb dX1_searchOn_48 (by decide) ?_
            refine lv_idiv hx hb dX1_searchOn_50 (by decide) ?_
            have hq := hw.1
            have hw := hw.2
            refine va_iald hx hb hK.1 hP 1 0 rfl rfl hq dX1_searchOn_51 ?_
            refine lv_iadd hx hb dX1_searchOn_52 ?_
            refine lv_topi (fun x_17 ex_17 => ?_)
            have hw := hw x_17 ex_17
            refine lv_istore_n (lv' := [(3, .int x_17), (0, .ref a0), (2, .int p2), (4, .int x_4)]) hx hb dX1_searchOn_53 rfl hl (by decide) rfl (fun ls hl => ?_)
            obtain ⟨x_18, ex_18⟩ : ∃ y : Int32, y = x_4 + (16) := ⟨_, rfl⟩
            have hw := hw x_18 ex_18
            refine lv_iinc (v := x_18) (lv' := [(4, .int x_18), (3, .int x_17), (0, .ref a0), (2, .int p2)]) hx hb dX1_searchOn_54 hl (k := 3) rfl (by rw [ex_18]; rfl) (by decide) rfl (fun ls hl => ?_)
            refine lv_goto (tgt := 9) hx hb dX1_searchOn_57 (by decide) ?_
            exact ih_2 x_17 x_18 ls (Nat.lt_of_lt_of_le hw.2 (Nat.le_of_lt_succ hmu_2)) hw.1 (lv_sub hl [2, 3, 1, 0] rfl)
  exact lp_2 (mu_2 r_1 p1 + 1) r_1 p1 ls (Nat.lt_succ_self _) hI_2 (lv_sub hl [2, 4, 1, 0] rfl)
def wX1_searchBack (f_low : Int64) (f_high : Int64) (f_gains : Nat → Int32) (f_lows : Nat → Int32) (f_highs : Nat → Int32) (p1 : Int32) (p2 : Int32) (post : Int32 → Prop) : Prop := (wX1_excessAt f_low f_high p1 (fun r_1 : Int32 => ((∃ (I_2 : Int32 → Int32 → Prop) (mu_2 : Int32 → Int32 → Nat), I_2 r_1 p1 ∧ ∀ (x_3 : Int32) (x_4 : Int32), I_2 x_3 x_4 → ((x_4 ≤ 0 → post (-4 : Int32)) ∧ (¬ x_4 ≤ 0 → (∀ x_6 : Int32, x_6 = x_4 + (-1) → (wX1_stepAt f_low f_high x_6 (fun r_7 : Int32 => ((∀ x_8 : Int32, x_8 = (x_3 - r_7) → (∃ (I_9 : Int32 → Int32 → Prop) (mu_9 : Int32 → Int32 → Nat), I_9 x_8 x_6 ∧ ∀ (x_10 : Int32) (x_11 : Int32), I_9 x_10 x_11 → ((x_11 < (16 : Int32) → ((¬ x_10 = p2 → (I_2 x_10 x_11 ∧ mu_2 x_10 x_11 < mu_2 x_3 x_4)) ∧ (x_10 = p2 → post x_11))) ∧ (¬ x_11 < (16 : Int32) → ((¬ (x_11 - x_11 / (16 : Int32) * (16 : Int32)) = 0 → ((¬ x_10 = p2 → (I_2 x_10 x_11 ∧ mu_2 x_10 x_11 < mu_2 x_3 x_4)) ∧ (x_10 = p2 → post x_11))) ∧ ((x_11 - x_11 / (16 : Int32) * (16 : Int32)) = 0 → (vp_in ((x_11 / (16 : Int32)) - (1 : Int32)) 8 ∧ (wX1_reaches f_lows f_highs ((x_11 / (16 : Int32)) - (1 : Int32)) ((p2 - x_10) + (f_gains ((x_11 / (16 : Int32)) - (1 : Int32)).toNatClampNeg)) (fun r_16 : Int32 => (((¬ r_16 = 0 → ((¬ x_10 = p2 → (I_2 x_10 x_11 ∧ mu_2 x_10 x_11 < mu_2 x_3 x_4)) ∧ (x_10 = p2 → post x_11))) ∧ (r_16 = 0 → (∀ x_19 : Int32, x_19 = x_11 + (-16) → (vp_in (x_19 / (16 : Int32)) 8 ∧ (∀ x_20 : Int32, x_20 = (x_10 - (f_gains (x_19 / (16 : Int32)).toNatClampNeg)) → (I_9 x_20 x_19 ∧ mu_9 x_20 x_19 < mu_9 x_10 x_11))))))))))))))))))))))))))
abbrev rX1_searchBack : Room := { frames := 2, cells := 0, slots := 0, locals := 42 }
theorem vX1_searchBack : yX1_searchBack.cls = RX1 ∧ yX1_searchBack.cls ≠ "java/lang/invoke/MethodHandle" ∧ yX1_searchBack.cls ≠ "java/lang/invoke/VarHandle" ∧ (parseMethodDescriptor yX1_searchBack.desc).map (fun d => d.parameters.length) = some 2 := by decide +kernel
set_option maxHeartbeats 4000000 in
set_option maxRecDepth 100000 in
theorem kX1_searchBack (l : Launch) (D : va_G) (cA : Nat → ClassId) (a0 a_gains a_lows a_highs : Nat) (f_low : Int64) (f_high : Int64) (f_places : Int32) (f_gains : Nat → Int32) (f_lows : Nat → Int32) (f_highs : Nat → Int32) (p1 : Int32) (p2 : Int32) (post : Int32 → Prop) (h : wX1_searchBack f_low f_high f_gains f_lows f_highs p1 p2 post) : Met l yX1_searchBack wsX1_searchBack rX1_searchBack (zPr D cA [.ref a0, .int p1, .int p2] [(a0, .inr (0, [.long f_low, .long f_high, .int f_places, .ref a_gains, .ref a_lows, .ref a_highs])), (a_gains, .inl (cA 0, 8, .inl f_gains)), (a_lows, .inl (cA 0, 8, .inl f_lows)), (a_highs, .inl (cA 0, 8, .inl f_highs))]) (vp_Si post) 0 0 (fun _ => False) := by
  refine z_ro (cc := cX1_searchBack) (maxL := 5) (ret := (some .int)) (by decide) rfl (Nat.le_of_ble_eq_true rfl) ?_
  intro p e s m args below meth c ls hx hb hr hlk hml hown hts hK hP hl
  have hown : s.vm.findClass RX1 = some m.cls := hown
  have hl : lv_has ls 5 [(0, .ref a0), (1, .int p1), (2, .int p2)] := hl
  have hw := h
  unfold wX1_searchBack at hw
  have iwX1 : ∀ w ∈ wsX10, w ∈ wsX1_searchBack := fun w h9 => List.mem_cons_of_mem _ (List.mem_append_right _ h9)
  have kf9 := hts (.fieldLink RX1 9 "ExcessTree$Row" "gains" "[I") (by decide +kernel)
  refine lv_aload_n hx hb dX1_searchBack_0 rfl (lv_at hl 0 rfl) ?_
  refine lv_iload_n hx hb dX1_searchBack_1 rfl (lv_at hl 1 rfl) ?_
  refine z_ri [.int p1] [] ⟨hx, hb, hml, hown, hts⟩ (kX1_excessAt l D cA a0 a_gains a_lows a_highs f_low f_high f_places f_gains f_lows f_highs p1 _ hw) (cwV 1 hts gX1_searchBack_X1_excessAt rfl rfl rfl vX1_excessAt ⟨Nat.le_of_ble_eq_true rfl, Nat.le_of_ble_eq_true rfl⟩) hK (hP.sub [0, 1, 2, 3] rfl) (va_recv hK.1 (hP.sub (ws' := [(a0, .inr (0, [.long f_low, .long f_high, .int f_places, .ref a_gains, .ref a_lows, .ref a_highs]))]) [0] rfl) (ci := 0) (q0 := 0) rfl rfl) rfl hl.1 rfl (Nat.le_of_ble_eq_true rfl) dX1_searchBack_2 ⟨Nat.zero_le _, Nat.zero_le _⟩ (fun r_1 hw => ?_)
  refine lv_istore_n (lv' := [(3, .int r_1), (0, .ref a0), (1, .int p1), (2, .int p2)]) hx hb dX1_searchBack_5 rfl hl (by decide) rfl (fun ls hl => ?_)
  refine lv_iload_n hx hb dX1_searchBack_6 rfl (lv_at hl 2 rfl) ?_
  refine lv_istore (lv' := [(4, .int p1), (3, .int r_1), (0, .ref a0), (1, .int p1), (2, .int p2)]) hx hb dX1_searchBack_7 hl (by decide) rfl (fun ls hl => ?_)
  obtain ⟨I_2, mu_2, hI_2, hw⟩ := hw
  have lp_2 : ∀ (nn : Nat) (x_3 : Int32) (x_4 : Int32) (ls : Array Slot), mu_2 x_3 x_4 < nn → I_2 x_3 x_4 → lv_has ls 5 [(0, .ref a0), (2, .int p2), (3, .int x_3), (4, .int x_4)] → W p l e rX1_searchBack s m args below meth c s.heap [] 0 0 (MQ below (vp_Si post) args s 0 0 (fun _ => False)) (F0 m 9 ls []) := by
    intro nn
    induction nn with
    | zero => exact fun _ _ _ h0 => absurd h0 (Nat.not_lt_zero _)
    | succ nn ih_2 =>
      intro x_3 x_4 ls hmu_2 hI_2 hl
      have hw := hw x_3 x_4 hI_2
      refine lv_iload hx hb dX1_searchBack_9 (lv_at hl 3 rfl) ?_
      refine lv_if_le (tgt := 98) hx hb dX1_searchBack_11 (by decide) (fun c_5 => ?_) (fun c_5 => ?_)
      · have hw := hw.1 c_5
        refine lv_bipush (v := -4) hx hb dX1_searchBack_98 (by decide) ?_
        exact z_iret hx hb hr hlk hw dX1_searchBack_100
      · have hw := hw.2 c_5
        obtain ⟨x_6, ex_6⟩ : ∃ y : Int32, y = x_4 + (-1) := ⟨_, rfl⟩
        have hw := hw x_6 ex_6
        refine lv_iinc (v := x_6) (lv' := [(4, .int x_6), (0, .ref a0), (2, .int p2), (3, .int x_3)]) hx hb dX1_searchBack_14 hl (k := 3) rfl (by rw [ex_6]; rfl) (by decide) rfl (fun ls hl => ?_)
        refine lv_iload_n hx hb dX1_searchBack_17 rfl (lv_at hl 3 rfl) ?_
        refine lv_aload_n hx hb dX1_searchBack_18 rfl (lv_at hl 1 rfl) ?_
        refine lv_iload hx hb dX1_searchBack_19 (lv_at hl 0 rfl) ?_
        refine z_ri [.int x_6] [.int x_3] ⟨hx, hb, hml, hown, hts⟩ (kX1_stepAt l D cA a0 a_gains a_lows a_highs f_low f_high f_places f_gains f_lows f_highs x_6 _ hw) (cwV 1 hts gX1_searchBack_X1_stepAt rfl rfl rfl vX1_stepAt ⟨Nat.le_of_ble_eq_true rfl, Nat.le_of_ble_eq_true rfl⟩) hK (hP.sub [0, 1, 2, 3] rfl) (va_recv hK.1 (hP.sub (ws' := [(a0, .inr (0, [.long f_low, .long f_high, .int f_places, .ref a_gains, .ref a_lows, .ref a_highs]))]) [0] rfl) (ci := 0) (q0 := 0) rfl rfl) rfl hl.1 rfl (Nat.le_of_ble_eq_true rfl) dX1_searchBack_21 ⟨Nat.zero_le _, Nat.zero_le _⟩ (fun r_7 hw => ?_)
        refine lv_isub hx hb dX1_searchBack_24 ?_
        refine lv_topi (fun x_8 ex_8 => ?_)
        have hw := hw x_8 ex_8
        refine lv_istore_n (lv' := [(3, .int x_8), (4, .int x_6), (0, .ref a0), (2, .int p2)]) hx hb dX1_searchBack_25 rfl hl (by decide) rfl (fun ls hl => ?_)
        obtain ⟨I_9, mu_9, hI_9, hw⟩ := hw
        have lp_9 : ∀ (nn : Nat) (x_10 : Int32) (x_11 : Int32) (ls : Array Slot), mu_9 x_10 x_11 < nn → I_9 x_10 x_11 → lv_has ls 5 [(0, .ref a0), (2, .int p2), (3, .int x_10), (4, .int x_11)] → W p l e rX1_searchBack s m args below meth c s.heap [] 0 0 (MQ below (vp_Si post) args s 0 0 (fun _ => False)) (F0 m 26 ls []) := by
          intro nn
          induction nn with
          | zero => exact fun _ _ _ h0 => absurd h0 (Nat.not_lt_zero _)
          | succ nn ih_9 =>
            intro x_10 x_11 ls hmu_9 hI_9 hl
            have hw := hw x_10 x_11 hI_9
            refine lv_iload hx hb dX1_searchBack_26 (lv_at hl 3 rfl) ?_
            refine lv_bipush (v := 16) hx hb dX1_searchBack_28 (by decide) ?_
            refine lv_icmp_lt (tgt := 90) hx hb dX1_searchBack_30 (by decide) (fun c_12 => ?_) (fun c_12 => ?_)
            · have hw := hw.1 c_12
              refine lv_iload_n hx hb dX1_searchBack_90 rfl (lv_at hl 2 rfl) ?_
              refine lv_iload_n hx hb dX1_searchBack_91 rfl (lv_at hl 1 rfl) ?_
              refine lv_icmp_ne (tgt := 9) hx hb dX1_searchBack_92 (by decide) (fun c_13 => ?_) (fun c_13 => ?_)
              · have hw := hw.1 c_13
                exact ih_2 x_10 x_11 ls (Nat.lt_of_lt_of_le hw.2 (Nat.le_of_lt_succ hmu_2)) hw.1 (lv_sub hl [0, 1, 2, 3] rfl)
              · have hw := hw.2 c_13
                refine lv_iload hx hb dX1_searchBack_95 (lv_at hl 3 rfl) ?_
                exact z_iret hx hb hr hlk hw dX1_searchBack_97
            · have hw := hw.2 c_12
              refine lv_iload hx hb dX1_searchBack_33 (lv_at hl 3 rfl) ?_
              refine lv_bipush (v := 16) hx hb dX1_searchBack_35 (by decide) ?_
              refine lv_irem hx hb dX1_searchBack_37 (by decide) ?_
              refine lv_if_ne (tgt := 90) hx hb dX1_searchBack_38 (by decide) (fun c_14 => ?_) (fun c_14 => ?_)
              · have hw := hw.1 c_14
                refine lv_iload_n hx hb dX1_searchBack_90 rfl (lv_at hl 2 rfl) ?_
                refine lv_iload_n hx hb dX1_searchBack_91 rfl (lv_at hl 1 rfl) ?_
                refine lv_icmp_ne (tgt := 9) hx hb dX1_searchBack_92 (by decide) (fun c_15 => ?_) (fun c_15 => ?_)
                · have hw := hw.1 c_15
                  exact ih_2 x_10 x_11 ls (Nat.lt_of_lt_of_le hw.2 (Nat.le_of_lt_succ hmu_2)) hw.1 (lv_sub hl [0, 1, 2, 3] rfl)
                · have hw := hw.2 c_15
                  refine lv_iload hx hb dX1_searchBack_95 (lv_at hl 3 rfl) ?_
                  exact z_iret hx hb hr hlk hw dX1_searchBack_97
              · have hw := hw.2 c_14
                refine lv_aload_n hx hb dX1_searchBack_41 rfl (lv_at hl 0 rfl) ?_
                refine lv_iload hx hb dX1_searchBack_42 (lv_at hl 3 rfl) ?_
                refine lv_bipush (v := 16) hx hb dX1_searchBack_44 (by decide) ?_
                refine lv_idiv hx hb dX1_searchBack_46 (by decide) ?_
                refine lv_iconst (v := 1) hx hb dX1_searchBack_47 (by decide) ?_
                refine lv_isub hx hb dX1_searchBack_48 ?_
                refine lv_iload_n hx hb dX1_searchBack_49 rfl (lv_at hl 1 rfl) ?_
                refine lv_iload_n hx hb dX1_searchBack_50 rfl (lv_at hl 2 rfl) ?_
                refine lv_isub hx hb dX1_searchBack_51 ?_
                refine lv_aload_n hx hb dX1_searchBack_52 rfl (lv_at hl 0 rfl) ?_
                refine va_get (D := D) (ci := 0) (v := .ref a_gains) (C := RX1) (T := TX1) (N := 6) hx hb hts iwX1 hown hK.1 hP 0 rfl rfl 3 (by decide) kf9 (fun _ h9 => h9) rfl dX1_searchBack_53 ?_
                refine lv_iload hx hb dX1_searchBack_56 (lv_at hl 3 rfl) ?_
                refine lv_bipush (v := 16) hx hb dX1_searchBack_58 (by decide) ?_
                refine lv_idiv hx hb dX1_searchBack_60 (by decide) ?_
                refine lv_iconst (v := 1) hx hb dX1_searchBack_61 (by decide) ?_
                refine lv_isub hx hb dX1_searchBack_62 ?_
                have hq := hw.1
                have hw := hw.2
                refine va_iald hx hb hK.1 hP 1 0 rfl rfl hq dX1_searchBack_63 ?_
                refine lv_iadd hx hb dX1_searchBack_64 ?_
                refine z_ri [.int ((x_11 / (16 : Int32)) - (1 : Int32)), .int ((p2 - x_10) + (f_gains ((x_11 / (16 : Int32)) - (1 : Int32)).toNatClampNeg))] [] ⟨hx, hb, hml, hown, hts⟩ (kX1_reaches l D cA a0 a_gains a_lows a_highs f_low f_high f_places f_gains f_lows f_highs ((x_11 / (16 : Int32)) - (1 : Int32)) ((p2 - x_10) + (f_gains ((x_11 / (16 : Int32)) - (1 : Int32)).toNatClampNeg)) _ hw) (cwV 2 hts gX1_searchBack_X1_reaches rfl rfl rfl vX1_reaches ⟨Nat.le_of_ble_eq_true rfl, Nat.le_of_ble_eq_true rfl⟩) hK (hP.sub [0, 1, 2, 3] rfl) (va_recv hK.1 (hP.sub (ws' := [(a0, .inr (0, [.long f_low, .long f_high, .int f_places, .ref a_gains, .ref a_lows, .ref a_highs]))]) [0] rfl) (ci := 0) (q0 := 0) rfl rfl) rfl hl.1 rfl (Nat.le_of_ble_eq_true rfl) dX1_searchBack_65 ⟨Nat.zero_le _, Nat.zero_le _⟩ (fun r_16 hw => ?_)
                refine lv_if_ne (tgt := 90) hx hb dX1_searchBack_68 (by decide) (fun c_17 => ?_) (fun c_17 => ?_)
                · have hw := hw.1 c_17
                  refine lv_iload_n hx hb dX1_searchBack_90 rfl (lv_at hl 2 rfl) ?_
                  refine lv_iload_n hx hb dX1_searchBack_91 rfl (lv_at hl 1 rfl) ?_
                  refine lv_icmp_ne (tgt := 9) hx hb dX1_searchBack_92 (by decide) (fun c_18 => ?_) (fun c_18 => ?_)
                  · have hw := hw.1 c_18
                    exact ih_2 x_10 x_11 ls (Nat.lt_of_lt_of_le hw.2 (Nat.le_of_lt_succ hmu_2)) hw.1 (lv_sub hl [0, 1, 2, 3] rfl)
                  · have hw := hw.2 c_18
                    refine lv_iload hx hb dX1_searchBack_95 (lv_at hl 3 rfl) ?_
                    exact z_iret hx hb hr hlk hw dX1_searchBack_97
                · have hw := hw.2 c_17
                  obtain ⟨x_19, ex_19⟩ : ∃ y : Int32, y = x_11 + (-16) := ⟨_, rfl⟩
                  have hw := hw x_19 ex_19
                  refine lv_iinc (v := x_19) (lv' := [(4, .int x_19), (0, .ref a0), (2, .int p2), (3, .int x_10)]) hx hb dX1_searchBack_71 hl (k := 3) rfl (by rw [ex_19]; rfl) (by decide) rfl (fun ls hl => ?_)
                  refine lv_iload_n hx hb dX1_searchBack_74 rfl (lv_at hl 3 rfl) ?_
                  refine lv_aload_n hx hb dX1_searchBack_75 rfl (lv_at hl 1 rfl) ?_
                  refine va_get (D := D) (ci := 0) (v := .ref a_gains) (C := RX1) (T := TX1) (N := 6) hx hb hts iwX1 hown hK.1 hP 0 rfl rfl 3 (by decide) kf9 (fun _ h9 => h9) rfl dX1_searchBack_76 ?_
                  refine lv_iload hx hb dX1_searchBack_79 (lv_at hl 0 rfl) ?_
                  refine lv_bipush (v := 16) hx hb dX1_searchBack_81 (by decide) ?_
                  refine lv_idiv hx hb dX1_searchBack_83 (by decide) ?_
                  have hq := hw.1
                  have hw := hw.2
                  refine va_iald hx hb hK.1 hP 1 0 rfl rfl hq dX1_searchBack_84 ?_
                  refine lv_isub hx hb dX1_searchBack_85 ?_
                  refine lv_topi (fun x_20 ex_20 => ?_)
                  have hw := hw x_20 ex_20
                  refine lv_istore_n (lv' := [(3, .int x_20), (4, .int x_19), (0, .ref a0), (2, .int p2)]) hx hb dX1_searchBack_86 rfl hl (by decide) rfl (fun ls hl => ?_)
                  refine lv_goto (tgt := 26) hx hb dX1_searchBack_87 (by decide) ?_
                  exact ih_9 x_20 x_19 ls (Nat.lt_of_lt_of_le hw.2 (Nat.le_of_lt_succ hmu_9)) hw.1 (lv_sub hl [2, 3, 0, 1] rfl)
        exact lp_9 (mu_9 x_8 x_6 + 1) x_8 x_6 ls (Nat.lt_succ_self _) hI_9 (lv_sub hl [2, 3, 0, 1] rfl)
  exact lp_2 (mu_2 r_1 p1 + 1) r_1 p1 ls (Nat.lt_succ_self _) hI_2 (lv_sub hl [2, 4, 1, 0] rfl)
def wX1_partnerOf (f_low : Int64) (f_high : Int64) (f_places : Int32) (f_gains : Nat → Int32) (f_lows : Nat → Int32) (f_highs : Nat → Int32) (p1 : Int32) (post : Int32 → Prop) : Prop := (wX1_bitAt f_low f_high p1 (fun r_1 : Int32 => (((¬ r_1 = (1 : Int32) → (wX1_excessAt f_low f_high (p1 + (1 : Int32)) (fun r_3 : Int32 => ((wX1_searchBack f_low f_high f_gains f_lows f_highs p1 r_3 (fun r_4 : Int32 => (post r_4))))))) ∧ (r_1 = (1 : Int32) → (wX1_excessAt f_low f_high p1 (fun r_5 : Int32 => ((wX1_searchOn f_low f_high f_places f_gains f_lows f_highs p1 r_5 (fun r_6 : Int32 => (post (r_6 - (1 : Int32)))))))))))))
abbrev rX1_partnerOf : Room := { frames := 3, cells := 0, slots := 0, locals := 66 }
theorem vX1_partnerOf : yX1_partnerOf.cls = RX1 ∧ yX1_partnerOf.cls ≠ "java/lang/invoke/MethodHandle" ∧ yX1_partnerOf.cls ≠ "java/lang/invoke/VarHandle" ∧ (parseMethodDescriptor yX1_partnerOf.desc).map (fun d => d.parameters.length) = some 1 := by decide +kernel
set_option maxHeartbeats 4000000 in
set_option maxRecDepth 100000 in
theorem kX1_partnerOf (l : Launch) (D : va_G) (cA : Nat → ClassId) (a0 a_gains a_lows a_highs : Nat) (f_low : Int64) (f_high : Int64) (f_places : Int32) (f_gains : Nat → Int32) (f_lows : Nat → Int32) (f_highs : Nat → Int32) (p1 : Int32) (post : Int32 → Prop) (h : wX1_partnerOf f_low f_high f_places f_gains f_lows f_highs p1 post) : Met l yX1_partnerOf wsX1_partnerOf rX1_partnerOf (zPr D cA [.ref a0, .int p1] [(a0, .inr (0, [.long f_low, .long f_high, .int f_places, .ref a_gains, .ref a_lows, .ref a_highs])), (a_gains, .inl (cA 0, 8, .inl f_gains)), (a_lows, .inl (cA 0, 8, .inl f_lows)), (a_highs, .inl (cA 0, 8, .inl f_highs))]) (vp_Si post) 0 0 (fun _ => False) := by
  refine z_ro (cc := cX1_partnerOf) (maxL := 2) (ret := (some .int)) (by decide) rfl (Nat.le_of_ble_eq_true rfl) ?_
  intro p e s m args below meth c ls hx hb hr hlk hml hown hts hK hP hl
  have hown : s.vm.findClass RX1 = some m.cls := hown
  have hl : lv_has ls 2 [(0, .ref a0), (1, .int p1)] := hl
  have hw := h
  unfold wX1_partnerOf at hw
  refine lv_aload_n hx hb dX1_partnerOf_0 rfl (lv_at hl 0 rfl) ?_
  refine lv_iload_n hx hb dX1_partnerOf_1 rfl (lv_at hl 1 rfl) ?_
  refine z_ri [.int p1] [] ⟨hx, hb, hml, hown, hts⟩ (kX1_bitAt l D cA a0 a_gains a_lows a_highs f_low f_high f_places f_gains f_lows f_highs p1 _ hw) (cwV 1 hts gX1_partnerOf_X1_bitAt rfl rfl rfl vX1_bitAt ⟨Nat.le_of_ble_eq_true rfl, Nat.le_of_ble_eq_true rfl⟩) hK (hP.sub [0, 1, 2, 3] rfl) (va_recv hK.1 (hP.sub (ws' := [(a0, .inr (0, [.long f_low, .long f_high, .int f_places, .ref a_gains, .ref a_lows, .ref a_highs]))]) [0] rfl) (ci := 0) (q0 := 0) rfl rfl) rfl hl.1 rfl (Nat.le_of_ble_eq_true rfl) dX1_partnerOf_2 ⟨Nat.zero_le _, Nat.zero_le _⟩ (fun r_1 hw => ?_)
  refine lv_iconst (v := 1) hx hb dX1_partnerOf_5 (by decide) ?_
  refine lv_icmp_ne (tgt := 22) hx hb dX1_partnerOf_6 (by decide) (fun c_2 => ?_) (fun c_2 => ?_)
  · have hw := hw.1 c_2
    refine lv_aload_n hx hb dX1_partnerOf_22 rfl (lv_at hl 0 rfl) ?_
    refine lv_iload_n hx hb dX1_partnerOf_23 rfl (lv_at hl 1 rfl) ?_
    refine lv_aload_n hx hb dX1_partnerOf_24 rfl (lv_at hl 0 rfl) ?_
    refine lv_iload_n hx hb dX1_partnerOf_25 rfl (lv_at hl 1 rfl) ?_
    refine lv_iconst (v := 1) hx hb dX1_partnerOf_26 (by decide) ?_
    refine lv_iadd hx hb dX1_partnerOf_27 ?_
    refine z_ri [.int (p1 + (1 : Int32))] [.int p1, .ref a0] ⟨hx, hb, hml, hown, hts⟩ (kX1_excessAt l D cA a0 a_gains a_lows a_highs f_low f_high f_places f_gains f_lows f_highs (p1 + (1 : Int32)) _ hw) (cwV 1 hts gX1_partnerOf_X1_excessAt rfl rfl rfl vX1_excessAt ⟨Nat.le_of_ble_eq_true rfl, Nat.le_of_ble_eq_true rfl⟩) hK (hP.sub [0, 1, 2, 3] rfl) (va_recv hK.1 (hP.sub (ws' := [(a0, .inr (0, [.long f_low, .long f_high, .int f_places, .ref a_gains, .ref a_lows, .ref a_highs]))]) [0] rfl) (ci := 0) (q0 := 0) rfl rfl) rfl hl.1 rfl (Nat.le_of_ble_eq_true rfl) dX1_partnerOf_28 ⟨Nat.zero_le _, Nat.zero_le _⟩ (fun r_3 hw => ?_)
    refine z_ri [.int p1, .int r_3] [] ⟨hx, hb, hml, hown, hts⟩ (kX1_searchBack l D cA a0 a_gains a_lows a_highs f_low f_high f_places f_gains f_lows f_highs p1 r_3 _ hw) (cwV 2 hts gX1_partnerOf_X1_searchBack rfl rfl rfl vX1_searchBack ⟨Nat.le_of_ble_eq_true rfl, Nat.le_of_ble_eq_true rfl⟩) hK (hP.sub [0, 1, 2, 3] rfl) (va_recv hK.1 (hP.sub (ws' := [(a0, .inr (0, [.long f_low, .long f_high, .int f_places, .ref a_gains, .ref a_lows, .ref a_highs]))]) [0] rfl) (ci := 0) (q0 := 0) rfl rfl) rfl hl.1 rfl (Nat.le_of_ble_eq_true rfl) dX1_partnerOf_31 ⟨Nat.zero_le _, Nat.zero_le _⟩ (fun r_4 hw => ?_)
    exact z_iret hx hb hr hlk hw dX1_partnerOf_34
  · have hw := hw.2 c_2
    refine lv_aload_n hx hb dX1_partnerOf_9 rfl (lv_at hl 0 rfl) ?_
    refine lv_iload_n hx hb dX1_partnerOf_10 rfl (lv_at hl 1 rfl) ?_
    refine lv_aload_n hx hb dX1_partnerOf_11 rfl (lv_at hl 0 rfl) ?_
    refine lv_iload_n hx hb dX1_partnerOf_12 rfl (lv_at hl 1 rfl) ?_
    refine z_ri [.int p1] [.int p1, .ref a0] ⟨hx, hb, hml, hown, hts⟩ (kX1_excessAt l D cA a0 a_gains a_lows a_highs f_low f_high f_places f_gains f_lows f_highs p1 _ hw) (cwV 1 hts gX1_partnerOf_X1_excessAt rfl rfl rfl vX1_excessAt ⟨Nat.le_of_ble_eq_true rfl, Nat.le_of_ble_eq_true rfl⟩) hK (hP.sub [0, 1, 2, 3] rfl) (va_recv hK.1 (hP.sub (ws' := [(a0, .inr (0, [.long f_low, .long f_high, .int f_places, .ref a_gains, .ref a_lows, .ref a_highs]))]) [0] rfl) (ci := 0) (q0 := 0) rfl rfl) rfl hl.1 rfl (Nat.le_of_ble_eq_true rfl) dX1_partnerOf_13 ⟨Nat.zero_le _, Nat.zero_le _⟩ (fun r_5 hw => ?_)
    refine z_ri [.int p1, .int r_5] [] ⟨hx, hb, hml, hown, hts⟩ (kX1_searchOn l D cA a0 a_gains a_lows a_highs f_low f_high f_places f_gains f_lows f_highs p1 r_5 _ hw) (cwV 2 hts gX1_partnerOf_X1_searchOn rfl rfl rfl vX1_searchOn ⟨Nat.le_of_ble_eq_true rfl, Nat.le_of_ble_eq_true rfl⟩) hK (hP.sub [0, 1, 2, 3] rfl) (va_recv hK.1 (hP.sub (ws' := [(a0, .inr (0, [.long f_low, .long f_high, .int f_places, .ref a_gains, .ref a_lows, .ref a_highs]))]) [0] rfl) (ci := 0) (q0 := 0) rfl rfl) rfl hl.1 rfl (Nat.le_of_ble_eq_true rfl) dX1_partnerOf_16 ⟨Nat.zero_le _, Nat.zero_le _⟩ (fun r_6 hw => ?_)
    refine lv_iconst (v := 1) hx hb dX1_partnerOf_19 (by decide) ?_
    refine lv_isub hx hb dX1_partnerOf_20 ?_
    exact z_iret hx hb hr hlk hw dX1_partnerOf_21
