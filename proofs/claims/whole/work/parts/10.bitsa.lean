/-! written by wip/whole/gen.py -/
def wX0_firstOf  (p1 : Int32) (post : Int64 → Prop) : Prop := ((0 < p1 → ((p1 < (64 : Int32) → post ((zlshl (1 : Int64) p1) - (1 : Int64))) ∧ (¬ p1 < (64 : Int32) → post (-1 : Int64)))) ∧ (¬ 0 < p1 → post (0 : Int64)))
abbrev rX0_firstOf : Room := { frames := 0, cells := 0, slots := 0, locals := 0 }
theorem vX0_firstOf : yX0_firstOf.cls ≠ "java/lang/invoke/MethodHandle" ∧ yX0_firstOf.cls ≠ "java/lang/invoke/VarHandle" ∧ (parseMethodDescriptor yX0_firstOf.desc).map (fun d => d.parameters.length) = some 1 := by decide +kernel
set_option maxHeartbeats 4000000 in
set_option maxRecDepth 100000 in
theorem kX0_firstOf (l : Launch) (D : va_G) (cA : Nat → ClassId)  (p1 : Int32) (post : Int64 → Prop) (h : wX0_firstOf p1 post) : Met l yX0_firstOf wsX0_firstOf rX0_firstOf (zPr D cA [.int p1] []) (vp_Sl post) 0 0 (fun _ => False) := by
  refine z_ro (cc := cX0_firstOf) (maxL := 1) (ret := (some .long)) (by decide) rfl (Nat.le_of_ble_eq_true rfl) ?_
  intro p e s m args below meth c ls hx hb hr hlk hml hown hts hK hP hl
  have hown : s.vm.findClass RX0 = some m.cls := hown
  have hl : lv_has ls 1 [(0, .int p1)] := hl
  have hw := h
  unfold wX0_firstOf at hw
  have kl7 := hts (.constantLong RX0 7 (-1)) (by decide +kernel)
  refine lv_iload_n hx hb dX0_firstOf_0 rfl (lv_at hl 0 rfl) ?_
  refine lv_if_gt (tgt := 6) hx hb dX0_firstOf_1 (by decide) (fun c_1 => ?_) (fun c_1 => ?_)
  · have hw := hw.1 c_1
    refine lv_iload_n hx hb dX0_firstOf_6 rfl (lv_at hl 0 rfl) ?_
    refine lv_bipush (v := 64) hx hb dX0_firstOf_7 (by decide) ?_
    refine lv_icmp_lt (tgt := 18) hx hb dX0_firstOf_9 (by decide) (fun c_2 => ?_) (fun c_2 => ?_)
    · have hw := hw.1 c_2
      refine lv_lconst (v := 1) hx hb dX0_firstOf_18 (by decide) ?_
      refine lv_iload_n hx hb dX0_firstOf_19 rfl (lv_at hl 0 rfl) ?_
      refine lv_lshl (v := (zlshl (1 : Int64) p1)) hx hb dX0_firstOf_20 rfl ?_
      refine lv_lconst (v := 1) hx hb dX0_firstOf_21 (by decide) ?_
      refine lv_lsub hx hb dX0_firstOf_22 ?_
      exact z_lret hx hb hr hlk hw dX0_firstOf_23
    · have hw := hw.2 c_2
      refine lv_ldc2 (v := -1) hx hb hown kl7 dX0_firstOf_12 ?_
      refine lv_goto (tgt := 23) hx hb dX0_firstOf_15 (by decide) ?_
      exact z_lret hx hb hr hlk hw dX0_firstOf_23
  · have hw := hw.2 c_1
    refine lv_lconst (v := 0) hx hb dX0_firstOf_4 (by decide) ?_
    exact z_lret hx hb hr hlk hw dX0_firstOf_5
def wX0_upLow  (p1 : Int64) (p2 : Int32) (post : Int64 → Prop) : Prop := (((64 : Int32) ≤ p2 → post (0 : Int64)) ∧ (¬ (64 : Int32) ≤ p2 → post (zlshl p1 p2)))
abbrev rX0_upLow : Room := { frames := 0, cells := 0, slots := 0, locals := 0 }
theorem vX0_upLow : yX0_upLow.cls ≠ "java/lang/invoke/MethodHandle" ∧ yX0_upLow.cls ≠ "java/lang/invoke/VarHandle" ∧ (parseMethodDescriptor yX0_upLow.desc).map (fun d => d.parameters.length) = some 2 := by decide +kernel
set_option maxHeartbeats 4000000 in
set_option maxRecDepth 100000 in
theorem kX0_upLow (l : Launch) (D : va_G) (cA : Nat → ClassId)  (p1 : Int64) (p2 : Int32) (post : Int64 → Prop) (h : wX0_upLow p1 p2 post) : Met l yX0_upLow wsX0_upLow rX0_upLow (zPr D cA [.long p1, .int p2] []) (vp_Sl post) 0 0 (fun _ => False) := by
  refine z_ro (cc := cX0_upLow) (maxL := 3) (ret := (some .long)) (by decide) rfl (Nat.le_of_ble_eq_true rfl) ?_
  intro p e s m args below meth c ls hx hb hr hlk hml hown hts hK hP hl
  have hown : s.vm.findClass RX0 = some m.cls := hown
  have hl : lv_has ls 3 [(0, .long p1), (2, .int p2)] := hl
  have hw := h
  unfold wX0_upLow at hw
  refine lv_iload_n hx hb dX0_upLow_0 rfl (lv_at hl 1 rfl) ?_
  refine lv_bipush (v := 64) hx hb dX0_upLow_1 (by decide) ?_
  refine lv_icmp_ge (tgt := 12) hx hb dX0_upLow_3 (by decide) (fun c_1 => ?_) (fun c_1 => ?_)
  · have hw := hw.1 c_1
    refine lv_lconst (v := 0) hx hb dX0_upLow_12 (by decide) ?_
    exact z_lret hx hb hr hlk hw dX0_upLow_13
  · have hw := hw.2 c_1
    refine lv_lload_n hx hb dX0_upLow_6 rfl (lv_at hl 0 rfl) ?_
    refine lv_iload_n hx hb dX0_upLow_7 rfl (lv_at hl 1 rfl) ?_
    refine lv_lshl (v := (zlshl p1 p2)) hx hb dX0_upLow_8 rfl ?_
    refine lv_goto (tgt := 13) hx hb dX0_upLow_9 (by decide) ?_
    exact z_lret hx hb hr hlk hw dX0_upLow_13
def wX0_upHigh  (p1 : Int64) (p2 : Int64) (p3 : Int32) (post : Int64 → Prop) : Prop := ((¬ p3 = 0 → (((64 : Int32) ≤ p3 → (((128 : Int32) ≤ p3 → post (0 : Int64)) ∧ (¬ (128 : Int32) ≤ p3 → post (zlshl p1 (p3 - (64 : Int32)))))) ∧ (¬ (64 : Int32) ≤ p3 → post ((zlshl p2 p3) ||| (zlushr p1 ((64 : Int32) - p3)))))) ∧ (p3 = 0 → post p2))
abbrev rX0_upHigh : Room := { frames := 0, cells := 0, slots := 0, locals := 0 }
theorem vX0_upHigh : yX0_upHigh.cls ≠ "java/lang/invoke/MethodHandle" ∧ yX0_upHigh.cls ≠ "java/lang/invoke/VarHandle" ∧ (parseMethodDescriptor yX0_upHigh.desc).map (fun d => d.parameters.length) = some 3 := by decide +kernel
set_option maxHeartbeats 4000000 in
set_option maxRecDepth 100000 in
theorem kX0_upHigh (l : Launch) (D : va_G) (cA : Nat → ClassId)  (p1 : Int64) (p2 : Int64) (p3 : Int32) (post : Int64 → Prop) (h : wX0_upHigh p1 p2 p3 post) : Met l yX0_upHigh wsX0_upHigh rX0_upHigh (zPr D cA [.long p1, .long p2, .int p3] []) (vp_Sl post) 0 0 (fun _ => False) := by
  refine z_ro (cc := cX0_upHigh) (maxL := 5) (ret := (some .long)) (by decide) rfl (Nat.le_of_ble_eq_true rfl) ?_
  intro p e s m args below meth c ls hx hb hr hlk hml hown hts hK hP hl
  have hown : s.vm.findClass RX0 = some m.cls := hown
  have hl : lv_has ls 5 [(0, .long p1), (2, .long p2), (4, .int p3)] := hl
  have hw := h
  unfold wX0_upHigh at hw
  refine lv_iload hx hb dX0_upHigh_0 (lv_at hl 2 rfl) ?_
  refine lv_if_ne (tgt := 7) hx hb dX0_upHigh_2 (by decide) (fun c_1 => ?_) (fun c_1 => ?_)
  · have hw := hw.1 c_1
    refine lv_iload hx hb dX0_upHigh_7 (lv_at hl 2 rfl) ?_
    refine lv_bipush (v := 64) hx hb dX0_upHigh_9 (by decide) ?_
    refine lv_icmp_ge (tgt := 27) hx hb dX0_upHigh_11 (by decide) (fun c_2 => ?_) (fun c_2 => ?_)
    · have hw := hw.1 c_2
      refine lv_iload hx hb dX0_upHigh_27 (lv_at hl 2 rfl) ?_
      refine lv_sipush (v := 128) hx hb dX0_upHigh_29 (by decide) ?_
      refine lv_icmp_ge (tgt := 45) hx hb dX0_upHigh_32 (by decide) (fun c_3 => ?_) (fun c_3 => ?_)
      · have hw := hw.1 c_3
        refine lv_lconst (v := 0) hx hb dX0_upHigh_45 (by decide) ?_
        exact z_lret hx hb hr hlk hw dX0_upHigh_46
      · have hw := hw.2 c_3
        refine lv_lload_n hx hb dX0_upHigh_35 rfl (lv_at hl 0 rfl) ?_
        refine lv_iload hx hb dX0_upHigh_36 (lv_at hl 2 rfl) ?_
        refine lv_bipush (v := 64) hx hb dX0_upHigh_38 (by decide) ?_
        refine lv_isub hx hb dX0_upHigh_40 ?_
        refine lv_lshl (v := (zlshl p1 (p3 - (64 : Int32)))) hx hb dX0_upHigh_41 rfl ?_
        refine lv_goto (tgt := 46) hx hb dX0_upHigh_42 (by decide) ?_
        exact z_lret hx hb hr hlk hw dX0_upHigh_46
    · have hw := hw.2 c_2
      refine lv_lload_n hx hb dX0_upHigh_14 rfl (lv_at hl 1 rfl) ?_
      refine lv_iload hx hb dX0_upHigh_15 (lv_at hl 2 rfl) ?_
      refine lv_lshl (v := (zlshl p2 p3)) hx hb dX0_upHigh_17 rfl ?_
      refine lv_lload_n hx hb dX0_upHigh_18 rfl (lv_at hl 0 rfl) ?_
      refine lv_bipush (v := 64) hx hb dX0_upHigh_19 (by decide) ?_
      refine lv_iload hx hb dX0_upHigh_21 (lv_at hl 2 rfl) ?_
      refine lv_isub hx hb dX0_upHigh_23 ?_
      refine lv_lushr (v := (zlushr p1 ((64 : Int32) - p3))) hx hb dX0_upHigh_24 rfl ?_
      refine lv_lor hx hb dX0_upHigh_25 ?_
      exact z_lret hx hb hr hlk hw dX0_upHigh_26
  · have hw := hw.2 c_1
    refine lv_lload_n hx hb dX0_upHigh_5 rfl (lv_at hl 1 rfl) ?_
    exact z_lret hx hb hr hlk hw dX0_upHigh_6
def wX0_downLow  (p1 : Int64) (p2 : Int64) (p3 : Int32) (post : Int64 → Prop) : Prop := ((¬ p3 = 0 → (((64 : Int32) ≤ p3 → (((128 : Int32) ≤ p3 → post (0 : Int64)) ∧ (¬ (128 : Int32) ≤ p3 → post (zlushr p2 (p3 - (64 : Int32)))))) ∧ (¬ (64 : Int32) ≤ p3 → post ((zlushr p1 p3) ||| (zlshl p2 ((64 : Int32) - p3)))))) ∧ (p3 = 0 → post p1))
abbrev rX0_downLow : Room := { frames := 0, cells := 0, slots := 0, locals := 0 }
theorem vX0_downLow : yX0_downLow.cls ≠ "java/lang/invoke/MethodHandle" ∧ yX0_downLow.cls ≠ "java/lang/invoke/VarHandle" ∧ (parseMethodDescriptor yX0_downLow.desc).map (fun d => d.parameters.length) = some 3 := by decide +kernel
set_option maxHeartbeats 4000000 in
set_option maxRecDepth 100000 in
theorem kX0_downLow (l : Launch) (D : va_G) (cA : Nat → ClassId)  (p1 : Int64) (p2 : Int64) (p3 : Int32) (post : Int64 → Prop) (h : wX0_downLow p1 p2 p3 post) : Met l yX0_downLow wsX0_downLow rX0_downLow (zPr D cA [.long p1, .long p2, .int p3] []) (vp_Sl post) 0 0 (fun _ => False) := by
  refine z_ro (cc := cX0_downLow) (maxL := 5) (ret := (some .long)) (by decide) rfl (Nat.le_of_ble_eq_true rfl) ?_
  intro p e s m args below meth c ls hx hb hr hlk hml hown hts hK hP hl
  have hown : s.vm.findClass RX0 = some m.cls := hown
  have hl : lv_has ls 5 [(0, .long p1), (2, .long p2), (4, .int p3)] := hl
  have hw := h
  unfold wX0_downLow at hw
  refine lv_iload hx hb dX0_downLow_0 (lv_at hl 2 rfl) ?_
  refine lv_if_ne (tgt := 7) hx hb dX0_downLow_2 (by decide) (fun c_1 => ?_) (fun c_1 => ?_)
  · have hw := hw.1 c_1
    refine lv_iload hx hb dX0_downLow_7 (lv_at hl 2 rfl) ?_
    refine lv_bipush (v := 64) hx hb dX0_downLow_9 (by decide) ?_
    refine lv_icmp_ge (tgt := 27) hx hb dX0_downLow_11 (by decide) (fun c_2 => ?_) (fun c_2 => ?_)
    · have hw := hw.1 c_2
      refine lv_iload hx hb dX0_downLow_27 (lv_at hl 2 rfl) ?_
      refine lv_sipush (v := 128) hx hb dX0_downLow_29 (by decide) ?_
      refine lv_icmp_ge (tgt := 45) hx hb dX0_downLow_32 (by decide) (fun c_3 => ?_) (fun c_3 => ?_)
      · have hw := hw.1 c_3
        refine lv_lconst (v := 0) hx hb dX0_downLow_45 (by decide) ?_
        exact z_lret hx hb hr hlk hw dX0_downLow_46
      · have hw := hw.2 c_3
        refine lv_lload_n hx hb dX0_downLow_35 rfl (lv_at hl 1 rfl) ?_
        refine lv_iload hx hb dX0_downLow_36 (lv_at hl 2 rfl) ?_
        refine lv_bipush (v := 64) hx hb dX0_downLow_38 (by decide) ?_
        refine lv_isub hx hb dX0_downLow_40 ?_
        refine lv_lushr (v := (zlushr p2 (p3 - (64 : Int32)))) hx hb dX0_downLow_41 rfl ?_
        refine lv_goto (tgt := 46) hx hb dX0_downLow_42 (by decide) ?_
        exact z_lret hx hb hr hlk hw dX0_downLow_46
    · have hw := hw.2 c_2
      refine lv_lload_n hx hb dX0_downLow_14 rfl (lv_at hl 0 rfl) ?_
      refine lv_iload hx hb dX0_downLow_15 (lv_at hl 2 rfl) ?_
      refine lv_lushr (v := (zlushr p1 p3)) hx hb dX0_downLow_17 rfl ?_
      refine lv_lload_n hx hb dX0_downLow_18 rfl (lv_at hl 1 rfl) ?_
      refine lv_bipush (v := 64) hx hb dX0_downLow_19 (by decide) ?_
      refine lv_iload hx hb dX0_downLow_21 (lv_at hl 2 rfl) ?_
      refine lv_isub hx hb dX0_downLow_23 ?_
      refine lv_lshl (v := (zlshl p2 ((64 : Int32) - p3))) hx hb dX0_downLow_24 rfl ?_
      refine lv_lor hx hb dX0_downLow_25 ?_
      exact z_lret hx hb hr hlk hw dX0_downLow_26
  · have hw := hw.2 c_1
    refine lv_lload_n hx hb dX0_downLow_5 rfl (lv_at hl 0 rfl) ?_
    exact z_lret hx hb hr hlk hw dX0_downLow_6
def wX0_downHigh  (p1 : Int64) (p2 : Int32) (post : Int64 → Prop) : Prop := (((64 : Int32) ≤ p2 → post (0 : Int64)) ∧ (¬ (64 : Int32) ≤ p2 → post (zlushr p1 p2)))
abbrev rX0_downHigh : Room := { frames := 0, cells := 0, slots := 0, locals := 0 }
theorem vX0_downHigh : yX0_downHigh.cls ≠ "java/lang/invoke/MethodHandle" ∧ yX0_downHigh.cls ≠ "java/lang/invoke/VarHandle" ∧ (parseMethodDescriptor yX0_downHigh.desc).map (fun d => d.parameters.length) = some 2 := by decide +kernel
set_option maxHeartbeats 4000000 in
set_option maxRecDepth 100000 in
theorem kX0_downHigh (l : Launch) (D : va_G) (cA : Nat → ClassId)  (p1 : Int64) (p2 : Int32) (post : Int64 → Prop) (h : wX0_downHigh p1 p2 post) : Met l yX0_downHigh wsX0_downHigh rX0_downHigh (zPr D cA [.long p1, .int p2] []) (vp_Sl post) 0 0 (fun _ => False) := by
  refine z_ro (cc := cX0_downHigh) (maxL := 3) (ret := (some .long)) (by decide) rfl (Nat.le_of_ble_eq_true rfl) ?_
  intro p e s m args below meth c ls hx hb hr hlk hml hown hts hK hP hl
  have hown : s.vm.findClass RX0 = some m.cls := hown
  have hl : lv_has ls 3 [(0, .long p1), (2, .int p2)] := hl
  have hw := h
  unfold wX0_downHigh at hw
  refine lv_iload_n hx hb dX0_downHigh_0 rfl (lv_at hl 1 rfl) ?_
  refine lv_bipush (v := 64) hx hb dX0_downHigh_1 (by decide) ?_
  refine lv_icmp_ge (tgt := 12) hx hb dX0_downHigh_3 (by decide) (fun c_1 => ?_) (fun c_1 => ?_)
  · have hw := hw.1 c_1
    refine lv_lconst (v := 0) hx hb dX0_downHigh_12 (by decide) ?_
    exact z_lret hx hb hr hlk hw dX0_downHigh_13
  · have hw := hw.2 c_1
    refine lv_lload_n hx hb dX0_downHigh_6 rfl (lv_at hl 0 rfl) ?_
    refine lv_iload_n hx hb dX0_downHigh_7 rfl (lv_at hl 1 rfl) ?_
    refine lv_lushr (v := (zlushr p1 p2)) hx hb dX0_downHigh_8 rfl ?_
    refine lv_goto (tgt := 13) hx hb dX0_downHigh_9 (by decide) ?_
    exact z_lret hx hb hr hlk hw dX0_downHigh_13
def wJ13_bitCount_95d88  (p1 : Int64) (post : Int32 → Prop) : Prop := (∀ x_1 : Int64, x_1 = (p1 - ((zlushr p1 (1 : Int32)) &&& (6148914691236517205 : Int64))) → (∀ x_2 : Int64, x_2 = ((x_1 &&& (3689348814741910323 : Int64)) + ((zlushr x_1 (2 : Int32)) &&& (3689348814741910323 : Int64))) → (∀ x_3 : Int64, x_3 = ((x_2 + (zlushr x_2 (4 : Int32))) &&& (1085102592571150095 : Int64)) → (∀ x_4 : Int64, x_4 = (x_3 + (zlushr x_3 (8 : Int32))) → (∀ x_5 : Int64, x_5 = (x_4 + (zlushr x_4 (16 : Int32))) → (∀ x_6 : Int64, x_6 = (x_5 + (zlushr x_5 (32 : Int32))) → post (((x_6).toInt32) &&& (127 : Int32))))))))
abbrev rJ13_bitCount_95d88 : Room := { frames := 0, cells := 0, slots := 0, locals := 0 }
theorem vJ13_bitCount_95d88 : yJ13_bitCount_95d88.cls ≠ "java/lang/invoke/MethodHandle" ∧ yJ13_bitCount_95d88.cls ≠ "java/lang/invoke/VarHandle" ∧ (parseMethodDescriptor yJ13_bitCount_95d88.desc).map (fun d => d.parameters.length) = some 1 := by decide +kernel
set_option maxHeartbeats 4000000 in
set_option maxRecDepth 100000 in
theorem kJ13_bitCount_95d88 (l : Launch) (D : va_G) (cA : Nat → ClassId)  (p1 : Int64) (post : Int32 → Prop) (h : wJ13_bitCount_95d88 p1 post) : Met l yJ13_bitCount_95d88 wsJ13_bitCount_95d88 rJ13_bitCount_95d88 (zPr D cA [.long p1] []) (vp_Si post) 0 0 (fun _ => False) := by
  refine z_ro (cc := cJ13_bitCount_95d88) (maxL := 2) (ret := (some .int)) (by decide) rfl (Nat.le_of_ble_eq_true rfl) ?_
  intro p e s m args below meth c ls hx hb hr hlk hml hown hts hK hP hl
  have hown : s.vm.findClass RJ13 = some m.cls := hown
  have hl : lv_has ls 2 [(0, .long p1)] := hl
  have hw := h
  unfold wJ13_bitCount_95d88 at hw
  have kl314 := hts (.constantLong RJ13 314 (6148914691236517205)) (by decide +kernel)
  have kl316 := hts (.constantLong RJ13 316 (3689348814741910323)) (by decide +kernel)
  have kl318 := hts (.constantLong RJ13 318 (1085102592571150095)) (by decide +kernel)
  refine lv_lload_n hx hb dJ13_bitCount_95d88_0 rfl (lv_at hl 0 rfl) ?_
  refine lv_lload_n hx hb dJ13_bitCount_95d88_1 rfl (lv_at hl 0 rfl) ?_
  refine lv_iconst (v := 1) hx hb dJ13_bitCount_95d88_2 (by decide) ?_
  refine lv_lushr (v := (zlushr p1 (1 : Int32))) hx hb dJ13_bitCount_95d88_3 rfl ?_
  refine lv_ldc2 (v := 6148914691236517205) hx hb hown kl314 dJ13_bitCount_95d88_4 ?_
  refine lv_land hx hb dJ13_bitCount_95d88_7 ?_
  refine lv_lsub hx hb dJ13_bitCount_95d88_8 ?_
  refine lv_topl (fun x_1 ex_1 => ?_)
  have hw := hw x_1 ex_1
  refine lv_lstore_n (lv' := [(0, .long x_1)]) hx hb dJ13_bitCount_95d88_9 rfl hl (by decide) rfl (fun ls hl => ?_)
  refine lv_lload_n hx hb dJ13_bitCount_95d88_10 rfl (lv_at hl 0 rfl) ?_
  refine lv_ldc2 (v := 3689348814741910323) hx hb hown kl316 dJ13_bitCount_95d88_11 ?_
  refine lv_land hx hb dJ13_bitCount_95d88_14 ?_
  refine lv_lload_n hx hb dJ13_bitCount_95d88_15 rfl (lv_at hl 0 rfl) ?_
  refine lv_iconst (v := 2) hx hb dJ13_bitCount_95d88_16 (by decide) ?_
  refine lv_lushr (v := (zlushr x_1 (2 : Int32))) hx hb dJ13_bitCount_95d88_17 rfl ?_
  refine lv_ldc2 (v := 3689348814741910323) hx hb hown kl316 dJ13_bitCount_95d88_18 ?_
  refine lv_land hx hb dJ13_bitCount_95d88_21 ?_
  refine lv_ladd hx hb dJ13_bitCount_95d88_22 ?_
  refine lv_topl (fun x_2 ex_2 => ?_)
  have hw := hw x_2 ex_2
  refine lv_lstore_n (lv' := [(0, .long x_2)]) hx hb dJ13_bitCount_95d88_23 rfl hl (by decide) rfl (fun ls hl => ?_)
  refine lv_lload_n hx hb dJ13_bitCount_95d88_24 rfl (lv_at hl 0 rfl) ?_
  refine lv_lload_n hx hb dJ13_bitCount_95d88_25 rfl (lv_at hl 0 rfl) ?_
  refine lv_iconst (v := 4) hx hb dJ13_bitCount_95d88_26 (by decide) ?_
  refine lv_lushr (v := (zlushr x_2 (4 : Int32))) hx hb dJ13_bitCount_95d88_27 rfl ?_
  refine lv_ladd hx hb dJ13_bitCount_95d88_28 ?_
  refine lv_ldc2 (v := 1085102592571150095) hx hb hown kl318 dJ13_bitCount_95d88_29 ?_
  refine lv_land hx hb dJ13_bitCount_95d88_32 ?_
  refine lv_topl (fun x_3 ex_3 => ?_)
  have hw := hw x_3 ex_3
  refine lv_lstore_n (lv' := [(0, .long x_3)]) hx hb dJ13_bitCount_95d88_33 rfl hl (by decide) rfl (fun ls hl => ?_)
  refine lv_lload_n hx hb dJ13_bitCount_95d88_34 rfl (lv_at hl 0 rfl) ?_
  refine lv_lload_n hx hb dJ13_bitCount_95d88_35 rfl (lv_at hl 0 rfl) ?_
  refine lv_bipush (v := 8) hx hb dJ13_bitCount_95d88_36 (by decide) ?_
  refine lv_lushr (v := (zlushr x_3 (8 : Int32))) hx hb dJ13_bitCount_95d88_38 rfl ?_
  refine lv_ladd hx hb dJ13_bitCount_95d88_39 ?_
  refine lv_topl (fun x_4 ex_4 => ?_)
  have hw := hw x_4 ex_4
  refine lv_lstore_n (lv' := [(0, .long x_4)]) hx hb dJ13_bitCount_95d88_40 rfl hl (by decide) rfl (fun ls hl => ?_)
  refine lv_lload_n hx hb dJ13_bitCount_95d88_41 rfl (lv_at hl 0 rfl) ?_
  refine lv_lload_n hx hb dJ13_bitCount_95d88_42 rfl (lv_at hl 0 rfl) ?_
  refine lv_bipush (v := 16) hx hb dJ13_bitCount_95d88_43 (by decide) ?_
  refine lv_lushr (v := (zlushr x_4 (16 : Int32))) hx hb dJ13_bitCount_95d88_45 rfl ?_
  refine lv_ladd hx hb dJ13_bitCount_95d88_46 ?_
  refine lv_topl (fun x_5 ex_5 => ?_)
  have hw := hw x_5 ex_5
  refine lv_lstore_n (lv' := [(0, .long x_5)]) hx hb dJ13_bitCount_95d88_47 rfl hl (by decide) rfl (fun ls hl => ?_)
  refine lv_lload_n hx hb dJ13_bitCount_95d88_48 rfl (lv_at hl 0 rfl) ?_
  refine lv_lload_n hx hb dJ13_bitCount_95d88_49 rfl (lv_at hl 0 rfl) ?_
  refine lv_bipush (v := 32) hx hb dJ13_bitCount_95d88_50 (by decide) ?_
  refine lv_lushr (v := (zlushr x_5 (32 : Int32))) hx hb dJ13_bitCount_95d88_52 rfl ?_
  refine lv_ladd hx hb dJ13_bitCount_95d88_53 ?_
  refine lv_topl (fun x_6 ex_6 => ?_)
  have hw := hw x_6 ex_6
  refine lv_lstore_n (lv' := [(0, .long x_6)]) hx hb dJ13_bitCount_95d88_54 rfl hl (by decide) rfl (fun ls hl => ?_)
  refine lv_lload_n hx hb dJ13_bitCount_95d88_55 rfl (lv_at hl 0 rfl) ?_
  refine lv_l2i (v := ((x_6).toInt32)) hx hb dJ13_bitCount_95d88_56 rfl ?_
  refine lv_bipush (v := 127) hx hb dJ13_bitCount_95d88_57 (by decide) ?_
  refine lv_iand hx hb dJ13_bitCount_95d88_59 ?_
  exact z_iret hx hb hr hlk hw dJ13_bitCount_95d88_60
def wX0_indexOfOne  (p1 : Int64) (p2 : Int32) (post : Int32 → Prop) : Prop := (∃ (I_1 : Int64 → Int32 → Prop) (mu_1 : Int64 → Int32 → Nat), I_1 p1 (0 : Int32) ∧ ∀ (x_2 : Int64) (x_3 : Int32), I_1 x_2 x_3 → ((p2 ≤ x_3 → (wJ13_bitCount_95d88 ((x_2 &&& (-x_2)) - (1 : Int64)) (fun r_5 : Int32 => (post r_5)))) ∧ (¬ p2 ≤ x_3 → (∀ x_6 : Int64, x_6 = (x_2 &&& (x_2 - (1 : Int64))) → (∀ x_7 : Int32, x_7 = x_3 + (1) → (I_1 x_6 x_7 ∧ mu_1 x_6 x_7 < mu_1 x_2 x_3))))))
abbrev rX0_indexOfOne : Room := { frames := 1, cells := 0, slots := 0, locals := 21 }
theorem vX0_indexOfOne : yX0_indexOfOne.cls ≠ "java/lang/invoke/MethodHandle" ∧ yX0_indexOfOne.cls ≠ "java/lang/invoke/VarHandle" ∧ (parseMethodDescriptor yX0_indexOfOne.desc).map (fun d => d.parameters.length) = some 2 := by decide +kernel
set_option maxHeartbeats 4000000 in
set_option maxRecDepth 100000 in
theorem kX0_indexOfOne (l : Launch) (D : va_G) (cA : Nat → ClassId)  (p1 : Int64) (p2 : Int32) (post : Int32 → Prop) (h : wX0_indexOfOne p1 p2 post) : Met l yX0_indexOfOne wsX0_indexOfOne rX0_indexOfOne (zPr D cA [.long p1, .int p2] []) (vp_Si post) 0 0 (fun _ => False) := by
  refine z_ro (cc := cX0_indexOfOne) (maxL := 6) (ret := (some .int)) (by decide) rfl (Nat.le_of_ble_eq_true rfl) ?_
  intro p e s m args below meth c ls hx hb hr hlk hml hown hts hK hP hl
  have hown : s.vm.findClass RX0 = some m.cls := hown
  have hl : lv_has ls 6 [(0, .long p1), (2, .int p2)] := hl
  have hw := h
  unfold wX0_indexOfOne at hw
  refine lv_lload_n hx hb dX0_indexOfOne_0 rfl (lv_at hl 0 rfl) ?_
  refine lv_lstore_n (lv' := [(3, .long p1), (0, .long p1), (2, .int p2)]) hx hb dX0_indexOfOne_1 rfl hl (by decide) rfl (fun ls hl => ?_)
  refine lv_iconst (v := 0) hx hb dX0_indexOfOne_2 (by decide) ?_
  refine lv_istore (lv' := [(5, .int (0 : Int32)), (3, .long p1), (0, .long p1), (2, .int p2)]) hx hb dX0_indexOfOne_3 hl (by decide) rfl (fun ls hl => ?_)
  obtain ⟨I_1, mu_1, hI_1, hw⟩ := hw
  have lp_1 : ∀ (nn : Nat) (x_2 : Int64) (x_3 : Int32) (ls : Array Slot), mu_1 x_2 x_3 < nn → I_1 x_2 x_3 → lv_has ls 6 [(2, .int p2), (3, .long x_2), (5, .int x_3)] → W p l e rX0_indexOfOne s m args below meth c s.heap [] 0 0 (MQ below (vp_Si post) args s 0 0 (fun _ => False)) (F0 m 5 ls []) := by
    intro nn
    induction nn with
    | zero => exact fun _ _ _ h0 => absurd h0 (Nat.not_lt_zero _)
    | succ nn ih_1 =>
      intro x_2 x_3 ls hmu_1 hI_1 hl
      have hw := hw x_2 x_3 hI_1
      refine lv_iload hx hb dX0_indexOfOne_5 (lv_at hl 2 rfl) ?_
      refine lv_iload_n hx hb dX0_indexOfOne_7 rfl (lv_at hl 0 rfl) ?_
      refine lv_icmp_ge (tgt := 23) hx hb dX0_indexOfOne_8 (by decide) (fun c_4 => ?_) (fun c_4 => ?_)
      · have hw := hw.1 c_4
        refine lv_lload_n hx hb dX0_indexOfOne_23 rfl (lv_at hl 1 rfl) ?_
        refine lv_lload_n hx hb dX0_indexOfOne_24 rfl (lv_at hl 1 rfl) ?_
        refine lv_lneg hx hb dX0_indexOfOne_25 ?_
        refine lv_land hx hb dX0_indexOfOne_26 ?_
        refine lv_lconst (v := 1) hx hb dX0_indexOfOne_27 (by decide) ?_
        refine lv_lsub hx hb dX0_indexOfOne_28 ?_
        refine z_si [.long ((x_2 &&& (-x_2)) - (1 : Int64))] [] ⟨hx, hb, hml, hown, hts⟩ (kJ13_bitCount_95d88 l D cA ((x_2 &&& (-x_2)) - (1 : Int64)) _ hw) (va_cwS 1 hts gX0_indexOfOne_J13_bitCount_95d88 rfl rfl rfl vJ13_bitCount_95d88 ⟨Nat.le_of_ble_eq_true rfl, Nat.le_of_ble_eq_true rfl⟩) hK z_p0 rfl hl.1 rfl (Nat.le_of_ble_eq_true rfl) dX0_indexOfOne_29 ⟨Nat.zero_le _, Nat.zero_le _⟩ (fun r_5 hw => ?_)
        exact z_iret hx hb hr hlk hw dX0_indexOfOne_32
      · have hw := hw.2 c_4
        refine lv_lload_n hx hb dX0_indexOfOne_11 rfl (lv_at hl 1 rfl) ?_
        refine lv_lload_n hx hb dX0_indexOfOne_12 rfl (lv_at hl 1 rfl) ?_
        refine lv_lconst (v := 1) hx hb dX0_indexOfOne_13 (by decide) ?_
        refine lv_lsub hx hb dX0_indexOfOne_14 ?_
        refine lv_land hx hb dX0_indexOfOne_15 ?_
        refine lv_topl (fun x_6 ex_6 => ?_)
        have hw := hw x_6 ex_6
        refine lv_lstore_n (lv' := [(3, .long x_6), (2, .int p2), (5, .int x_3)]) hx hb dX0_indexOfOne_16 rfl hl (by decide) rfl (fun ls hl => ?_)
        obtain ⟨x_7, ex_7⟩ : ∃ y : Int32, y = x_3 + (1) := ⟨_, rfl⟩
        have hw := hw x_7 ex_7
        refine lv_iinc (v := x_7) (lv' := [(5, .int x_7), (3, .long x_6), (2, .int p2)]) hx hb dX0_indexOfOne_17 hl (k := 2) rfl (by rw [ex_7]; rfl) (by decide) rfl (fun ls hl => ?_)
        refine lv_goto (tgt := 5) hx hb dX0_indexOfOne_20 (by decide) ?_
        exact ih_1 x_6 x_7 ls (Nat.lt_of_lt_of_le hw.2 (Nat.le_of_lt_succ hmu_1)) hw.1 (lv_sub hl [2, 1, 0] rfl)
  exact lp_1 (mu_1 p1 (0 : Int32) + 1) p1 (0 : Int32) ls (Nat.lt_succ_self _) hI_1 (lv_sub hl [3, 1, 0] rfl)
