/-! written by wip/whole/gen.py -/
def wX3_put (f_length : Int32) (f_bytes : Nat → Int32) (p1 : Int32) (post : Int32 → ((Int32) × (Nat → Int32)) → Prop) : Prop := ((f_length < (160 : Int32) → (∀ x_2 : Int32, x_2 = ((p1).toInt8.toInt32) → (vp_in f_length 160 ∧ (∀ x_3 : Int32, x_3 = (f_length + (1 : Int32)) → post (1 : Int32) (x_3, (upd f_bytes f_length.toNatClampNeg (vp_nar .byte x_2))))))) ∧ (¬ f_length < (160 : Int32) → post (0 : Int32) (f_length, f_bytes)))
abbrev rX3_put : Room := { frames := 0, cells := 0, slots := 0, locals := 0 }
theorem vX3_put : yX3_put.cls = RX3 ∧ yX3_put.cls ≠ "java/lang/invoke/MethodHandle" ∧ yX3_put.cls ≠ "java/lang/invoke/VarHandle" ∧ (parseMethodDescriptor yX3_put.desc).map (fun d => d.parameters.length) = some 1 := by decide +kernel
set_option maxHeartbeats 4000000 in
set_option maxRecDepth 100000 in
theorem kX3_put (l : Launch) (D : va_G) (cA : Nat → ClassId) (a0 a_bytes : Nat) (f_length : Int32) (f_at : Int32) (f_start : Int32) (f_number : Int32) (f_latestFault : Int32) (f_bytes : Nat → Int32) (sz : Nat) (p1 : Int32) (post : Int32 → ((Int32) × (Nat → Int32)) → Prop) (h : wX3_put f_length f_bytes p1 post) : Met l yX3_put wsX3_put rX3_put (zPw D cA [.ref a0, .int p1] [(a0, .inr (2, [.ref a_bytes, .int f_length, .int f_at, .int f_start, .int f_number, .int f_latestFault])), (a_bytes, .inl (cA 2, 160, .inl f_bytes))] sz) (va_Qi post (zB D (va_A [(a0, .inr (2, [.ref a_bytes, .int f_length, .int f_at, .int f_start, .int f_number, .int f_latestFault])), (a_bytes, .inl (cA 2, 160, .inl f_bytes))] sz) (fun u : (Int32) × (Nat → Int32) => [(a0, .inr (2, [.ref a_bytes, .int u.1, .int f_at, .int f_start, .int f_number, .int f_latestFault])), (a_bytes, .inl (cA 2, 160, .inl u.2))])) (va_A [(a0, .inr (2, [.ref a_bytes, .int f_length, .int f_at, .int f_start, .int f_number, .int f_latestFault])), (a_bytes, .inl (cA 2, 160, .inl f_bytes))] sz)) 0 0 (va_A [(a0, .inr (2, [.ref a_bytes, .int f_length, .int f_at, .int f_start, .int f_number, .int f_latestFault])), (a_bytes, .inl (cA 2, 160, .inl f_bytes))] sz) := by
  refine z_rw (Qc := fun A => va_Qi post (zB D A (fun u : (Int32) × (Nat → Int32) => [(a0, .inr (2, [.ref a_bytes, .int u.1, .int f_at, .int f_start, .int f_number, .int f_latestFault])), (a_bytes, .inl (cA 2, 160, .inl u.2))])) A) (cc := cX3_put) (maxL := 2) (ret := (some .boolean)) (by decide) rfl (Nat.le_of_ble_eq_true rfl) ?_
  intro p e s m args below meth c ls A hx hb hr hlk hml hown hts hK hP hD hS hA hl
  have hown : s.vm.findClass RX3 = some m.cls := hown
  have hl : lv_has ls 2 [(0, .ref a0), (1, .int p1)] := hl
  have hw := h
  unfold wX3_put at hw
  have iwX3 : ∀ w ∈ wsX30, w ∈ wsX3_put := fun w h9 => List.mem_cons_of_mem _ (List.mem_append_right _ h9)
  have kf15 := hts (.fieldLink RX3 15 "ExcessTree$Tape" "length" "I") (by decide +kernel)
  have kf9 := hts (.fieldLink RX3 9 "ExcessTree$Tape" "bytes" "[B") (by decide +kernel)
  refine lv_aload_n hx hb dX3_put_0 rfl (lv_at hl 0 rfl) ?_
  refine va_get (D := D) (ci := 2) (v := .int f_length) (C := RX3) (T := TX3) (N := 6) hx hb hts iwX3 hown hK.1 hP 0 rfl rfl 1 (by decide) kf15 (fun _ h9 => h9) rfl dX3_put_1 ?_
  refine lv_sipush (v := 160) hx hb dX3_put_4 (by decide) ?_
  refine lv_icmp_lt (tgt := 12) hx hb dX3_put_7 (by decide) (fun c_1 => ?_) (fun c_1 => ?_)
  · have hw := hw.1 c_1
    refine lv_aload_n hx hb dX3_put_12 rfl (lv_at hl 0 rfl) ?_
    refine va_get (D := D) (ci := 2) (v := .ref a_bytes) (C := RX3) (T := TX3) (N := 6) hx hb hts iwX3 hown hK.1 hP 0 rfl rfl 0 (by decide) kf9 (fun _ h9 => h9) rfl dX3_put_13 ?_
    refine lv_aload_n hx hb dX3_put_16 rfl (lv_at hl 0 rfl) ?_
    refine va_get (D := D) (ci := 2) (v := .int f_length) (C := RX3) (T := TX3) (N := 6) hx hb hts iwX3 hown hK.1 hP 0 rfl rfl 1 (by decide) kf15 (fun _ h9 => h9) rfl dX3_put_17 ?_
    refine lv_iload_n hx hb dX3_put_20 rfl (lv_at hl 1 rfl) ?_
    refine lv_i2b (v := ((p1).toInt8.toInt32)) hx hb dX3_put_21 rfl ?_
    refine lv_topi (fun x_2 ex_2 => ?_)
    have hw := hw x_2 ex_2
    have hq := hw.1
    have hw := hw.2
    refine va_bast hx hb hK.1 hP hD hS 1 2 rfl rfl hq dX3_put_22 (fun H locs hP hD hS => ?_)
    have hP : va_P D vwCl [(a0, .inr (2, [.ref a_bytes, .int f_length, .int f_at, .int f_start, .int f_number, .int f_latestFault])), (a_bytes, .inl (cA 2, 160, .inl (upd f_bytes f_length.toNatClampNeg (vp_nar .byte x_2))))] H := hP
    have hD : va_D A [(a0, .inr (2, [.ref a_bytes, .int f_length, .int f_at, .int f_start, .int f_number, .int f_latestFault])), (a_bytes, .inl (cA 2, 160, .inl (upd f_bytes f_length.toNatClampNeg (vp_nar .byte x_2))))] := hD
    refine lv_aload_n hx hb dX3_put_23 rfl (lv_at hl 0 rfl) ?_
    refine lv_dup hx hb dX3_put_24 rfl ?_
    refine va_get (D := D) (ci := 2) (v := .int f_length) (C := RX3) (T := TX3) (N := 6) hx hb hts iwX3 hown hK.1 hP 0 rfl rfl 1 (by decide) kf15 (fun _ h9 => h9) rfl dX3_put_25 ?_
    refine lv_iconst (v := 1) hx hb dX3_put_28 (by decide) ?_
    refine lv_iadd hx hb dX3_put_29 ?_
    refine lv_topi (fun x_3 ex_3 => ?_)
    have hw := hw x_3 ex_3
    refine va_put (D := D) (ci := 2) (v := .int x_3) (ty := .int) (C := RX3) (T := TX3) (N := 6) hx hb hts iwX3 tyX3 tyX3_ok nmX3 hown hK.1 hP hD hS 0 rfl rfl 1 (by decide) kf15 (fun _ h9 => h9) rfl (by decide +kernel) rfl rfl (Nat.le_of_ble_eq_true rfl) dX3_put_30 (fun H locs hP hD hS => ?_)
    have hP : va_P D vwCl [(a0, .inr (2, [.ref a_bytes, .int x_3, .int f_at, .int f_start, .int f_number, .int f_latestFault])), (a_bytes, .inl (cA 2, 160, .inl (upd f_bytes f_length.toNatClampNeg (vp_nar .byte x_2))))] H := hP
    have hD : va_D A [(a0, .inr (2, [.ref a_bytes, .int x_3, .int f_at, .int f_start, .int f_number, .int f_latestFault])), (a_bytes, .inl (cA 2, 160, .inl (upd f_bytes f_length.toNatClampNeg (vp_nar .byte x_2))))] := hD
    refine lv_iconst (v := 1) hx hb dX3_put_33 (by decide) ?_
    exact z_zretw (x_3, (upd f_bytes f_length.toNatClampNeg (vp_nar .byte x_2))) hx hb hr hlk rfl hw hP hD hS dX3_put_34
  · have hw := hw.2 c_1
    refine lv_iconst (v := 0) hx hb dX3_put_10 (by decide) ?_
    exact z_zretw (f_length, f_bytes) hx hb hr hlk rfl hw hP hD hS dX3_put_11
def wX3_isFigure  (p1 : Int32) (post : Int32 → Prop) : Prop := ((p1 < (48 : Int32) → post (0 : Int32)) ∧ (¬ p1 < (48 : Int32) → (((57 : Int32) < p1 → post (0 : Int32)) ∧ (¬ (57 : Int32) < p1 → post (1 : Int32)))))
abbrev rX3_isFigure : Room := { frames := 0, cells := 0, slots := 0, locals := 0 }
theorem vX3_isFigure : yX3_isFigure.cls ≠ "java/lang/invoke/MethodHandle" ∧ yX3_isFigure.cls ≠ "java/lang/invoke/VarHandle" ∧ (parseMethodDescriptor yX3_isFigure.desc).map (fun d => d.parameters.length) = some 1 := by decide +kernel
set_option maxHeartbeats 4000000 in
set_option maxRecDepth 100000 in
theorem kX3_isFigure (l : Launch) (D : va_G) (cA : Nat → ClassId)  (p1 : Int32) (post : Int32 → Prop) (h : wX3_isFigure p1 post) : Met l yX3_isFigure wsX3_isFigure rX3_isFigure (zPr D cA [.int p1] []) (vp_Si post) 0 0 (fun _ => False) := by
  refine z_ro (cc := cX3_isFigure) (maxL := 1) (ret := (some .boolean)) (by decide) rfl (Nat.le_of_ble_eq_true rfl) ?_
  intro p e s m args below meth c ls hx hb hr hlk hml hown hts hK hP hl
  have hown : s.vm.findClass RX3 = some m.cls := hown
  have hl : lv_has ls 1 [(0, .int p1)] := hl
  have hw := h
  unfold wX3_isFigure at hw
  refine lv_iload_n hx hb dX3_isFigure_0 rfl (lv_at hl 0 rfl) ?_
  refine lv_bipush (v := 48) hx hb dX3_isFigure_1 (by decide) ?_
  refine lv_icmp_lt (tgt := 16) hx hb dX3_isFigure_3 (by decide) (fun c_1 => ?_) (fun c_1 => ?_)
  · have hw := hw.1 c_1
    refine lv_iconst (v := 0) hx hb dX3_isFigure_16 (by decide) ?_
    exact z_zret hx hb hr hlk rfl hw dX3_isFigure_17
  · have hw := hw.2 c_1
    refine lv_iload_n hx hb dX3_isFigure_6 rfl (lv_at hl 0 rfl) ?_
    refine lv_bipush (v := 57) hx hb dX3_isFigure_7 (by decide) ?_
    refine lv_icmp_gt (tgt := 16) hx hb dX3_isFigure_9 (by decide) (fun c_2 => ?_) (fun c_2 => ?_)
    · have hw := hw.1 c_2
      refine lv_iconst (v := 0) hx hb dX3_isFigure_16 (by decide) ?_
      exact z_zret hx hb hr hlk rfl hw dX3_isFigure_17
    · have hw := hw.2 c_2
      refine lv_iconst (v := 1) hx hb dX3_isFigure_12 (by decide) ?_
      refine lv_goto (tgt := 17) hx hb dX3_isFigure_13 (by decide) ?_
      exact z_zret hx hb hr hlk rfl hw dX3_isFigure_17
def wX3_numberToken (f_length : Int32) (f_at : Int32) (f_start : Int32) (f_number : Int32) (f_bytes : Nat → Int32)  (post : Int32 → ((Int32) × (Int32)) → Prop) : Prop := (∃ (I_1 : Int32 → Int32 → Prop) (mu_1 : Int32 → Int32 → Nat), I_1 f_at (0 : Int32) ∧ ∀ (f_at_2 : Int32) (f_number_3 : Int32), I_1 f_at_2 f_number_3 → ((f_length ≤ f_at_2 → (((4 : Int32) < (f_at_2 - f_start) → post (2 : Int32) (f_at_2, f_number_3)) ∧ (¬ (4 : Int32) < (f_at_2 - f_start) → post (1 : Int32) (f_at_2, f_number_3)))) ∧ (¬ f_length ≤ f_at_2 → (vp_in f_at_2 160 ∧ (wX3_isFigure (f_bytes f_at_2.toNatClampNeg) (fun r_6 : Int32 => (((r_6 = 0 → (((4 : Int32) < (f_at_2 - f_start) → post (2 : Int32) (f_at_2, f_number_3)) ∧ (¬ (4 : Int32) < (f_at_2 - f_start) → post (1 : Int32) (f_at_2, f_number_3)))) ∧ (¬ r_6 = 0 → (vp_in f_at_2 160 ∧ (∀ x_9 : Int32, x_9 = ((((10 : Int32) * f_number_3) + (f_bytes f_at_2.toNatClampNeg)) - (48 : Int32)) → (∀ x_10 : Int32, x_10 = (f_at_2 + (1 : Int32)) → (I_1 x_10 x_9 ∧ mu_1 x_10 x_9 < mu_1 f_at_2 f_number_3)))))))))))))
abbrev rX3_numberToken : Room := { frames := 1, cells := 0, slots := 0, locals := 20 }
theorem vX3_numberToken : yX3_numberToken.cls = RX3 ∧ yX3_numberToken.cls ≠ "java/lang/invoke/MethodHandle" ∧ yX3_numberToken.cls ≠ "java/lang/invoke/VarHandle" ∧ (parseMethodDescriptor yX3_numberToken.desc).map (fun d => d.parameters.length) = some 0 := by decide +kernel
set_option maxHeartbeats 4000000 in
set_option maxRecDepth 100000 in
theorem kX3_numberToken (l : Launch) (D : va_G) (cA : Nat → ClassId) (a0 a_bytes : Nat) (f_length : Int32) (f_at : Int32) (f_start : Int32) (f_number : Int32) (f_latestFault : Int32) (f_bytes : Nat → Int32) (sz : Nat)  (post : Int32 → ((Int32) × (Int32)) → Prop) (h : wX3_numberToken f_length f_at f_start f_number f_bytes post) : Met l yX3_numberToken wsX3_numberToken rX3_numberToken (zPw D cA [.ref a0] [(a0, .inr (2, [.ref a_bytes, .int f_length, .int f_at, .int f_start, .int f_number, .int f_latestFault])), (a_bytes, .inl (cA 2, 160, .inl f_bytes))] sz) (va_Qi post (zB D (va_A [(a0, .inr (2, [.ref a_bytes, .int f_length, .int f_at, .int f_start, .int f_number, .int f_latestFault])), (a_bytes, .inl (cA 2, 160, .inl f_bytes))] sz) (fun u : (Int32) × (Int32) => [(a0, .inr (2, [.ref a_bytes, .int f_length, .int u.1, .int f_start, .int u.2, .int f_latestFault])), (a_bytes, .inl (cA 2, 160, .inl f_bytes))])) (va_A [(a0, .inr (2, [.ref a_bytes, .int f_length, .int f_at, .int f_start, .int f_number, .int f_latestFault])), (a_bytes, .inl (cA 2, 160, .inl f_bytes))] sz)) 0 0 (va_A [(a0, .inr (2, [.ref a_bytes, .int f_length, .int f_at, .int f_start, .int f_number, .int f_latestFault])), (a_bytes, .inl (cA 2, 160, .inl f_bytes))] sz) := by
  refine z_rw (Qc := fun A => va_Qi post (zB D A (fun u : (Int32) × (Int32) => [(a0, .inr (2, [.ref a_bytes, .int f_length, .int u.1, .int f_start, .int u.2, .int f_latestFault])), (a_bytes, .inl (cA 2, 160, .inl f_bytes))])) A) (cc := cX3_numberToken) (maxL := 1) (ret := (some .int)) (by decide) rfl (Nat.le_of_ble_eq_true rfl) ?_
  intro p e s m args below meth c ls A hx hb hr hlk hml hown hts hK hP hD hS hA hl
  have hown : s.vm.findClass RX3 = some m.cls := hown
  have hl : lv_has ls 1 [(0, .ref a0)] := hl
  have hw := h
  unfold wX3_numberToken at hw
  have iwX3 : ∀ w ∈ wsX30, w ∈ wsX3_numberToken := fun w h9 => List.mem_cons_of_mem _ (List.mem_append_right _ h9)
  have kf69 := hts (.fieldLink RX3 69 "ExcessTree$Tape" "number" "I") (by decide +kernel)
  have kf30 := hts (.fieldLink RX3 30 "ExcessTree$Tape" "at" "I") (by decide +kernel)
  have kf15 := hts (.fieldLink RX3 15 "ExcessTree$Tape" "length" "I") (by decide +kernel)
  have kf72 := hts (.fieldLink RX3 72 "ExcessTree$Tape" "start" "I") (by decide +kernel)
  have kf9 := hts (.fieldLink RX3 9 "ExcessTree$Tape" "bytes" "[B") (by decide +kernel)
  refine lv_aload_n hx hb dX3_numberToken_0 rfl (lv_at hl 0 rfl) ?_
  refine lv_iconst (v := 0) hx hb dX3_numberToken_1 (by decide) ?_
  refine va_put (D := D) (ci := 2) (v := .int (0 : Int32)) (ty := .int) (C := RX3) (T := TX3) (N := 6) hx hb hts iwX3 tyX3 tyX3_ok nmX3 hown hK.1 hP hD hS 0 rfl rfl 4 (by decide) kf69 (fun _ h9 => h9) rfl (by decide +kernel) rfl rfl (Nat.le_of_ble_eq_true rfl) dX3_numberToken_2 (fun H locs hP hD hS => ?_)
  have hP : va_P D vwCl [(a0, .inr (2, [.ref a_bytes, .int f_length, .int f_at, .int f_start, .int (0 : Int32), .int f_latestFault])), (a_bytes, .inl (cA 2, 160, .inl f_bytes))] H := hP
  have hD : va_D A [(a0, .inr (2, [.ref a_bytes, .int f_length, .int f_at, .int f_start, .int (0 : Int32), .int f_latestFault])), (a_bytes, .inl (cA 2, 160, .inl f_bytes))] := hD
  obtain ⟨I_1, mu_1, hI_1, hw⟩ := hw
  have lp_1 : ∀ (nn : Nat) (f_at_2 : Int32) (f_number_3 : Int32) (H : Heap) (locs : List Loc) (ls : Array Slot), mu_1 f_at_2 f_number_3 < nn → I_1 f_at_2 f_number_3 → va_P D vwCl [(a0, .inr (2, [.ref a_bytes, .int f_length, .int f_at_2, .int f_start, .int f_number_3, .int f_latestFault])), (a_bytes, .inl (cA 2, 160, .inl f_bytes))] H → va_D A [(a0, .inr (2, [.ref a_bytes, .int f_length, .int f_at_2, .int f_start, .int f_number_3, .int f_latestFault])), (a_bytes, .inl (cA 2, 160, .inl f_bytes))] → va_S A s.heap H locs → lv_has ls 1 [(0, .ref a0)] → W p l e rX3_numberToken s m args below meth c H locs 0 0 (MQ below (va_Qi post (zB D A (fun u : (Int32) × (Int32) => [(a0, .inr (2, [.ref a_bytes, .int f_length, .int u.1, .int f_start, .int u.2, .int f_latestFault])), (a_bytes, .inl (cA 2, 160, .inl f_bytes))])) A) args s 0 0 A) (F0 m 5 ls []) := by
    intro nn
    induction nn with
    | zero => exact fun _ _ _ _ _ h0 => absurd h0 (Nat.not_lt_zero _)
    | succ nn ih_1 =>
      intro f_at_2 f_number_3 H locs ls hmu_1 hI_1 hP hD hS hl
      have hw := hw f_at_2 f_number_3 hI_1
      refine lv_aload_n hx hb dX3_numberToken_5 rfl (lv_at hl 0 rfl) ?_
      refine va_get (D := D) (ci := 2) (v := .int f_at_2) (C := RX3) (T := TX3) (N := 6) hx hb hts iwX3 hown hK.1 hP 0 rfl rfl 2 (by decide) kf30 (fun _ h9 => h9) rfl dX3_numberToken_6 ?_
      refine lv_aload_n hx hb dX3_numberToken_9 rfl (lv_at hl 0 rfl) ?_
      refine va_get (D := D) (ci := 2) (v := .int f_length) (C := RX3) (T := TX3) (N := 6) hx hb hts iwX3 hown hK.1 hP 0 rfl rfl 1 (by decide) kf15 (fun _ h9 => h9) rfl dX3_numberToken_10 ?_
      refine lv_icmp_ge (tgt := 68) hx hb dX3_numberToken_13 (by decide) (fun c_4 => ?_) (fun c_4 => ?_)
      · have hw := hw.1 c_4
        refine lv_aload_n hx hb dX3_numberToken_68 rfl (lv_at hl 0 rfl) ?_
        refine va_get (D := D) (ci := 2) (v := .int f_at_2) (C := RX3) (T := TX3) (N := 6) hx hb hts iwX3 hown hK.1 hP 0 rfl rfl 2 (by decide) kf30 (fun _ h9 => h9) rfl dX3_numberToken_69 ?_
        refine lv_aload_n hx hb dX3_numberToken_72 rfl (lv_at hl 0 rfl) ?_
        refine va_get (D := D) (ci := 2) (v := .int f_start) (C := RX3) (T := TX3) (N := 6) hx hb hts iwX3 hown hK.1 hP 0 rfl rfl 3 (by decide) kf72 (fun _ h9 => h9) rfl dX3_numberToken_73 ?_
        refine lv_isub hx hb dX3_numberToken_76 ?_
        refine lv_iconst (v := 4) hx hb dX3_numberToken_77 (by decide) ?_
        refine lv_icmp_gt (tgt := 85) hx hb dX3_numberToken_78 (by decide) (fun c_5 => ?_) (fun c_5 => ?_)
        · have hw := hw.1 c_5
          refine lv_iconst (v := 2) hx hb dX3_numberToken_85 (by decide) ?_
          exact z_iretw (f_at_2, f_number_3) hx hb hr hlk hw hP hD hS dX3_numberToken_86
        · have hw := hw.2 c_5
          refine lv_iconst (v := 1) hx hb dX3_numberToken_81 (by decide) ?_
          refine lv_goto (tgt := 86) hx hb dX3_numberToken_82 (by decide) ?_
          exact z_iretw (f_at_2, f_number_3) hx hb hr hlk hw hP hD hS dX3_numberToken_86
      · have hw := hw.2 c_4
        refine lv_aload_n hx hb dX3_numberToken_16 rfl (lv_at hl 0 rfl) ?_
        refine va_get (D := D) (ci := 2) (v := .ref a_bytes) (C := RX3) (T := TX3) (N := 6) hx hb hts iwX3 hown hK.1 hP 0 rfl rfl 0 (by decide) kf9 (fun _ h9 => h9) rfl dX3_numberToken_17 ?_
        refine lv_aload_n hx hb dX3_numberToken_20 rfl (lv_at hl 0 rfl) ?_
        refine va_get (D := D) (ci := 2) (v := .int f_at_2) (C := RX3) (T := TX3) (N := 6) hx hb hts iwX3 hown hK.1 hP 0 rfl rfl 2 (by decide) kf30 (fun _ h9 => h9) rfl dX3_numberToken_21 ?_
        have hq := hw.1
        have hw := hw.2
        refine va_bald hx hb hK.1 hP 1 2 rfl rfl hq dX3_numberToken_24 ?_
        refine z_si [.int (f_bytes f_at_2.toNatClampNeg)] [] ⟨hx, hb, hml, hown, hts⟩ (kX3_isFigure l D cA (f_bytes f_at_2.toNatClampNeg) _ hw) (va_cwS 1 hts gX3_numberToken_X3_isFigure rfl rfl rfl vX3_isFigure ⟨Nat.le_of_ble_eq_true rfl, Nat.le_of_ble_eq_true rfl⟩) hK z_p0 rfl hl.1 rfl (Nat.le_of_ble_eq_true rfl) dX3_numberToken_25 ⟨Nat.zero_le _, Nat.zero_le _⟩ (fun r_6 hw => ?_)
        refine lv_if_eq (tgt := 68) hx hb dX3_numberToken_28 (by decide) (fun c_7 => ?_) (fun c_7 => ?_)
        · have hw := hw.1 c_7
          refine lv_aload_n hx hb dX3_numberToken_68 rfl (lv_at hl 0 rfl) ?_
          refine va_get (D := D) (ci := 2) (v := .int f_at_2) (C := RX3) (T := TX3) (N := 6) hx hb hts iwX3 hown hK.1 hP 0 rfl rfl 2 (by decide) kf30 (fun _ h9 => h9) rfl dX3_numberToken_69 ?_
          refine lv_aload_n hx hb dX3_numberToken_72 rfl (lv_at hl 0 rfl) ?_
          refine va_get (D := D) (ci := 2) (v := .int f_start) (C := RX3) (T := TX3) (N := 6) hx hb hts iwX3 hown hK.1 hP 0 rfl rfl 3 (by decide) kf72 (fun _ h9 => h9) rfl dX3_numberToken_73 ?_
          refine lv_isub hx hb dX3_numberToken_76 ?_
          refine lv_iconst (v := 4) hx hb dX3_numberToken_77 (by decide) ?_
          refine lv_icmp_gt (tgt := 85) hx hb dX3_numberToken_78 (by decide) (fun c_8 => ?_) (fun c_8 => ?_)
          · have hw := hw.1 c_8
            refine lv_iconst (v := 2) hx hb dX3_numberToken_85 (by decide) ?_
            exact z_iretw (f_at_2, f_number_3) hx hb hr hlk hw hP hD hS dX3_numberToken_86
          · have hw := hw.2 c_8
            refine lv_iconst (v := 1) hx hb dX3_numberToken_81 (by decide) ?_
            refine lv_goto (tgt := 86) hx hb dX3_numberToken_82 (by decide) ?_
            exact z_iretw (f_at_2, f_number_3) hx hb hr hlk hw hP hD hS dX3_numberToken_86
        · have hw := hw.2 c_7
          refine lv_aload_n hx hb dX3_numberToken_31 rfl (lv_at hl 0 rfl) ?_
          refine lv_bipush (v := 10) hx hb dX3_numberToken_32 (by decide) ?_
          refine lv_aload_n hx hb dX3_numberToken_34 rfl (lv_at hl 0 rfl) ?_
          refine va_get (D := D) (ci := 2) (v := .int f_number_3) (C := RX3) (T := TX3) (N := 6) hx hb hts iwX3 hown hK.1 hP 0 rfl rfl 4 (by decide) kf69 (fun _ h9 => h9) rfl dX3_numberToken_35 ?_
          refine lv_imul hx hb dX3_numberToken_38 ?_
          refine lv_aload_n hx hb dX3_numberToken_39 rfl (lv_at hl 0 rfl) ?_
          refine va_get (D := D) (ci := 2) (v := .ref a_bytes) (C := RX3) (T := TX3) (N := 6) hx hb hts iwX3 hown hK.1 hP 0 rfl rfl 0 (by decide) kf9 (fun _ h9 => h9) rfl dX3_numberToken_40 ?_
          refine lv_aload_n hx hb dX3_numberToken_43 rfl (lv_at hl 0 rfl) ?_
          refine va_get (D := D) (ci := 2) (v := .int f_at_2) (C := RX3) (T := TX3) (N := 6) hx hb hts iwX3 hown hK.1 hP 0 rfl rfl 2 (by decide) kf30 (fun _ h9 => h9) rfl dX3_numberToken_44 ?_
          have hq := hw.1
          have hw := hw.2
          refine va_bald hx hb hK.1 hP 1 2 rfl rfl hq dX3_numberToken_47 ?_
          refine lv_iadd hx hb dX3_numberToken_48 ?_
          refine lv_bipush (v := 48) hx hb dX3_numberToken_49 (by decide) ?_
          refine lv_isub hx hb dX3_numberToken_51 ?_
          refine lv_topi (fun x_9 ex_9 => ?_)
          have hw := hw x_9 ex_9
          refine va_put (D := D) (ci := 2) (v := .int x_9) (ty := .int) (C := RX3) (T := TX3) (N := 6) hx hb hts iwX3 tyX3 tyX3_ok nmX3 hown hK.1 hP hD hS 0 rfl rfl 4 (by decide) kf69 (fun _ h9 => h9) rfl (by decide +kernel) rfl rfl (Nat.le_of_ble_eq_true rfl) dX3_numberToken_52 (fun H locs hP hD hS => ?_)
          have hP : va_P D vwCl [(a0, .inr (2, [.ref a_bytes, .int f_length, .int f_at_2, .int f_start, .int x_9, .int f_latestFault])), (a_bytes, .inl (cA 2, 160, .inl f_bytes))] H := hP
          have hD : va_D A [(a0, .inr (2, [.ref a_bytes, .int f_length, .int f_at_2, .int f_start, .int x_9, .int f_latestFault])), (a_bytes, .inl (cA 2, 160, .inl f_bytes))] := hD
          refine lv_aload_n hx hb dX3_numberToken_55 rfl (lv_at hl 0 rfl) ?_
          refine lv_dup hx hb dX3_numberToken_56 rfl ?_
          refine va_get (D := D) (ci := 2) (v := .int f_at_2) (C := RX3) (T := TX3) (N := 6) hx hb hts iwX3 hown hK.1 hP 0 rfl rfl 2 (by decide) kf30 (fun _ h9 => h9) rfl dX3_numberToken_57 ?_
          refine lv_iconst (v := 1) hx hb dX3_numberToken_60 (by decide) ?_
          refine lv_iadd hx hb dX3_numberToken_61 ?_
          refine lv_topi (fun x_10 ex_10 => ?_)
          have hw := hw x_10 ex_10
          refine va_put (D := D) (ci := 2) (v := .int x_10) (ty := .int) (C := RX3) (T := TX3) (N := 6) hx hb hts iwX3 tyX3 tyX3_ok nmX3 hown hK.1 hP hD hS 0 rfl rfl 2 (by decide) kf30 (fun _ h9 => h9) rfl (by decide +kernel) rfl rfl (Nat.le_of_ble_eq_true rfl) dX3_numberToken_62 (fun H locs hP hD hS => ?_)
          have hP : va_P D vwCl [(a0, .inr (2, [.ref a_bytes, .int f_length, .int x_10, .int f_start, .int x_9, .int f_latestFault])), (a_bytes, .inl (cA 2, 160, .inl f_bytes))] H := hP
          have hD : va_D A [(a0, .inr (2, [.ref a_bytes, .int f_length, .int x_10, .int f_start, .int x_9, .int f_latestFault])), (a_bytes, .inl (cA 2, 160, .inl f_bytes))] := hD
          refine lv_goto (tgt := 5) hx hb dX3_numberToken_65 (by decide) ?_
          exact ih_1 x_10 x_9 _ _ ls (Nat.lt_of_lt_of_le hw.2 (Nat.le_of_lt_succ hmu_1)) hw.1 hP hD hS (lv_sub hl [0] rfl)
  exact lp_1 (mu_1 f_at (0 : Int32) + 1) f_at (0 : Int32) _ _ ls (Nat.lt_succ_self _) hI_1 hP hD hS (lv_sub hl [0] rfl)
def wX3_nextToken (f_length : Int32) (f_at : Int32) (f_start : Int32) (f_number : Int32) (f_bytes : Nat → Int32)  (post : Int32 → ((Int32) × (Int32) × (Int32)) → Prop) : Prop := (∃ (I_1 : Int32 → Prop) (mu_1 : Int32 → Nat), I_1 f_at ∧ ∀ (f_at_2 : Int32), I_1 f_at_2 → ((f_length ≤ f_at_2 → ((f_at_2 < f_length → (vp_in f_at_2 160 ∧ (∀ x_5 : Int32, x_5 = (f_bytes f_at_2.toNatClampNeg) → (wX3_isFigure x_5 (fun r_6 : Int32 => (((r_6 = 0 → (∀ x_8 : Int32, x_8 = (f_at_2 + (1 : Int32)) → ((x_5 = (40 : Int32) → post x_5 (x_8, f_at_2, f_number)) ∧ (¬ x_5 = (40 : Int32) → ((¬ x_5 = (41 : Int32) → post (2 : Int32) (x_8, f_at_2, f_number)) ∧ (x_5 = (41 : Int32) → post x_5 (x_8, f_at_2, f_number))))))) ∧ (¬ r_6 = 0 → (wX3_numberToken f_length f_at_2 f_at_2 f_number f_bytes (fun (r_11 : Int32) (u_12 : (Int32) × (Int32)) => (post r_11 (u_12.1, f_at_2, u_12.2)))))))))))) ∧ (¬ f_at_2 < f_length → post (0 : Int32) (f_at_2, f_at_2, f_number)))) ∧ (¬ f_length ≤ f_at_2 → (vp_in f_at_2 160 ∧ ((¬ (f_bytes f_at_2.toNatClampNeg) = (32 : Int32) → ((f_at_2 < f_length → (vp_in f_at_2 160 ∧ (∀ x_15 : Int32, x_15 = (f_bytes f_at_2.toNatClampNeg) → (wX3_isFigure x_15 (fun r_16 : Int32 => (((r_16 = 0 → (∀ x_18 : Int32, x_18 = (f_at_2 + (1 : Int32)) → ((x_15 = (40 : Int32) → post x_15 (x_18, f_at_2, f_number)) ∧ (¬ x_15 = (40 : Int32) → ((¬ x_15 = (41 : Int32) → post (2 : Int32) (x_18, f_at_2, f_number)) ∧ (x_15 = (41 : Int32) → post x_15 (x_18, f_at_2, f_number))))))) ∧ (¬ r_16 = 0 → (wX3_numberToken f_length f_at_2 f_at_2 f_number f_bytes (fun (r_21 : Int32) (u_22 : (Int32) × (Int32)) => (post r_21 (u_22.1, f_at_2, u_22.2)))))))))))) ∧ (¬ f_at_2 < f_length → post (0 : Int32) (f_at_2, f_at_2, f_number)))) ∧ ((f_bytes f_at_2.toNatClampNeg) = (32 : Int32) → (∀ x_23 : Int32, x_23 = (f_at_2 + (1 : Int32)) → (I_1 x_23 ∧ mu_1 x_23 < mu_1 f_at_2))))))))
abbrev rX3_nextToken : Room := { frames := 2, cells := 0, slots := 0, locals := 40 }
theorem vX3_nextToken : yX3_nextToken.cls = RX3 ∧ yX3_nextToken.cls ≠ "java/lang/invoke/MethodHandle" ∧ yX3_nextToken.cls ≠ "java/lang/invoke/VarHandle" ∧ (parseMethodDescriptor yX3_nextToken.desc).map (fun d => d.parameters.length) = some 0 := by decide +kernel
set_option maxHeartbeats 4000000 in
set_option maxRecDepth 100000 in
theorem kX3_nextToken (l : Launch) (D : va_G) (cA : Nat → ClassId) (a0 a_bytes : Nat) (f_length : Int32) (f_at : Int32) (f_start : Int32) (f_number : Int32) (f_latestFault : Int32) (f_bytes : Nat → Int32) (sz : Nat)  (post : Int32 → ((Int32) × (Int32) × (Int32)) → Prop) (h : wX3_nextToken f_length f_at f_start f_number f_bytes post) : Met l yX3_nextToken wsX3_nextToken rX3_nextToken (zPw D cA [.ref a0] [(a0, .inr (2, [.ref a_bytes, .int f_length, .int f_at, .int f_start, .int f_number, .int f_latestFault])), (a_bytes, .inl (cA 2, 160, .inl f_bytes))] sz) (va_Qi post (zB D (va_A [(a0, .inr (2, [.ref a_bytes, .int f_length, .int f_at, .int f_start, .int f_number, .int f_latestFault])), (a_bytes, .inl (cA 2, 160, .inl f_bytes))] sz) (fun u : (Int32) × (Int32) × (Int32) => [(a0, .inr (2, [.ref a_bytes, .int f_length, .int u.1, .int u.2.1, .int u.2.2, .int f_latestFault])), (a_bytes, .inl (cA 2, 160, .inl f_bytes))])) (va_A [(a0, .inr (2, [.ref a_bytes, .int f_length, .int f_at, .int f_start, .int f_number, .int f_latestFault])), (a_bytes, .inl (cA 2, 160, .inl f_bytes))] sz)) 0 0 (va_A [(a0, .inr (2, [.ref a_bytes, .int f_length, .int f_at, .int f_start, .int f_number, .int f_latestFault])), (a_bytes, .inl (cA 2, 160, .inl f_bytes))] sz) := by
  refine z_rw (Qc := fun A => va_Qi post (zB D A (fun u : (Int32) × (Int32) × (Int32) => [(a0, .inr (2, [.ref a_bytes, .int f_length, .int u.1, .int u.2.1, .int u.2.2, .int f_latestFault])), (a_bytes, .inl (cA 2, 160, .inl f_bytes))])) A) (cc := cX3_nextToken) (maxL := 2) (ret := (some .int)) (by decide) rfl (Nat.le_of_ble_eq_true rfl) ?_
  intro p e s m args below meth c ls A hx hb hr hlk hml hown hts hK hP hD hS hA hl
  have hown : s.vm.findClass RX3 = some m.cls := hown
  have hl : lv_has ls 2 [(0, .ref a0)] := hl
  have hw := h
  unfold wX3_nextToken at hw
  have iwX3 : ∀ w ∈ wsX30, w ∈ wsX3_nextToken := fun w h9 => List.mem_cons_of_mem _ (List.mem_append_right _ h9)
  have kf30 := hts (.fieldLink RX3 30 "ExcessTree$Tape" "at" "I") (by decide +kernel)
  have kf15 := hts (.fieldLink RX3 15 "ExcessTree$Tape" "length" "I") (by decide +kernel)
  have kf72 := hts (.fieldLink RX3 72 "ExcessTree$Tape" "start" "I") (by decide +kernel)
  have kf9 := hts (.fieldLink RX3 9 "ExcessTree$Tape" "bytes" "[B") (by decide +kernel)
  obtain ⟨I_1, mu_1, hI_1, hw⟩ := hw
  have lp_1 : ∀ (nn : Nat) (f_at_2 : Int32) (H : Heap) (locs : List Loc) (ls : Array Slot), mu_1 f_at_2 < nn → I_1 f_at_2 → va_P D vwCl [(a0, .inr (2, [.ref a_bytes, .int f_length, .int f_at_2, .int f_start, .int f_number, .int f_latestFault])), (a_bytes, .inl (cA 2, 160, .inl f_bytes))] H → va_D A [(a0, .inr (2, [.ref a_bytes, .int f_length, .int f_at_2, .int f_start, .int f_number, .int f_latestFault])), (a_bytes, .inl (cA 2, 160, .inl f_bytes))] → va_S A s.heap H locs → lv_has ls 2 [(0, .ref a0)] → W p l e rX3_nextToken s m args below meth c H locs 0 0 (MQ below (va_Qi post (zB D A (fun u : (Int32) × (Int32) × (Int32) => [(a0, .inr (2, [.ref a_bytes, .int f_length, .int u.1, .int u.2.1, .int u.2.2, .int f_latestFault])), (a_bytes, .inl (cA 2, 160, .inl f_bytes))])) A) args s 0 0 A) (F0 m 0 ls []) := by
    intro nn
    induction nn with
    | zero => exact fun _ _ _ _ h0 => absurd h0 (Nat.not_lt_zero _)
    | succ nn ih_1 =>
      intro f_at_2 H locs ls hmu_1 hI_1 hP hD hS hl
      have hw := hw f_at_2 hI_1
      refine lv_aload_n hx hb dX3_nextToken_0 rfl (lv_at hl 0 rfl) ?_
      refine va_get (D := D) (ci := 2) (v := .int f_at_2) (C := RX3) (T := TX3) (N := 6) hx hb hts iwX3 hown hK.1 hP 0 rfl rfl 2 (by decide) kf30 (fun _ h9 => h9) rfl dX3_nextToken_1 ?_
      refine lv_aload_n hx hb dX3_nextToken_4 rfl (lv_at hl 0 rfl) ?_
      refine va_get (D := D) (ci := 2) (v := .int f_length) (C := RX3) (T := TX3) (N := 6) hx hb hts iwX3 hown hK.1 hP 0 rfl rfl 1 (by decide) kf15 (fun _ h9 => h9) rfl dX3_nextToken_5 ?_
      refine lv_icmp_ge (tgt := 38) hx hb dX3_nextToken_8 (by decide) (fun c_3 => ?_) (fun c_3 => ?_)
      · have hw := hw.1 c_3
        refine lv_aload_n hx hb dX3_nextToken_38 rfl (lv_at hl 0 rfl) ?_
        refine lv_aload_n hx hb dX3_nextToken_39 rfl (lv_at hl 0 rfl) ?_
        refine va_get (D := D) (ci := 2) (v := .int f_at_2) (C := RX3) (T := TX3) (N := 6) hx hb hts iwX3 hown hK.1 hP 0 rfl rfl 2 (by decide) kf30 (fun _ h9 => h9) rfl dX3_nextToken_40 ?_
        refine va_put (D := D) (ci := 2) (v := .int f_at_2) (ty := .int) (C := RX3) (T := TX3) (N := 6) hx hb hts iwX3 tyX3 tyX3_ok nmX3 hown hK.1 hP hD hS 0 rfl rfl 3 (by decide) kf72 (fun _ h9 => h9) rfl (by decide +kernel) rfl rfl (Nat.le_of_ble_eq_true rfl) dX3_nextToken_43 (fun H locs hP hD hS => ?_)
        have hP : va_P D vwCl [(a0, .inr (2, [.ref a_bytes, .int f_length, .int f_at_2, .int f_at_2, .int f_number, .int f_latestFault])), (a_bytes, .inl (cA 2, 160, .inl f_bytes))] H := hP
        have hD : va_D A [(a0, .inr (2, [.ref a_bytes, .int f_length, .int f_at_2, .int f_at_2, .int f_number, .int f_latestFault])), (a_bytes, .inl (cA 2, 160, .inl f_bytes))] := hD
        refine lv_aload_n hx hb dX3_nextToken_46 rfl (lv_at hl 0 rfl) ?_
        refine va_get (D := D) (ci := 2) (v := .int f_at_2) (C := RX3) (T := TX3) (N := 6) hx hb hts iwX3 hown hK.1 hP 0 rfl rfl 2 (by decide) kf30 (fun _ h9 => h9) rfl dX3_nextToken_47 ?_
        refine lv_aload_n hx hb dX3_nextToken_50 rfl (lv_at hl 0 rfl) ?_
        refine va_get (D := D) (ci := 2) (v := .int f_length) (C := RX3) (T := TX3) (N := 6) hx hb hts iwX3 hown hK.1 hP 0 rfl rfl 1 (by decide) kf15 (fun _ h9 => h9) rfl dX3_nextToken_51 ?_
        refine lv_icmp_lt (tgt := 59) hx hb dX3_nextToken_54 (by decide) (fun c_4 => ?_) (fun c_4 => ?_)
        · have hw := hw.1 c_4
          refine lv_aload_n hx hb dX3_nextToken_59 rfl (lv_at hl 0 rfl) ?_
          refine va_get (D := D) (ci := 2) (v := .ref a_bytes) (C := RX3) (T := TX3) (N := 6) hx hb hts iwX3 hown hK.1 hP 0 rfl rfl 0 (by decide) kf9 (fun _ h9 => h9) rfl dX3_nextToken_60 ?_
          refine lv_aload_n hx hb dX3_nextToken_63 rfl (lv_at hl 0 rfl) ?_
          refine va_get (D := D) (ci := 2) (v := .int f_at_2) (C := RX3) (T := TX3) (N := 6) hx hb hts iwX3 hown hK.1 hP 0 rfl rfl 2 (by decide) kf30 (fun _ h9 => h9) rfl dX3_nextToken_64 ?_
          have hq := hw.1
          have hw := hw.2
          refine va_bald hx hb hK.1 hP 1 2 rfl rfl hq dX3_nextToken_67 ?_
          refine lv_topi (fun x_5 ex_5 => ?_)
          have hw := hw x_5 ex_5
          refine lv_istore_n (lv' := [(1, .int x_5), (0, .ref a0)]) hx hb dX3_nextToken_68 rfl hl (by decide) rfl (fun ls hl => ?_)
          refine lv_iload_n hx hb dX3_nextToken_69 rfl (lv_at hl 0 rfl) ?_
          refine z_si [.int x_5] [] ⟨hx, hb, hml, hown, hts⟩ (kX3_isFigure l D cA x_5 _ hw) (va_cwS 1 hts gX3_nextToken_X3_isFigure rfl rfl rfl vX3_isFigure ⟨Nat.le_of_ble_eq_true rfl, Nat.le_of_ble_eq_true rfl⟩) hK z_p0 rfl hl.1 rfl (Nat.le_of_ble_eq_true rfl) dX3_nextToken_70 ⟨Nat.zero_le _, Nat.zero_le _⟩ (fun r_6 hw => ?_)
          refine lv_if_eq (tgt := 81) hx hb dX3_nextToken_73 (by decide) (fun c_7 => ?_) (fun c_7 => ?_)
          · have hw := hw.1 c_7
            refine lv_aload_n hx hb dX3_nextToken_81 rfl (lv_at hl 1 rfl) ?_
            refine lv_dup hx hb dX3_nextToken_82 rfl ?_
            refine va_get (D := D) (ci := 2) (v := .int f_at_2) (C := RX3) (T := TX3) (N := 6) hx hb hts iwX3 hown hK.1 hP 0 rfl rfl 2 (by decide) kf30 (fun _ h9 => h9) rfl dX3_nextToken_83 ?_
            refine lv_iconst (v := 1) hx hb dX3_nextToken_86 (by decide) ?_
            refine lv_iadd hx hb dX3_nextToken_87 ?_
            refine lv_topi (fun x_8 ex_8 => ?_)
            have hw := hw x_8 ex_8
            refine va_put (D := D) (ci := 2) (v := .int x_8) (ty := .int) (C := RX3) (T := TX3) (N := 6) hx hb hts iwX3 tyX3 tyX3_ok nmX3 hown hK.1 hP hD hS 0 rfl rfl 2 (by decide) kf30 (fun _ h9 => h9) rfl (by decide +kernel) rfl rfl (Nat.le_of_ble_eq_true rfl) dX3_nextToken_88 (fun H locs hP hD hS => ?_)
            have hP : va_P D vwCl [(a0, .inr (2, [.ref a_bytes, .int f_length, .int x_8, .int f_at_2, .int f_number, .int f_latestFault])), (a_bytes, .inl (cA 2, 160, .inl f_bytes))] H := hP
            have hD : va_D A [(a0, .inr (2, [.ref a_bytes, .int f_length, .int x_8, .int f_at_2, .int f_number, .int f_latestFault])), (a_bytes, .inl (cA 2, 160, .inl f_bytes))] := hD
            refine lv_iload_n hx hb dX3_nextToken_91 rfl (lv_at hl 0 rfl) ?_
            refine lv_bipush (v := 40) hx hb dX3_nextToken_92 (by decide) ?_
            refine lv_icmp_eq (tgt := 103) hx hb dX3_nextToken_94 (by decide) (fun c_9 => ?_) (fun c_9 => ?_)
            · have hw := hw.1 c_9
              refine lv_iload_n hx hb dX3_nextToken_103 rfl (lv_at hl 0 rfl) ?_
              refine lv_goto (tgt := 108) hx hb dX3_nextToken_104 (by decide) ?_
              exact z_iretw (x_8, f_at_2, f_number) hx hb hr hlk hw hP hD hS dX3_nextToken_108
            · have hw := hw.2 c_9
              refine lv_iload_n hx hb dX3_nextToken_97 rfl (lv_at hl 0 rfl) ?_
              refine lv_bipush (v := 41) hx hb dX3_nextToken_98 (by decide) ?_
              refine lv_icmp_ne (tgt := 107) hx hb dX3_nextToken_100 (by decide) (fun c_10 => ?_) (fun c_10 => ?_)
              · have hw := hw.1 c_10
                refine lv_iconst (v := 2) hx hb dX3_nextToken_107 (by decide) ?_
                exact z_iretw (x_8, f_at_2, f_number) hx hb hr hlk hw hP hD hS dX3_nextToken_108
              · have hw := hw.2 c_10
                refine lv_iload_n hx hb dX3_nextToken_103 rfl (lv_at hl 0 rfl) ?_
                refine lv_goto (tgt := 108) hx hb dX3_nextToken_104 (by decide) ?_
                exact z_iretw (x_8, f_at_2, f_number) hx hb hr hlk hw hP hD hS dX3_nextToken_108
          · have hw := hw.2 c_7
            refine lv_aload_n hx hb dX3_nextToken_76 rfl (lv_at hl 1 rfl) ?_
            refine z_wi (wr := []) (wn := (fun u : (Int32) × (Int32) => [(a0, .inr (2, [.ref a_bytes, .int f_length, .int u.1, .int f_at_2, .int u.2, .int f_latestFault])), (a_bytes, .inl (cA 2, 160, .inl f_bytes))])) [] [] ⟨hx, hb, hml, hown, hts⟩ (kX3_numberToken l D cA a0 a_bytes f_length f_at_2 f_at_2 f_number f_latestFault f_bytes _ _ hw) (cwV 0 hts gX3_nextToken_X3_numberToken rfl rfl rfl vX3_numberToken ⟨Nat.le_of_ble_eq_true rfl, Nat.le_of_ble_eq_true rfl⟩) hK hP hD hS hA [0, 1] [] [0, 1] rfl (by decide) rfl (by decide) (by decide) (fun u => rfl) (by decide) (va_recv hK.1 (hP.sub (ws' := [(a0, .inr (2, [.ref a_bytes, .int f_length, .int f_at_2, .int f_at_2, .int f_number, .int f_latestFault]))]) [0] rfl) (ci := 2) (q0 := 0) rfl rfl) rfl hl.1 rfl (Nat.le_of_ble_eq_true rfl) dX3_nextToken_77 ⟨Nat.zero_le _, Nat.zero_le _⟩ (fun r_11 u_12 H locs hw hP hD hS => ?_)
            have hP : va_P D vwCl [(a0, .inr (2, [.ref a_bytes, .int f_length, .int u_12.1, .int f_at_2, .int u_12.2, .int f_latestFault])), (a_bytes, .inl (cA 2, 160, .inl f_bytes))] H := hP
            have hD : va_D A [(a0, .inr (2, [.ref a_bytes, .int f_length, .int u_12.1, .int f_at_2, .int u_12.2, .int f_latestFault])), (a_bytes, .inl (cA 2, 160, .inl f_bytes))] := hD
            exact z_iretw (u_12.1, f_at_2, u_12.2) hx hb hr hlk hw hP hD hS dX3_nextToken_80
        · have hw := hw.2 c_4
          refine lv_iconst (v := 0) hx hb dX3_nextToken_57 (by decide) ?_
          exact z_iretw (f_at_2, f_at_2, f_number) hx hb hr hlk hw hP hD hS dX3_nextToken_58
      · have hw := hw.2 c_3
        refine lv_aload_n hx hb dX3_nextToken_11 rfl (lv_at hl 0 rfl) ?_
        refine va_get (D := D) (ci := 2) (v := .ref a_bytes) (C := RX3) (T := TX3) (N := 6) hx hb hts iwX3 hown hK.1 hP 0 rfl rfl 0 (by decide) kf9 (fun _ h9 => h9) rfl dX3_nextToken_12 ?_
        refine lv_aload_n hx hb dX3_nextToken_15 rfl (lv_at hl 0 rfl) ?_
        refine va_get (D := D) (ci := 2) (v := .int f_at_2) (C := RX3) (T := TX3) (N := 6) hx hb hts iwX3 hown hK.1 hP 0 rfl rfl 2 (by decide) kf30 (fun _ h9 => h9) rfl dX3_nextToken_16 ?_
        have hq := hw.1
        have hw := hw.2
        refine va_bald hx hb hK.1 hP 1 2 rfl rfl hq dX3_nextToken_19 ?_
        refine lv_bipush (v := 32) hx hb dX3_nextToken_20 (by decide) ?_
        refine lv_icmp_ne (tgt := 38) hx hb dX3_nextToken_22 (by decide) (fun c_13 => ?_) (fun c_13 => ?_)
        · have hw := hw.1 c_13
          refine lv_aload_n hx hb dX3_nextToken_38 rfl (lv_at hl 0 rfl) ?_
          refine lv_aload_n hx hb dX3_nextToken_39 rfl (lv_at hl 0 rfl) ?_
          refine va_get (D := D) (ci := 2) (v := .int f_at_2) (C := RX3) (T := TX3) (N := 6) hx hb hts iwX3 hown hK.1 hP 0 rfl rfl 2 (by decide) kf30 (fun _ h9 => h9) rfl dX3_nextToken_40 ?_
          refine va_put (D := D) (ci := 2) (v := .int f_at_2) (ty := .int) (C := RX3) (T := TX3) (N := 6) hx hb hts iwX3 tyX3 tyX3_ok nmX3 hown hK.1 hP hD hS 0 rfl rfl 3 (by decide) kf72 (fun _ h9 => h9) rfl (by decide +kernel) rfl rfl (Nat.le_of_ble_eq_true rfl) dX3_nextToken_43 (fun H locs hP hD hS => ?_)
          have hP : va_P D vwCl [(a0, .inr (2, [.ref a_bytes, .int f_length, .int f_at_2, .int f_at_2, .int f_number, .int f_latestFault])), (a_bytes, .inl (cA 2, 160, .inl f_bytes))] H := hP
          have hD : va_D A [(a0, .inr (2, [.ref a_bytes, .int f_length, .int f_at_2, .int f_at_2, .int f_number, .int f_latestFault])), (a_bytes, .inl (cA 2, 160, .inl f_bytes))] := hD
          refine lv_aload_n hx hb dX3_nextToken_46 rfl (lv_at hl 0 rfl) ?_
          refine va_get (D := D) (ci := 2) (v := .int f_at_2) (C := RX3) (T := TX3) (N := 6) hx hb hts iwX3 hown hK.1 hP 0 rfl rfl 2 (by decide) kf30 (fun _ h9 => h9) rfl dX3_nextToken_47 ?_
          refine lv_aload_n hx hb dX3_nextToken_50 rfl (lv_at hl 0 rfl) ?_
          refine va_get (D := D) (ci := 2) (v := .int f_length) (C := RX3) (T := TX3) (N := 6) hx hb hts iwX3 hown hK.1 hP 0 rfl rfl 1 (by decide) kf15 (fun _ h9 => h9) rfl dX3_nextToken_51 ?_
          refine lv_icmp_lt (tgt := 59) hx hb dX3_nextToken_54 (by decide) (fun c_14 => ?_) (fun c_14 => ?_)
          · have hw := hw.1 c_14
            refine lv_aload_n hx hb dX3_nextToken_59 rfl (lv_at hl 0 rfl) ?_
            refine va_get (D := D) (ci := 2) (v := .ref a_bytes) (C := RX3) (T := TX3) (N := 6) hx hb hts iwX3 hown hK.1 hP 0 rfl rfl 0 (by decide) kf9 (fun _ h9 => h9) rfl dX3_nextToken_60 ?_
            refine lv_aload_n hx hb dX3_nextToken_63 rfl (lv_at hl 0 rfl) ?_
            refine va_get (D := D) (ci := 2) (v := .int f_at_2) (C := RX3) (T := TX3) (N := 6) hx hb hts iwX3 hown hK.1 hP 0 rfl rfl 2 (by decide) kf30 (fun _ h9 => h9) rfl dX3_nextToken_64 ?_
            have hq := hw.1
            have hw := hw.2
            refine va_bald hx hb hK.1 hP 1 2 rfl rfl hq dX3_nextToken_67 ?_
            refine lv_topi (fun x_15 ex_15 => ?_)
            have hw := hw x_15 ex_15
            refine lv_istore_n (lv' := [(1, .int x_15), (0, .ref a0)]) hx hb dX3_nextToken_68 rfl hl (by decide) rfl (fun ls hl => ?_)
            refine lv_iload_n hx hb dX3_nextToken_69 rfl (lv_at hl 0 rfl) ?_
            refine z_si [.int x_15] [] ⟨hx, hb, hml, hown, hts⟩ (kX3_isFigure l D cA x_15 _ hw) (va_cwS 1 hts gX3_nextToken_X3_isFigure rfl rfl rfl vX3_isFigure ⟨Nat.le_of_ble_eq_true rfl, Nat.le_of_ble_eq_true rfl⟩) hK z_p0 rfl hl.1 rfl (Nat.le_of_ble_eq_true rfl) dX3_nextToken_70 ⟨Nat.zero_le _, Nat.zero_le _⟩ (fun r_16 hw => ?_)
            refine lv_if_eq (tgt := 81) hx hb dX3_nextToken_73 (by decide) (fun c_17 => ?_) (fun c_17 => ?_)
            · have hw := hw.1 c_17
              refine lv_aload_n hx hb dX3_nextToken_81 rfl (lv_at hl 1 rfl) ?_
              refine lv_dup hx hb dX3_nextToken_82 rfl ?_
              refine va_get (D := D) (ci := 2) (v := .int f_at_2) (C := RX3) (T := TX3) (N := 6) hx hb hts iwX3 hown hK.1 hP 0 rfl rfl 2 (by decide) kf30 (fun _ h9 => h9) rfl dX3_nextToken_83 ?_
              refine lv_iconst (v := 1) hx hb dX3_nextToken_86 (by decide) ?_
              refine lv_iadd hx hb dX3_nextToken_87 ?_
              refine lv_topi (fun x_18 ex_18 => ?_)
              have hw := hw x_18 ex_18
              refine va_put (D := D) (ci := 2) (v := .int x_18) (ty := .int) (C := RX3) (T := TX3) (N := 6) hx hb hts iwX3 tyX3 tyX3_ok nmX3 hown hK.1 hP hD hS 0 rfl rfl 2 (by decide) kf30 (fun _ h9 => h9) rfl (by decide +kernel) rfl rfl (Nat.le_of_ble_eq_true rfl) dX3_nextToken_88 (fun H locs hP hD hS => ?_)
              have hP : va_P D vwCl [(a0, .inr (2, [.ref a_bytes, .int f_length, .int x_18, .int f_at_2, .int f_number, .int f_latestFault])), (a_bytes, .inl (cA 2, 160, .inl f_bytes))] H := hP
              have hD : va_D A [(a0, .inr (2, [.ref a_bytes, .int f_length, .int x_18, .int f_at_2, .int f_number, .int f_latestFault])), (a_bytes, .inl (cA 2, 160, .inl f_bytes))] := hD
              refine lv_iload_n hx hb dX3_nextToken_91 rfl (lv_at hl 0 rfl) ?_
              refine lv_bipush (v := 40) hx hb dX3_nextToken_92 (by decide) ?_
              refine lv_icmp_eq (tgt := 103) hx hb dX3_nextToken_94 (by decide) (fun c_19 => ?_) (fun c_19 => ?_)
              · have hw := hw.1 c_19
                refine lv_iload_n hx hb dX3_nextToken_103 rfl (lv_at hl 0 rfl) ?_
                refine lv_goto (tgt := 108) hx hb dX3_nextToken_104 (by decide) ?_
                exact z_iretw (x_18, f_at_2, f_number) hx hb hr hlk hw hP hD hS dX3_nextToken_108
              · have hw := hw.2 c_19
                refine lv_iload_n hx hb dX3_nextToken_97 rfl (lv_at hl 0 rfl) ?_
                refine lv_bipush (v := 41) hx hb dX3_nextToken_98 (by decide) ?_
                refine lv_icmp_ne (tgt := 107) hx hb dX3_nextToken_100 (by decide) (fun c_20 => ?_) (fun c_20 => ?_)
                · have hw := hw.1 c_20
                  refine lv_iconst (v := 2) hx hb dX3_nextToken_107 (by decide) ?_
                  exact z_iretw (x_18, f_at_2, f_number) hx hb hr hlk hw hP hD hS dX3_nextToken_108
                · have hw := hw.2 c_20
                  refine lv_iload_n hx hb dX3_nextToken_103 rfl (lv_at hl 0 rfl) ?_
                  refine lv_goto (tgt := 108) hx hb dX3_nextToken_104 (by decide) ?_
                  exact z_iretw (x_18, f_at_2, f_number) hx hb hr hlk hw hP hD hS dX3_nextToken_108
            · have hw := hw.2 c_17
              refine lv_aload_n hx hb dX3_nextToken_76 rfl (lv_at hl 1 rfl) ?_
              refine z_wi (wr := []) (wn := (fun u : (Int32) × (Int32) => [(a0, .inr (2, [.ref a_bytes, .int f_length, .int u.1, .int f_at_2, .int u.2, .int f_latestFault])), (a_bytes, .inl (cA 2, 160, .inl f_bytes))])) [] [] ⟨hx, hb, hml, hown, hts⟩ (kX3_numberToken l D cA a0 a_bytes f_length f_at_2 f_at_2 f_number f_latestFault f_bytes _ _ hw) (cwV 0 hts gX3_nextToken_X3_numberToken rfl rfl rfl vX3_numberToken ⟨Nat.le_of_ble_eq_true rfl, Nat.le_of_ble_eq_true rfl⟩) hK hP hD hS hA [0, 1] [] [0, 1] rfl (by decide) rfl (by decide) (by decide) (fun u => rfl) (by decide) (va_recv hK.1 (hP.sub (ws' := [(a0, .inr (2, [.ref a_bytes, .int f_length, .int f_at_2, .int f_at_2, .int f_number, .int f_latestFault]))]) [0] rfl) (ci := 2) (q0 := 0) rfl rfl) rfl hl.1 rfl (Nat.le_of_ble_eq_true rfl) dX3_nextToken_77 ⟨Nat.zero_le _, Nat.zero_le _⟩ (fun r_21 u_22 H locs hw hP hD hS => ?_)
              have hP : va_P D vwCl [(a0, .inr (2, [.ref a_bytes, .int f_length, .int u_22.1, .int f_at_2, .int u_22.2, .int f_latestFault])), (a_bytes, .inl (cA 2, 160, .inl f_bytes))] H := hP
              have hD : va_D A [(a0, .inr (2, [.ref a_bytes, .int f_length, .int u_22.1, .int f_at_2, .int u_22.2, .int f_latestFault])), (a_bytes, .inl (cA 2, 160, .inl f_bytes))] := hD
              exact z_iretw (u_22.1, f_at_2, u_22.2) hx hb hr hlk hw hP hD hS dX3_nextToken_80
          · have hw := hw.2 c_14
            refine lv_iconst (v := 0) hx hb dX3_nextToken_57 (by decide) ?_
            exact z_iretw (f_at_2, f_at_2, f_number) hx hb hr hlk hw hP hD hS dX3_nextToken_58
        · have hw := hw.2 c_13
          refine lv_aload_n hx hb dX3_nextToken_25 rfl (lv_at hl 0 rfl) ?_
          refine lv_dup hx hb dX3_nextToken_26 rfl ?_
          refine va_get (D := D) (ci := 2) (v := .int f_at_2) (C := RX3) (T := TX3) (N := 6) hx hb hts iwX3 hown hK.1 hP 0 rfl rfl 2 (by decide) kf30 (fun _ h9 => h9) rfl dX3_nextToken_27 ?_
          refine lv_iconst (v := 1) hx hb dX3_nextToken_30 (by decide) ?_
          refine lv_iadd hx hb dX3_nextToken_31 ?_
          refine lv_topi (fun x_23 ex_23 => ?_)
          have hw := hw x_23 ex_23
          refine va_put (D := D) (ci := 2) (v := .int x_23) (ty := .int) (C := RX3) (T := TX3) (N := 6) hx hb hts iwX3 tyX3 tyX3_ok nmX3 hown hK.1 hP hD hS 0 rfl rfl 2 (by decide) kf30 (fun _ h9 => h9) rfl (by decide +kernel) rfl rfl (Nat.le_of_ble_eq_true rfl) dX3_nextToken_32 (fun H locs hP hD hS => ?_)
          have hP : va_P D vwCl [(a0, .inr (2, [.ref a_bytes, .int f_length, .int x_23, .int f_start, .int f_number, .int f_latestFault])), (a_bytes, .inl (cA 2, 160, .inl f_bytes))] H := hP
          have hD : va_D A [(a0, .inr (2, [.ref a_bytes, .int f_length, .int x_23, .int f_start, .int f_number, .int f_latestFault])), (a_bytes, .inl (cA 2, 160, .inl f_bytes))] := hD
          refine lv_goto (tgt := 0) hx hb dX3_nextToken_35 (by decide) ?_
          exact ih_1 x_23 _ _ ls (Nat.lt_of_lt_of_le hw.2 (Nat.le_of_lt_succ hmu_1)) hw.1 hP hD hS (lv_sub hl [0] rfl)
  exact lp_1 (mu_1 f_at + 1) f_at _ _ ls (Nat.lt_succ_self _) hI_1 hP hD hS (lv_sub hl [0] rfl)
def wX3_faultOf (g_low : Int64) (g_high : Int64) (g_places : Int32) (p1 : Int32) (p2 : Int32) (post : Int32 → Prop) : Prop := (wX1_opensAhead g_low g_high g_places (fun r_1 : Int32 => ((wX1_excessAt g_low g_high g_places (fun r_2 : Int32 => (((r_2 ≤ 0 → ((p1 = 0 → post (0 : Int32)) ∧ (p1 = 1 → ((¬ p2 = (40 : Int32) → post (2 : Int32)) ∧ (p2 = (40 : Int32) → post (0 : Int32)))) ∧ (p1 = 40 → ((r_1 ≤ 0 → (((64 : Int32) ≤ r_1 → post (5 : Int32)) ∧ (¬ (64 : Int32) ≤ r_1 → post (0 : Int32)))) ∧ (¬ r_1 ≤ 0 → post (2 : Int32)))) ∧ (p1 = 41 → post (2 : Int32)) ∧ (¬ p1 = 0 → ¬ p1 = 1 → ¬ p1 = 40 → ¬ p1 = 41 → post (1 : Int32)))) ∧ (¬ r_2 ≤ 0 → ((p1 = 0 → post (2 : Int32)) ∧ (p1 = 1 → ((¬ p2 = (40 : Int32) → post (2 : Int32)) ∧ (p2 = (40 : Int32) → post (0 : Int32)))) ∧ (p1 = 40 → ((r_1 ≤ 0 → (((64 : Int32) ≤ r_1 → post (5 : Int32)) ∧ (¬ (64 : Int32) ≤ r_1 → post (0 : Int32)))) ∧ (¬ r_1 ≤ 0 → (((64 : Int32) ≤ r_1 → post (5 : Int32)) ∧ (¬ (64 : Int32) ≤ r_1 → post (0 : Int32)))))) ∧ (p1 = 41 → post (0 : Int32)) ∧ (¬ p1 = 0 → ¬ p1 = 1 → ¬ p1 = 40 → ¬ p1 = 41 → post (1 : Int32)))))))))))
abbrev rX3_faultOf : Room := { frames := 3, cells := 0, slots := 0, locals := 63 }
theorem vX3_faultOf : yX3_faultOf.cls = RX3 ∧ yX3_faultOf.cls ≠ "java/lang/invoke/MethodHandle" ∧ yX3_faultOf.cls ≠ "java/lang/invoke/VarHandle" ∧ (parseMethodDescriptor yX3_faultOf.desc).map (fun d => d.parameters.length) = some 3 := by decide +kernel
set_option maxHeartbeats 4000000 in
set_option maxRecDepth 100000 in
theorem kX3_faultOf (l : Launch) (D : va_G) (cA : Nat → ClassId) (a0 a_bytes b0 b_gains b_lows b_highs : Nat) (f_length : Int32) (f_at : Int32) (f_start : Int32) (f_number : Int32) (f_latestFault : Int32) (f_bytes : Nat → Int32) (g_low : Int64) (g_high : Int64) (g_places : Int32) (g_gains : Nat → Int32) (g_lows : Nat → Int32) (g_highs : Nat → Int32) (p1 : Int32) (p2 : Int32) (post : Int32 → Prop) (h : wX3_faultOf g_low g_high g_places p1 p2 post) : Met l yX3_faultOf wsX3_faultOf rX3_faultOf (zPr D cA [.ref a0, .int p1, .int p2, .ref b0] [(a0, .inr (2, [.ref a_bytes, .int f_length, .int f_at, .int f_start, .int f_number, .int f_latestFault])), (a_bytes, .inl (cA 2, 160, .inl f_bytes)), (b0, .inr (0, [.long g_low, .long g_high, .int g_places, .ref b_gains, .ref b_lows, .ref b_highs])), (b_gains, .inl (cA 0, 8, .inl g_gains)), (b_lows, .inl (cA 0, 8, .inl g_lows)), (b_highs, .inl (cA 0, 8, .inl g_highs))]) (vp_Si post) 0 0 (fun _ => False) := by
  refine z_ro (cc := cX3_faultOf) (maxL := 6) (ret := (some .int)) (by decide) rfl (Nat.le_of_ble_eq_true rfl) ?_
  intro p e s m args below meth c ls hx hb hr hlk hml hown hts hK hP hl
  have hown : s.vm.findClass RX3 = some m.cls := hown
  have hl : lv_has ls 6 [(0, .ref a0), (1, .int p1), (2, .int p2), (3, .ref b0)] := hl
  have hw := h
  unfold wX3_faultOf at hw
  have iwX1 : ∀ w ∈ wsX10, w ∈ wsX3_faultOf := fun w h9 => List.mem_cons_of_mem _ (List.mem_append_right _ h9)
  have kn52 := hK.nest (A := args) 2 rfl
  refine lv_aload_n hx hb dX3_faultOf_0 rfl (lv_at hl 3 rfl) ?_
  refine lv_aload_n hx hb dX3_faultOf_1 rfl (lv_at hl 3 rfl) ?_
  refine va_getN (own := RX3) (index := 52) (ref := "ExcessTree$Row") (host := "ExcessTree") (D := D) (ci := 0) (v := .int g_places) (C := RX1) (T := TX1) (N := 6) hx hb hts iwX1 hown hK.1 hP 2 rfl rfl 2 (by decide) kn52 (fun _ h9 => h9) rfl dX3_faultOf_2 ?_
  refine z_ri [.int g_places] [] ⟨hx, hb, hml, hown, hts⟩ (kX1_opensAhead l D cA b0 b_gains b_lows b_highs g_low g_high g_places g_gains g_lows g_highs g_places _ hw) (cwV 1 hts gX3_faultOf_X1_opensAhead rfl rfl rfl vX1_opensAhead ⟨Nat.le_of_ble_eq_true rfl, Nat.le_of_ble_eq_true rfl⟩) hK (hP.sub [2, 3, 4, 5] rfl) (va_recv hK.1 (hP.sub (ws' := [(b0, .inr (0, [.long g_low, .long g_high, .int g_places, .ref b_gains, .ref b_lows, .ref b_highs]))]) [2] rfl) (ci := 0) (q0 := 0) rfl rfl) rfl hl.1 rfl (Nat.le_of_ble_eq_true rfl) dX3_faultOf_5 ⟨Nat.zero_le _, Nat.zero_le _⟩ (fun r_1 hw => ?_)
  refine lv_istore (lv' := [(4, .int r_1), (0, .ref a0), (1, .int p1), (2, .int p2), (3, .ref b0)]) hx hb dX3_faultOf_8 hl (by decide) rfl (fun ls hl => ?_)
  refine lv_aload_n hx hb dX3_faultOf_10 rfl (lv_at hl 4 rfl) ?_
  refine lv_aload_n hx hb dX3_faultOf_11 rfl (lv_at hl 4 rfl) ?_
  refine va_getN (own := RX3) (index := 52) (ref := "ExcessTree$Row") (host := "ExcessTree") (D := D) (ci := 0) (v := .int g_places) (C := RX1) (T := TX1) (N := 6) hx hb hts iwX1 hown hK.1 hP 2 rfl rfl 2 (by decide) kn52 (fun _ h9 => h9) rfl dX3_faultOf_12 ?_
  refine z_ri [.int g_places] [] ⟨hx, hb, hml, hown, hts⟩ (kX1_excessAt l D cA b0 b_gains b_lows b_highs g_low g_high g_places g_gains g_lows g_highs g_places _ hw) (cwV 1 hts gX3_faultOf_X1_excessAt rfl rfl rfl vX1_excessAt ⟨Nat.le_of_ble_eq_true rfl, Nat.le_of_ble_eq_true rfl⟩) hK (hP.sub [2, 3, 4, 5] rfl) (va_recv hK.1 (hP.sub (ws' := [(b0, .inr (0, [.long g_low, .long g_high, .int g_places, .ref b_gains, .ref b_lows, .ref b_highs]))]) [2] rfl) (ci := 0) (q0 := 0) rfl rfl) rfl hl.1 rfl (Nat.le_of_ble_eq_true rfl) dX3_faultOf_15 ⟨Nat.zero_le _, Nat.zero_le _⟩ (fun r_2 hw => ?_)
  refine lv_if_le (tgt := 25) hx hb dX3_faultOf_18 (by decide) (fun c_3 => ?_) (fun c_3 => ?_)
  · have hw := hw.1 c_3
    refine lv_iconst (v := 0) hx hb dX3_faultOf_25 (by decide) ?_
    refine lv_istore (lv' := [(5, .int (0 : Int32)), (4, .int r_1), (0, .ref a0), (1, .int p1), (2, .int p2), (3, .ref b0)]) hx hb dX3_faultOf_26 hl (by decide) rfl (fun ls hl => ?_)
    refine lv_iload_n hx hb dX3_faultOf_28 rfl (lv_at hl 3 rfl) ?_
    by_cases c_4 : p1 = 0
    · have hw := hw.1 c_4
      refine lv_lookup (tgt := 72) (off := 43) hx hb dX3_faultOf_29 (by decide) (by rw [c_4]; decide) (by decide) ?_
      refine lv_iload hx hb dX3_faultOf_72 (lv_at hl 0 rfl) ?_
      refine lv_if_eq (tgt := 81) hx hb dX3_faultOf_74 (by decide) (fun _ => ?_) (fun c_5 => absurd c_5 (by decide))
      refine lv_iconst (v := 0) hx hb dX3_faultOf_81 (by decide) ?_
      exact z_iret hx hb hr hlk hw dX3_faultOf_82
    by_cases c_6 : p1 = 1
    · have hw := hw.2.1 c_6
      refine lv_lookup (tgt := 83) (off := 54) hx hb dX3_faultOf_29 (by decide) (by rw [c_6]; decide) (by decide) ?_
      refine lv_iload_n hx hb dX3_faultOf_83 rfl (lv_at hl 4 rfl) ?_
      refine lv_bipush (v := 40) hx hb dX3_faultOf_84 (by decide) ?_
      refine lv_icmp_ne (tgt := 93) hx hb dX3_faultOf_86 (by decide) (fun c_7 => ?_) (fun c_7 => ?_)
      · have hw := hw.1 c_7
        refine lv_iconst (v := 2) hx hb dX3_faultOf_93 (by decide) ?_
        exact z_iret hx hb hr hlk hw dX3_faultOf_94
      · have hw := hw.2 c_7
        refine lv_iconst (v := 0) hx hb dX3_faultOf_89 (by decide) ?_
        refine lv_goto (tgt := 94) hx hb dX3_faultOf_90 (by decide) ?_
        exact z_iret hx hb hr hlk hw dX3_faultOf_94
    by_cases c_8 : p1 = 40
    · have hw := hw.2.2.1 c_8
      refine lv_lookup (tgt := 95) (off := 66) hx hb dX3_faultOf_29 (by decide) (by rw [c_8]; decide) (by decide) ?_
      refine lv_iload hx hb dX3_faultOf_95 (lv_at hl 1 rfl) ?_
      refine lv_if_le (tgt := 107) hx hb dX3_faultOf_97 (by decide) (fun c_9 => ?_) (fun c_9 => ?_)
      · have hw := hw.1 c_9
        refine lv_iload hx hb dX3_faultOf_107 (lv_at hl 1 rfl) ?_
        refine lv_bipush (v := 64) hx hb dX3_faultOf_109 (by decide) ?_
        refine lv_icmp_ge (tgt := 118) hx hb dX3_faultOf_111 (by decide) (fun c_10 => ?_) (fun c_10 => ?_)
        · have hw := hw.1 c_10
          refine lv_iconst (v := 5) hx hb dX3_faultOf_118 (by decide) ?_
          exact z_iret hx hb hr hlk hw dX3_faultOf_119
        · have hw := hw.2 c_10
          refine lv_iconst (v := 0) hx hb dX3_faultOf_114 (by decide) ?_
          refine lv_goto (tgt := 119) hx hb dX3_faultOf_115 (by decide) ?_
          exact z_iret hx hb hr hlk hw dX3_faultOf_119
      · have hw := hw.2 c_9
        refine lv_iload hx hb dX3_faultOf_100 (lv_at hl 0 rfl) ?_
        refine lv_if_ne (tgt := 107) hx hb dX3_faultOf_102 (by decide) (fun c_11 => absurd c_11 (by decide)) (fun _ => ?_)
        refine lv_iconst (v := 2) hx hb dX3_faultOf_105 (by decide) ?_
        exact z_iret hx hb hr hlk hw dX3_faultOf_106
    by_cases c_12 : p1 = 41
    · have hw := hw.2.2.2.1 c_12
      refine lv_lookup (tgt := 120) (off := 91) hx hb dX3_faultOf_29 (by decide) (by rw [c_12]; decide) (by decide) ?_
      refine lv_iload hx hb dX3_faultOf_120 (lv_at hl 0 rfl) ?_
      refine lv_if_eq (tgt := 129) hx hb dX3_faultOf_122 (by decide) (fun _ => ?_) (fun c_13 => absurd c_13 (by decide))
      refine lv_iconst (v := 2) hx hb dX3_faultOf_129 (by decide) ?_
      exact z_iret hx hb hr hlk hw dX3_faultOf_130
    have hw := hw.2.2.2.2 c_4 c_6 c_8 c_12
    refine lv_lookup (tgt := 131) (off := 102) hx hb dX3_faultOf_29 (by decide) (by show Op.lookupswitch.offset [(0, 43), (1, 54), (40, 66), (41, 91)] _ _ = _; rw [lv_osw c_4 (by decide), lv_osw c_6 (by decide), lv_osw c_8 (by decide), lv_osw c_12 (by decide)]; rfl) (by decide) ?_
    refine lv_iconst (v := 1) hx hb dX3_faultOf_131 (by decide) ?_
    exact z_iret hx hb hr hlk hw dX3_faultOf_132
  · have hw := hw.2 c_3
    refine lv_iconst (v := 1) hx hb dX3_faultOf_21 (by decide) ?_
    refine lv_goto (tgt := 26) hx hb dX3_faultOf_22 (by decide) ?_
    refine lv_istore (lv' := [(5, .int (1 : Int32)), (4, .int r_1), (0, .ref a0), (1, .int p1), (2, .int p2), (3, .ref b0)]) hx hb dX3_faultOf_26 hl (by decide) rfl (fun ls hl => ?_)
    refine lv_iload_n hx hb dX3_faultOf_28 rfl (lv_at hl 3 rfl) ?_
    by_cases c_14 : p1 = 0
    · have hw := hw.1 c_14
      refine lv_lookup (tgt := 72) (off := 43) hx hb dX3_faultOf_29 (by decide) (by rw [c_14]; decide) (by decide) ?_
      refine lv_iload hx hb dX3_faultOf_72 (lv_at hl 0 rfl) ?_
      refine lv_if_eq (tgt := 81) hx hb dX3_faultOf_74 (by decide) (fun c_15 => absurd c_15 (by decide)) (fun _ => ?_)
      refine lv_iconst (v := 2) hx hb dX3_faultOf_77 (by decide) ?_
      refine lv_goto (tgt := 82) hx hb dX3_faultOf_78 (by decide) ?_
      exact z_iret hx hb hr hlk hw dX3_faultOf_82
    by_cases c_16 : p1 = 1
    · have hw := hw.2.1 c_16
      refine lv_lookup (tgt := 83) (off := 54) hx hb dX3_faultOf_29 (by decide) (by rw [c_16]; decide) (by decide) ?_
      refine lv_iload_n hx hb dX3_faultOf_83 rfl (lv_at hl 4 rfl) ?_
      refine lv_bipush (v := 40) hx hb dX3_faultOf_84 (by decide) ?_
      refine lv_icmp_ne (tgt := 93) hx hb dX3_faultOf_86 (by decide) (fun c_17 => ?_) (fun c_17 => ?_)
      · have hw := hw.1 c_17
        refine lv_iconst (v := 2) hx hb dX3_faultOf_93 (by decide) ?_
        exact z_iret hx hb hr hlk hw dX3_faultOf_94
      · have hw := hw.2 c_17
        refine lv_iconst (v := 0) hx hb dX3_faultOf_89 (by decide) ?_
        refine lv_goto (tgt := 94) hx hb dX3_faultOf_90 (by decide) ?_
        exact z_iret hx hb hr hlk hw dX3_faultOf_94
    by_cases c_18 : p1 = 40
    · have hw := hw.2.2.1 c_18
      refine lv_lookup (tgt := 95) (off := 66) hx hb dX3_faultOf_29 (by decide) (by rw [c_18]; decide) (by decide) ?_
      refine lv_iload hx hb dX3_faultOf_95 (lv_at hl 1 rfl) ?_
      refine lv_if_le (tgt := 107) hx hb dX3_faultOf_97 (by decide) (fun c_19 => ?_) (fun c_19 => ?_)
      · have hw := hw.1 c_19
        refine lv_iload hx hb dX3_faultOf_107 (lv_at hl 1 rfl) ?_
        refine lv_bipush (v := 64) hx hb dX3_faultOf_109 (by decide) ?_
        refine lv_icmp_ge (tgt := 118) hx hb dX3_faultOf_111 (by decide) (fun c_20 => ?_) (fun c_20 => ?_)
        · have hw := hw.1 c_20
          refine lv_iconst (v := 5) hx hb dX3_faultOf_118 (by decide) ?_
          exact z_iret hx hb hr hlk hw dX3_faultOf_119
        · have hw := hw.2 c_20
          refine lv_iconst (v := 0) hx hb dX3_faultOf_114 (by decide) ?_
          refine lv_goto (tgt := 119) hx hb dX3_faultOf_115 (by decide) ?_
          exact z_iret hx hb hr hlk hw dX3_faultOf_119
      · have hw := hw.2 c_19
        refine lv_iload hx hb dX3_faultOf_100 (lv_at hl 0 rfl) ?_
        refine lv_if_ne (tgt := 107) hx hb dX3_faultOf_102 (by decide) (fun _ => ?_) (fun c_21 => absurd c_21 (by decide))
        refine lv_iload hx hb dX3_faultOf_107 (lv_at hl 1 rfl) ?_
        refine lv_bipush (v := 64) hx hb dX3_faultOf_109 (by decide) ?_
        refine lv_icmp_ge (tgt := 118) hx hb dX3_faultOf_111 (by decide) (fun c_22 => ?_) (fun c_22 => ?_)
        · have hw := hw.1 c_22
          refine lv_iconst (v := 5) hx hb dX3_faultOf_118 (by decide) ?_
          exact z_iret hx hb hr hlk hw dX3_faultOf_119
        · have hw := hw.2 c_22
          refine lv_iconst (v := 0) hx hb dX3_faultOf_114 (by decide) ?_
          refine lv_goto (tgt := 119) hx hb dX3_faultOf_115 (by decide) ?_
          exact z_iret hx hb hr hlk hw dX3_faultOf_119
    by_cases c_23 : p1 = 41
    · have hw := hw.2.2.2.1 c_23
      refine lv_lookup (tgt := 120) (off := 91) hx hb dX3_faultOf_29 (by decide) (by rw [c_23]; decide) (by decide) ?_
      refine lv_iload hx hb dX3_faultOf_120 (lv_at hl 0 rfl) ?_
      refine lv_if_eq (tgt := 129) hx hb dX3_faultOf_122 (by decide) (fun c_24 => absurd c_24 (by decide)) (fun _ => ?_)
      refine lv_iconst (v := 0) hx hb dX3_faultOf_125 (by decide) ?_
      refine lv_goto (tgt := 130) hx hb dX3_faultOf_126 (by decide) ?_
      exact z_iret hx hb hr hlk hw dX3_faultOf_130
    have hw := hw.2.2.2.2 c_14 c_16 c_18 c_23
    refine lv_lookup (tgt := 131) (off := 102) hx hb dX3_faultOf_29 (by decide) (by show Op.lookupswitch.offset [(0, 43), (1, 54), (40, 66), (41, 91)] _ _ = _; rw [lv_osw c_14 (by decide), lv_osw c_16 (by decide), lv_osw c_18 (by decide), lv_osw c_23 (by decide)]; rfl) (by decide) ?_
    refine lv_iconst (v := 1) hx hb dX3_faultOf_131 (by decide) ?_
    exact z_iret hx hb hr hlk hw dX3_faultOf_132
def wX3_take (f_number : Int32) (g_row_low : Int64) (g_row_high : Int64) (g_row_places : Int32) (g_weights : Nat → Int32) (p1 : Int32) (post : ((Int64) × (Int64) × (Int32) × (Nat → Int32)) → Prop) : Prop := ((¬ p1 = (41 : Int32) → (wX1_opensAhead g_row_low g_row_high g_row_places (fun r_2 : Int32 => (((¬ p1 = (40 : Int32) → ((¬ p1 = (1 : Int32) → post (g_row_low, g_row_high, g_row_places, g_weights)) ∧ (p1 = (1 : Int32) → ((r_2 ≤ 0 → post (g_row_low, g_row_high, g_row_places, g_weights)) ∧ (¬ r_2 ≤ 0 → (vp_in (r_2 - (1 : Int32)) 64 ∧ post (g_row_low, g_row_high, g_row_places, (upd g_weights (r_2 - (1 : Int32)).toNatClampNeg f_number)))))))) ∧ (p1 = (40 : Int32) → (((64 : Int32) ≤ r_2 → ((¬ p1 = (1 : Int32) → post (g_row_low, g_row_high, g_row_places, g_weights)) ∧ (p1 = (1 : Int32) → ((r_2 ≤ 0 → post (g_row_low, g_row_high, g_row_places, g_weights)) ∧ (¬ r_2 ≤ 0 → (vp_in (r_2 - (1 : Int32)) 64 ∧ post (g_row_low, g_row_high, g_row_places, (upd g_weights (r_2 - (1 : Int32)).toNatClampNeg f_number)))))))) ∧ (¬ (64 : Int32) ≤ r_2 → (wX1_append g_row_low g_row_high g_row_places (1 : Int32) (fun u_10 : (Int64) × (Int64) × (Int32) => ((vp_in r_2 64 ∧ post (u_10.1, u_10.2.1, u_10.2.2, (upd g_weights r_2.toNatClampNeg (0 : Int32))))))))))))))) ∧ (p1 = (41 : Int32) → (wX1_append g_row_low g_row_high g_row_places (0 : Int32) (fun u_12 : (Int64) × (Int64) × (Int32) => (post (u_12.1, u_12.2.1, u_12.2.2, g_weights))))))
abbrev rX3_take : Room := { frames := 3, cells := 0, slots := 0, locals := 63 }
theorem vX3_take : yX3_take.cls = RX3 ∧ yX3_take.cls ≠ "java/lang/invoke/MethodHandle" ∧ yX3_take.cls ≠ "java/lang/invoke/VarHandle" ∧ (parseMethodDescriptor yX3_take.desc).map (fun d => d.parameters.length) = some 2 := by decide +kernel
set_option maxHeartbeats 4000000 in
set_option maxRecDepth 100000 in
theorem kX3_take (l : Launch) (D : va_G) (cA : Nat → ClassId) (a0 a_bytes b0 b_row b_weights b_carried b_row_gains b_row_lows b_row_highs : Nat) (f_length : Int32) (f_at : Int32) (f_start : Int32) (f_number : Int32) (f_latestFault : Int32) (f_bytes : Nat → Int32) (g_row_low : Int64) (g_row_high : Int64) (g_row_places : Int32) (g_row_gains : Nat → Int32) (g_row_lows : Nat → Int32) (g_row_highs : Nat → Int32) (g_weights : Nat → Int32) (g_carried : Nat → Int32) (sz : Nat) (p1 : Int32) (post : ((Int64) × (Int64) × (Int32) × (Nat → Int32)) → Prop) (h : wX3_take f_number g_row_low g_row_high g_row_places g_weights p1 post) : Met l yX3_take wsX3_take rX3_take (zPw D cA [.ref a0, .int p1, .ref b0] [(a0, .inr (2, [.ref a_bytes, .int f_length, .int f_at, .int f_start, .int f_number, .int f_latestFault])), (a_bytes, .inl (cA 2, 160, .inl f_bytes)), (b0, .inr (3, [.ref b_row, .ref b_weights, .ref b_carried])), (b_row, .inr (0, [.long g_row_low, .long g_row_high, .int g_row_places, .ref b_row_gains, .ref b_row_lows, .ref b_row_highs])), (b_row_gains, .inl (cA 0, 8, .inl g_row_gains)), (b_row_lows, .inl (cA 0, 8, .inl g_row_lows)), (b_row_highs, .inl (cA 0, 8, .inl g_row_highs)), (b_weights, .inl (cA 0, 64, .inl g_weights)), (b_carried, .inl (cA 0, 64, .inl g_carried))] sz) (va_Qv post (zB D (va_A [(a0, .inr (2, [.ref a_bytes, .int f_length, .int f_at, .int f_start, .int f_number, .int f_latestFault])), (a_bytes, .inl (cA 2, 160, .inl f_bytes)), (b0, .inr (3, [.ref b_row, .ref b_weights, .ref b_carried])), (b_row, .inr (0, [.long g_row_low, .long g_row_high, .int g_row_places, .ref b_row_gains, .ref b_row_lows, .ref b_row_highs])), (b_row_gains, .inl (cA 0, 8, .inl g_row_gains)), (b_row_lows, .inl (cA 0, 8, .inl g_row_lows)), (b_row_highs, .inl (cA 0, 8, .inl g_row_highs)), (b_weights, .inl (cA 0, 64, .inl g_weights)), (b_carried, .inl (cA 0, 64, .inl g_carried))] sz) (fun u : (Int64) × (Int64) × (Int32) × (Nat → Int32) => [(a0, .inr (2, [.ref a_bytes, .int f_length, .int f_at, .int f_start, .int f_number, .int f_latestFault])), (a_bytes, .inl (cA 2, 160, .inl f_bytes)), (b0, .inr (3, [.ref b_row, .ref b_weights, .ref b_carried])), (b_row, .inr (0, [.long u.1, .long u.2.1, .int u.2.2.1, .ref b_row_gains, .ref b_row_lows, .ref b_row_highs])), (b_row_gains, .inl (cA 0, 8, .inl g_row_gains)), (b_row_lows, .inl (cA 0, 8, .inl g_row_lows)), (b_row_highs, .inl (cA 0, 8, .inl g_row_highs)), (b_weights, .inl (cA 0, 64, .inl u.2.2.2)), (b_carried, .inl (cA 0, 64, .inl g_carried))])) (va_A [(a0, .inr (2, [.ref a_bytes, .int f_length, .int f_at, .int f_start, .int f_number, .int f_latestFault])), (a_bytes, .inl (cA 2, 160, .inl f_bytes)), (b0, .inr (3, [.ref b_row, .ref b_weights, .ref b_carried])), (b_row, .inr (0, [.long g_row_low, .long g_row_high, .int g_row_places, .ref b_row_gains, .ref b_row_lows, .ref b_row_highs])), (b_row_gains, .inl (cA 0, 8, .inl g_row_gains)), (b_row_lows, .inl (cA 0, 8, .inl g_row_lows)), (b_row_highs, .inl (cA 0, 8, .inl g_row_highs)), (b_weights, .inl (cA 0, 64, .inl g_weights)), (b_carried, .inl (cA 0, 64, .inl g_carried))] sz)) 0 0 (va_A [(a0, .inr (2, [.ref a_bytes, .int f_length, .int f_at, .int f_start, .int f_number, .int f_latestFault])), (a_bytes, .inl (cA 2, 160, .inl f_bytes)), (b0, .inr (3, [.ref b_row, .ref b_weights, .ref b_carried])), (b_row, .inr (0, [.long g_row_low, .long g_row_high, .int g_row_places, .ref b_row_gains, .ref b_row_lows, .ref b_row_highs])), (b_row_gains, .inl (cA 0, 8, .inl g_row_gains)), (b_row_lows, .inl (cA 0, 8, .inl g_row_lows)), (b_row_highs, .inl (cA 0, 8, .inl g_row_highs)), (b_weights, .inl (cA 0, 64, .inl g_weights)), (b_carried, .inl (cA 0, 64, .inl g_carried))] sz) := by
  refine z_rw (Qc := fun A => va_Qv post (zB D A (fun u : (Int64) × (Int64) × (Int32) × (Nat → Int32) => [(a0, .inr (2, [.ref a_bytes, .int f_length, .int f_at, .int f_start, .int f_number, .int f_latestFault])), (a_bytes, .inl (cA 2, 160, .inl f_bytes)), (b0, .inr (3, [.ref b_row, .ref b_weights, .ref b_carried])), (b_row, .inr (0, [.long u.1, .long u.2.1, .int u.2.2.1, .ref b_row_gains, .ref b_row_lows, .ref b_row_highs])), (b_row_gains, .inl (cA 0, 8, .inl g_row_gains)), (b_row_lows, .inl (cA 0, 8, .inl g_row_lows)), (b_row_highs, .inl (cA 0, 8, .inl g_row_highs)), (b_weights, .inl (cA 0, 64, .inl u.2.2.2)), (b_carried, .inl (cA 0, 64, .inl g_carried))])) A) (cc := cX3_take) (maxL := 4) (ret := none) (by decide) rfl (Nat.le_of_ble_eq_true rfl) ?_
  intro p e s m args below meth c ls A hx hb hr hlk hml hown hts hK hP hD hS hA hl
  have hown : s.vm.findClass RX3 = some m.cls := hown
  have hl : lv_has ls 4 [(0, .ref a0), (1, .int p1), (2, .ref b0)] := hl
  have hw := h
  unfold wX3_take at hw
  have iwX4 : ∀ w ∈ wsX40, w ∈ wsX3_take := fun w h9 => List.mem_cons_of_mem _ (List.mem_append_left _ (List.mem_append_left _ (List.mem_append_right _ h9)))
  have kn19 := hK.nest (A := args) 3 rfl
  have iwX1 : ∀ w ∈ wsX10, w ∈ wsX3_take := fun w h9 => List.mem_cons_of_mem _ (List.mem_append_left _ (List.mem_append_right _ h9))
  have kn52 := hK.nest (A := args) 2 rfl
  have kn65 := hK.nest (A := args) 1 rfl
  have iwX3 : ∀ w ∈ wsX30, w ∈ wsX3_take := fun w h9 => List.mem_cons_of_mem _ (List.mem_append_right _ h9)
  have kf69 := hts (.fieldLink RX3 69 "ExcessTree$Tape" "number" "I") (by decide +kernel)
  refine lv_iload_n hx hb dX3_take_0 rfl (lv_at hl 1 rfl) ?_
  refine lv_bipush (v := 41) hx hb dX3_take_1 (by decide) ?_
  refine lv_icmp_ne (tgt := 15) hx hb dX3_take_3 (by decide) (fun c_1 => ?_) (fun c_1 => ?_)
  · have hw := hw.1 c_1
    refine lv_aload_n hx hb dX3_take_15 rfl (lv_at hl 2 rfl) ?_
    refine va_getN (own := RX3) (index := 19) (ref := "ExcessTree$Tree") (host := "ExcessTree") (D := D) (ci := 3) (v := .ref b_row) (C := RX4) (T := TX4) (N := 3) hx hb hts iwX4 hown hK.1 hP 2 rfl rfl 0 (by decide) kn19 (fun _ h9 => h9) rfl dX3_take_16 ?_
    refine lv_aload_n hx hb dX3_take_19 rfl (lv_at hl 2 rfl) ?_
    refine va_getN (own := RX3) (index := 19) (ref := "ExcessTree$Tree") (host := "ExcessTree") (D := D) (ci := 3) (v := .ref b_row) (C := RX4) (T := TX4) (N := 3) hx hb hts iwX4 hown hK.1 hP 2 rfl rfl 0 (by decide) kn19 (fun _ h9 => h9) rfl dX3_take_20 ?_
    refine va_getN (own := RX3) (index := 52) (ref := "ExcessTree$Row") (host := "ExcessTree") (D := D) (ci := 0) (v := .int g_row_places) (C := RX1) (T := TX1) (N := 6) hx hb hts iwX1 hown hK.1 hP 3 rfl rfl 2 (by decide) kn52 (fun _ h9 => h9) rfl dX3_take_23 ?_
    refine z_ri [.int g_row_places] [] ⟨hx, hb, hml, hown, hts⟩ (kX1_opensAhead l D cA b_row b_row_gains b_row_lows b_row_highs g_row_low g_row_high g_row_places g_row_gains g_row_lows g_row_highs g_row_places _ hw) (cwV 1 hts gX3_take_X1_opensAhead rfl rfl rfl vX1_opensAhead ⟨Nat.le_of_ble_eq_true rfl, Nat.le_of_ble_eq_true rfl⟩) hK (hP.sub [3, 4, 5, 6] rfl) (va_recv hK.1 (hP.sub (ws' := [(b_row, .inr (0, [.long g_row_low, .long g_row_high, .int g_row_places, .ref b_row_gains, .ref b_row_lows, .ref b_row_highs]))]) [3] rfl) (ci := 0) (q0 := 0) rfl rfl) rfl hl.1 rfl (Nat.le_of_ble_eq_true rfl) dX3_take_26 ⟨Nat.zero_le _, Nat.zero_le _⟩ (fun r_2 hw => ?_)
    refine lv_istore_n (lv' := [(3, .int r_2), (0, .ref a0), (1, .int p1), (2, .ref b0)]) hx hb dX3_take_29 rfl hl (by decide) rfl (fun ls hl => ?_)
    refine lv_iload_n hx hb dX3_take_30 rfl (lv_at hl 2 rfl) ?_
    refine lv_bipush (v := 40) hx hb dX3_take_31 (by decide) ?_
    refine lv_icmp_ne (tgt := 60) hx hb dX3_take_33 (by decide) (fun c_3 => ?_) (fun c_3 => ?_)
    · have hw := hw.1 c_3
      refine lv_iload_n hx hb dX3_take_60 rfl (lv_at hl 2 rfl) ?_
      refine lv_iconst (v := 1) hx hb dX3_take_61 (by decide) ?_
      refine lv_icmp_ne (tgt := 81) hx hb dX3_take_62 (by decide) (fun c_4 => ?_) (fun c_4 => ?_)
      · have hw := hw.1 c_4
        exact z_vretw (g_row_low, g_row_high, g_row_places, g_weights) hx hb hr hlk hw hP hD hS dX3_take_81
      · have hw := hw.2 c_4
        refine lv_iload_n hx hb dX3_take_65 rfl (lv_at hl 0 rfl) ?_
        refine lv_if_le (tgt := 81) hx hb dX3_take_66 (by decide) (fun c_5 => ?_) (fun c_5 => ?_)
        · have hw := hw.1 c_5
          exact z_vretw (g_row_low, g_row_high, g_row_places, g_weights) hx hb hr hlk hw hP hD hS dX3_take_81
        · have hw := hw.2 c_5
          refine lv_aload_n hx hb dX3_take_69 rfl (lv_at hl 3 rfl) ?_
          refine va_getN (own := RX3) (index := 65) (ref := "ExcessTree$Tree") (host := "ExcessTree") (D := D) (ci := 3) (v := .ref b_weights) (C := RX4) (T := TX4) (N := 3) hx hb hts iwX4 hown hK.1 hP 2 rfl rfl 1 (by decide) kn65 (fun _ h9 => h9) rfl dX3_take_70 ?_
          refine lv_iload_n hx hb dX3_take_73 rfl (lv_at hl 0 rfl) ?_
          refine lv_iconst (v := 1) hx hb dX3_take_74 (by decide) ?_
          refine lv_isub hx hb dX3_take_75 ?_
          refine lv_aload_n hx hb dX3_take_76 rfl (lv_at hl 1 rfl) ?_
          refine va_get (D := D) (ci := 2) (v := .int f_number) (C := RX3) (T := TX3) (N := 6) hx hb hts iwX3 hown hK.1 hP 0 rfl rfl 4 (by decide) kf69 (fun _ h9 => h9) rfl dX3_take_77 ?_
          have hq := hw.1
          have hw := hw.2
          refine va_iast hx hb hK.1 hP hD hS 7 0 rfl rfl hq dX3_take_80 (fun H locs hP hD hS => ?_)
          have hP : va_P D vwCl [(a0, .inr (2, [.ref a_bytes, .int f_length, .int f_at, .int f_start, .int f_number, .int f_latestFault])), (a_bytes, .inl (cA 2, 160, .inl f_bytes)), (b0, .inr (3, [.ref b_row, .ref b_weights, .ref b_carried])), (b_row, .inr (0, [.long g_row_low, .long g_row_high, .int g_row_places, .ref b_row_gains, .ref b_row_lows, .ref b_row_highs])), (b_row_gains, .inl (cA 0, 8, .inl g_row_gains)), (b_row_lows, .inl (cA 0, 8, .inl g_row_lows)), (b_row_highs, .inl (cA 0, 8, .inl g_row_highs)), (b_weights, .inl (cA 0, 64, .inl (upd g_weights (r_2 - (1 : Int32)).toNatClampNeg f_number))), (b_carried, .inl (cA 0, 64, .inl g_carried))] H := hP
          have hD : va_D A [(a0, .inr (2, [.ref a_bytes, .int f_length, .int f_at, .int f_start, .int f_number, .int f_latestFault])), (a_bytes, .inl (cA 2, 160, .inl f_bytes)), (b0, .inr (3, [.ref b_row, .ref b_weights, .ref b_carried])), (b_row, .inr (0, [.long g_row_low, .long g_row_high, .int g_row_places, .ref b_row_gains, .ref b_row_lows, .ref b_row_highs])), (b_row_gains, .inl (cA 0, 8, .inl g_row_gains)), (b_row_lows, .inl (cA 0, 8, .inl g_row_lows)), (b_row_highs, .inl (cA 0, 8, .inl g_row_highs)), (b_weights, .inl (cA 0, 64, .inl (upd g_weights (r_2 - (1 : Int32)).toNatClampNeg f_number))), (b_carried, .inl (cA 0, 64, .inl g_carried))] := hD
          exact z_vretw (g_row_low, g_row_high, g_row_places, (upd g_weights (r_2 - (1 : Int32)).toNatClampNeg f_number)) hx hb hr hlk hw hP hD hS dX3_take_81
    · have hw := hw.2 c_3
      refine lv_iload_n hx hb dX3_take_36 rfl (lv_at hl 0 rfl) ?_
      refine lv_bipush (v := 64) hx hb dX3_take_37 (by decide) ?_
      refine lv_icmp_ge (tgt := 60) hx hb dX3_take_39 (by decide) (fun c_6 => ?_) (fun c_6 => ?_)
      · have hw := hw.1 c_6
        refine lv_iload_n hx hb dX3_take_60 rfl (lv_at hl 2 rfl) ?_
        refine lv_iconst (v := 1) hx hb dX3_take_61 (by decide) ?_
        refine lv_icmp_ne (tgt := 81) hx hb dX3_take_62 (by decide) (fun c_7 => ?_) (fun c_7 => ?_)
        · have hw := hw.1 c_7
          exact z_vretw (g_row_low, g_row_high, g_row_places, g_weights) hx hb hr hlk hw hP hD hS dX3_take_81
        · have hw := hw.2 c_7
          refine lv_iload_n hx hb dX3_take_65 rfl (lv_at hl 0 rfl) ?_
          refine lv_if_le (tgt := 81) hx hb dX3_take_66 (by decide) (fun c_8 => ?_) (fun c_8 => ?_)
          · have hw := hw.1 c_8
            exact z_vretw (g_row_low, g_row_high, g_row_places, g_weights) hx hb hr hlk hw hP hD hS dX3_take_81
          · have hw := hw.2 c_8
            refine lv_aload_n hx hb dX3_take_69 rfl (lv_at hl 3 rfl) ?_
            refine va_getN (own := RX3) (index := 65) (ref := "ExcessTree$Tree") (host := "ExcessTree") (D := D) (ci := 3) (v := .ref b_weights) (C := RX4) (T := TX4) (N := 3) hx hb hts iwX4 hown hK.1 hP 2 rfl rfl 1 (by decide) kn65 (fun _ h9 => h9) rfl dX3_take_70 ?_
            refine lv_iload_n hx hb dX3_take_73 rfl (lv_at hl 0 rfl) ?_
            refine lv_iconst (v := 1) hx hb dX3_take_74 (by decide) ?_
            refine lv_isub hx hb dX3_take_75 ?_
            refine lv_aload_n hx hb dX3_take_76 rfl (lv_at hl 1 rfl) ?_
            refine va_get (D := D) (ci := 2) (v := .int f_number) (C := RX3) (T := TX3) (N := 6) hx hb hts iwX3 hown hK.1 hP 0 rfl rfl 4 (by decide) kf69 (fun _ h9 => h9) rfl dX3_take_77 ?_
            have hq := hw.1
            have hw := hw.2
            refine va_iast hx hb hK.1 hP hD hS 7 0 rfl rfl hq dX3_take_80 (fun H locs hP hD hS => ?_)
            have hP : va_P D vwCl [(a0, .inr (2, [.ref a_bytes, .int f_length, .int f_at, .int f_start, .int f_number, .int f_latestFault])), (a_bytes, .inl (cA 2, 160, .inl f_bytes)), (b0, .inr (3, [.ref b_row, .ref b_weights, .ref b_carried])), (b_row, .inr (0, [.long g_row_low, .long g_row_high, .int g_row_places, .ref b_row_gains, .ref b_row_lows, .ref b_row_highs])), (b_row_gains, .inl (cA 0, 8, .inl g_row_gains)), (b_row_lows, .inl (cA 0, 8, .inl g_row_lows)), (b_row_highs, .inl (cA 0, 8, .inl g_row_highs)), (b_weights, .inl (cA 0, 64, .inl (upd g_weights (r_2 - (1 : Int32)).toNatClampNeg f_number))), (b_carried, .inl (cA 0, 64, .inl g_carried))] H := hP
            have hD : va_D A [(a0, .inr (2, [.ref a_bytes, .int f_length, .int f_at, .int f_start, .int f_number, .int f_latestFault])), (a_bytes, .inl (cA 2, 160, .inl f_bytes)), (b0, .inr (3, [.ref b_row, .ref b_weights, .ref b_carried])), (b_row, .inr (0, [.long g_row_low, .long g_row_high, .int g_row_places, .ref b_row_gains, .ref b_row_lows, .ref b_row_highs])), (b_row_gains, .inl (cA 0, 8, .inl g_row_gains)), (b_row_lows, .inl (cA 0, 8, .inl g_row_lows)), (b_row_highs, .inl (cA 0, 8, .inl g_row_highs)), (b_weights, .inl (cA 0, 64, .inl (upd g_weights (r_2 - (1 : Int32)).toNatClampNeg f_number))), (b_carried, .inl (cA 0, 64, .inl g_carried))] := hD
            exact z_vretw (g_row_low, g_row_high, g_row_places, (upd g_weights (r_2 - (1 : Int32)).toNatClampNeg f_number)) hx hb hr hlk hw hP hD hS dX3_take_81
      · have hw := hw.2 c_6
        refine lv_aload_n hx hb dX3_take_42 rfl (lv_at hl 3 rfl) ?_
        refine va_getN (own := RX3) (index := 19) (ref := "ExcessTree$Tree") (host := "ExcessTree") (D := D) (ci := 3) (v := .ref b_row) (C := RX4) (T := TX4) (N := 3) hx hb hts iwX4 hown hK.1 hP 2 rfl rfl 0 (by decide) kn19 (fun _ h9 => h9) rfl dX3_take_43 ?_
        refine lv_iconst (v := 1) hx hb dX3_take_46 (by decide) ?_
        refine z_wv (wr := [(a0, .inr (2, [.ref a_bytes, .int f_length, .int f_at, .int f_start, .int f_number, .int f_latestFault])), (a_bytes, .inl (cA 2, 160, .inl f_bytes)), (b0, .inr (3, [.ref b_row, .ref b_weights, .ref b_carried])), (b_weights, .inl (cA 0, 64, .inl g_weights)), (b_carried, .inl (cA 0, 64, .inl g_carried))]) (wn := (fun u : (Int64) × (Int64) × (Int32) => [(a0, .inr (2, [.ref a_bytes, .int f_length, .int f_at, .int f_start, .int f_number, .int f_latestFault])), (a_bytes, .inl (cA 2, 160, .inl f_bytes)), (b0, .inr (3, [.ref b_row, .ref b_weights, .ref b_carried])), (b_row, .inr (0, [.long u.1, .long u.2.1, .int u.2.2, .ref b_row_gains, .ref b_row_lows, .ref b_row_highs])), (b_row_gains, .inl (cA 0, 8, .inl g_row_gains)), (b_row_lows, .inl (cA 0, 8, .inl g_row_lows)), (b_row_highs, .inl (cA 0, 8, .inl g_row_highs)), (b_weights, .inl (cA 0, 64, .inl g_weights)), (b_carried, .inl (cA 0, 64, .inl g_carried))])) [.int (1 : Int32)] [] ⟨hx, hb, hml, hown, hts⟩ (kX1_append l D cA b_row b_row_gains b_row_lows b_row_highs g_row_low g_row_high g_row_places g_row_gains g_row_lows g_row_highs _ (1 : Int32) _ hw) (cwV 1 hts gX3_take_X1_append rfl rfl rfl vX1_append ⟨Nat.le_of_ble_eq_true rfl, Nat.le_of_ble_eq_true rfl⟩) hK hP hD hS hA [3, 4, 5, 6] [0, 1, 2, 7, 8] [0, 1, 2, 5, 6, 7, 8, 3, 4] rfl (by decide) rfl (by decide) (by decide) (fun u => rfl) (by decide) (va_recv hK.1 (hP.sub (ws' := [(b_row, .inr (0, [.long g_row_low, .long g_row_high, .int g_row_places, .ref b_row_gains, .ref b_row_lows, .ref b_row_highs]))]) [3] rfl) (ci := 0) (q0 := 0) rfl rfl) rfl hl.1 rfl (Nat.le_of_ble_eq_true rfl) dX3_take_47 ⟨Nat.zero_le _, Nat.zero_le _⟩ (fun u_10 H locs hw hP hD hS => ?_)
        have hP : va_P D vwCl [(a0, .inr (2, [.ref a_bytes, .int f_length, .int f_at, .int f_start, .int f_number, .int f_latestFault])), (a_bytes, .inl (cA 2, 160, .inl f_bytes)), (b0, .inr (3, [.ref b_row, .ref b_weights, .ref b_carried])), (b_row, .inr (0, [.long u_10.1, .long u_10.2.1, .int u_10.2.2, .ref b_row_gains, .ref b_row_lows, .ref b_row_highs])), (b_row_gains, .inl (cA 0, 8, .inl g_row_gains)), (b_row_lows, .inl (cA 0, 8, .inl g_row_lows)), (b_row_highs, .inl (cA 0, 8, .inl g_row_highs)), (b_weights, .inl (cA 0, 64, .inl g_weights)), (b_carried, .inl (cA 0, 64, .inl g_carried))] H := hP
        have hD : va_D A [(a0, .inr (2, [.ref a_bytes, .int f_length, .int f_at, .int f_start, .int f_number, .int f_latestFault])), (a_bytes, .inl (cA 2, 160, .inl f_bytes)), (b0, .inr (3, [.ref b_row, .ref b_weights, .ref b_carried])), (b_row, .inr (0, [.long u_10.1, .long u_10.2.1, .int u_10.2.2, .ref b_row_gains, .ref b_row_lows, .ref b_row_highs])), (b_row_gains, .inl (cA 0, 8, .inl g_row_gains)), (b_row_lows, .inl (cA 0, 8, .inl g_row_lows)), (b_row_highs, .inl (cA 0, 8, .inl g_row_highs)), (b_weights, .inl (cA 0, 64, .inl g_weights)), (b_carried, .inl (cA 0, 64, .inl g_carried))] := hD
        refine lv_aload_n hx hb dX3_take_50 rfl (lv_at hl 3 rfl) ?_
        refine va_getN (own := RX3) (index := 65) (ref := "ExcessTree$Tree") (host := "ExcessTree") (D := D) (ci := 3) (v := .ref b_weights) (C := RX4) (T := TX4) (N := 3) hx hb hts iwX4 hown hK.1 hP 2 rfl rfl 1 (by decide) kn65 (fun _ h9 => h9) rfl dX3_take_51 ?_
        refine lv_iload_n hx hb dX3_take_54 rfl (lv_at hl 0 rfl) ?_
        refine lv_iconst (v := 0) hx hb dX3_take_55 (by decide) ?_
        have hq := hw.1
        have hw := hw.2
        refine va_iast hx hb hK.1 hP hD hS 7 0 rfl rfl hq dX3_take_56 (fun H locs hP hD hS => ?_)
        have hP : va_P D vwCl [(a0, .inr (2, [.ref a_bytes, .int f_length, .int f_at, .int f_start, .int f_number, .int f_latestFault])), (a_bytes, .inl (cA 2, 160, .inl f_bytes)), (b0, .inr (3, [.ref b_row, .ref b_weights, .ref b_carried])), (b_row, .inr (0, [.long u_10.1, .long u_10.2.1, .int u_10.2.2, .ref b_row_gains, .ref b_row_lows, .ref b_row_highs])), (b_row_gains, .inl (cA 0, 8, .inl g_row_gains)), (b_row_lows, .inl (cA 0, 8, .inl g_row_lows)), (b_row_highs, .inl (cA 0, 8, .inl g_row_highs)), (b_weights, .inl (cA 0, 64, .inl (upd g_weights r_2.toNatClampNeg (0 : Int32)))), (b_carried, .inl (cA 0, 64, .inl g_carried))] H := hP
        have hD : va_D A [(a0, .inr (2, [.ref a_bytes, .int f_length, .int f_at, .int f_start, .int f_number, .int f_latestFault])), (a_bytes, .inl (cA 2, 160, .inl f_bytes)), (b0, .inr (3, [.ref b_row, .ref b_weights, .ref b_carried])), (b_row, .inr (0, [.long u_10.1, .long u_10.2.1, .int u_10.2.2, .ref b_row_gains, .ref b_row_lows, .ref b_row_highs])), (b_row_gains, .inl (cA 0, 8, .inl g_row_gains)), (b_row_lows, .inl (cA 0, 8, .inl g_row_lows)), (b_row_highs, .inl (cA 0, 8, .inl g_row_highs)), (b_weights, .inl (cA 0, 64, .inl (upd g_weights r_2.toNatClampNeg (0 : Int32)))), (b_carried, .inl (cA 0, 64, .inl g_carried))] := hD
        refine lv_goto (tgt := 81) hx hb dX3_take_57 (by decide) ?_
        exact z_vretw (u_10.1, u_10.2.1, u_10.2.2, (upd g_weights r_2.toNatClampNeg (0 : Int32))) hx hb hr hlk hw hP hD hS dX3_take_81
  · have hw := hw.2 c_1
    refine lv_aload_n hx hb dX3_take_6 rfl (lv_at hl 2 rfl) ?_
    refine va_getN (own := RX3) (index := 19) (ref := "ExcessTree$Tree") (host := "ExcessTree") (D := D) (ci := 3) (v := .ref b_row) (C := RX4) (T := TX4) (N := 3) hx hb hts iwX4 hown hK.1 hP 2 rfl rfl 0 (by decide) kn19 (fun _ h9 => h9) rfl dX3_take_7 ?_
    refine lv_iconst (v := 0) hx hb dX3_take_10 (by decide) ?_
    refine z_wv (wr := [(a0, .inr (2, [.ref a_bytes, .int f_length, .int f_at, .int f_start, .int f_number, .int f_latestFault])), (a_bytes, .inl (cA 2, 160, .inl f_bytes)), (b0, .inr (3, [.ref b_row, .ref b_weights, .ref b_carried])), (b_weights, .inl (cA 0, 64, .inl g_weights)), (b_carried, .inl (cA 0, 64, .inl g_carried))]) (wn := (fun u : (Int64) × (Int64) × (Int32) => [(a0, .inr (2, [.ref a_bytes, .int f_length, .int f_at, .int f_start, .int f_number, .int f_latestFault])), (a_bytes, .inl (cA 2, 160, .inl f_bytes)), (b0, .inr (3, [.ref b_row, .ref b_weights, .ref b_carried])), (b_row, .inr (0, [.long u.1, .long u.2.1, .int u.2.2, .ref b_row_gains, .ref b_row_lows, .ref b_row_highs])), (b_row_gains, .inl (cA 0, 8, .inl g_row_gains)), (b_row_lows, .inl (cA 0, 8, .inl g_row_lows)), (b_row_highs, .inl (cA 0, 8, .inl g_row_highs)), (b_weights, .inl (cA 0, 64, .inl g_weights)), (b_carried, .inl (cA 0, 64, .inl g_carried))])) [.int (0 : Int32)] [] ⟨hx, hb, hml, hown, hts⟩ (kX1_append l D cA b_row b_row_gains b_row_lows b_row_highs g_row_low g_row_high g_row_places g_row_gains g_row_lows g_row_highs _ (0 : Int32) _ hw) (cwV 1 hts gX3_take_X1_append rfl rfl rfl vX1_append ⟨Nat.le_of_ble_eq_true rfl, Nat.le_of_ble_eq_true rfl⟩) hK hP hD hS hA [3, 4, 5, 6] [0, 1, 2, 7, 8] [0, 1, 2, 5, 6, 7, 8, 3, 4] rfl (by decide) rfl (by decide) (by decide) (fun u => rfl) (by decide) (va_recv hK.1 (hP.sub (ws' := [(b_row, .inr (0, [.long g_row_low, .long g_row_high, .int g_row_places, .ref b_row_gains, .ref b_row_lows, .ref b_row_highs]))]) [3] rfl) (ci := 0) (q0 := 0) rfl rfl) rfl hl.1 rfl (Nat.le_of_ble_eq_true rfl) dX3_take_11 ⟨Nat.zero_le _, Nat.zero_le _⟩ (fun u_12 H locs hw hP hD hS => ?_)
    have hP : va_P D vwCl [(a0, .inr (2, [.ref a_bytes, .int f_length, .int f_at, .int f_start, .int f_number, .int f_latestFault])), (a_bytes, .inl (cA 2, 160, .inl f_bytes)), (b0, .inr (3, [.ref b_row, .ref b_weights, .ref b_carried])), (b_row, .inr (0, [.long u_12.1, .long u_12.2.1, .int u_12.2.2, .ref b_row_gains, .ref b_row_lows, .ref b_row_highs])), (b_row_gains, .inl (cA 0, 8, .inl g_row_gains)), (b_row_lows, .inl (cA 0, 8, .inl g_row_lows)), (b_row_highs, .inl (cA 0, 8, .inl g_row_highs)), (b_weights, .inl (cA 0, 64, .inl g_weights)), (b_carried, .inl (cA 0, 64, .inl g_carried))] H := hP
    have hD : va_D A [(a0, .inr (2, [.ref a_bytes, .int f_length, .int f_at, .int f_start, .int f_number, .int f_latestFault])), (a_bytes, .inl (cA 2, 160, .inl f_bytes)), (b0, .inr (3, [.ref b_row, .ref b_weights, .ref b_carried])), (b_row, .inr (0, [.long u_12.1, .long u_12.2.1, .int u_12.2.2, .ref b_row_gains, .ref b_row_lows, .ref b_row_highs])), (b_row_gains, .inl (cA 0, 8, .inl g_row_gains)), (b_row_lows, .inl (cA 0, 8, .inl g_row_lows)), (b_row_highs, .inl (cA 0, 8, .inl g_row_highs)), (b_weights, .inl (cA 0, 64, .inl g_weights)), (b_carried, .inl (cA 0, 64, .inl g_carried))] := hD
    exact z_vretw (u_12.1, u_12.2.1, u_12.2.2, g_weights) hx hb hr hlk hw hP hD hS dX3_take_14
