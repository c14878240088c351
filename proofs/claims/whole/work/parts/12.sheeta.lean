/-! written by wip/whole/gen.py -/
def wX2_isNothing (f_kind : Int32)  (post : Int32 → Prop) : Prop := ((¬ f_kind = (-1 : Int32) → post (0 : Int32)) ∧ (f_kind = (-1 : Int32) → post (1 : Int32)))
abbrev rX2_isNothing : Room := { frames := 0, cells := 0, slots := 0, locals := 0 }
theorem vX2_isNothing : yX2_isNothing.cls = RX2 ∧ yX2_isNothing.cls ≠ "java/lang/invoke/MethodHandle" ∧ yX2_isNothing.cls ≠ "java/lang/invoke/VarHandle" ∧ (parseMethodDescriptor yX2_isNothing.desc).map (fun d => d.parameters.length) = some 0 := by decide +kernel
set_option maxHeartbeats 4000000 in
set_option maxRecDepth 100000 in
theorem kX2_isNothing (l : Launch) (D : va_G) (cA : Nat → ClassId) (a0 a_cells : Nat) (f_kind : Int32) (f_length : Int32) (f_cells : Nat → Int64)  (post : Int32 → Prop) (h : wX2_isNothing f_kind post) : Met l yX2_isNothing wsX2_isNothing rX2_isNothing (zPr D cA [.ref a0] [(a0, .inr (1, [.ref a_cells, .int f_kind, .int f_length])), (a_cells, .inl (cA 1, 40, .inr (.inl f_cells)))]) (vp_Si post) 0 0 (fun _ => False) := by
  refine z_ro (cc := cX2_isNothing) (maxL := 1) (ret := (some .boolean)) (by decide) rfl (Nat.le_of_ble_eq_true rfl) ?_
  intro p e s m args below meth c ls hx hb hr hlk hml hown hts hK hP hl
  have hown : s.vm.findClass RX2 = some m.cls := hown
  have hl : lv_has ls 1 [(0, .ref a0)] := hl
  have hw := h
  unfold wX2_isNothing at hw
  have iwX2 : ∀ w ∈ wsX20, w ∈ wsX2_isNothing := fun w h9 => List.mem_cons_of_mem _ (List.mem_append_right _ h9)
  have kf15 := hts (.fieldLink RX2 15 "ExcessTree$Sheet" "kind" "I") (by decide +kernel)
  refine lv_aload_n hx hb dX2_isNothing_0 rfl (lv_at hl 0 rfl) ?_
  refine va_get (D := D) (ci := 1) (v := .int f_kind) (C := RX2) (T := TX2) (N := 3) hx hb hts iwX2 hown hK.1 hP 0 rfl rfl 1 (by decide) kf15 (fun _ h9 => h9) rfl dX2_isNothing_1 ?_
  refine lv_iconst (v := -1) hx hb dX2_isNothing_4 (by decide) ?_
  refine lv_icmp_ne (tgt := 12) hx hb dX2_isNothing_5 (by decide) (fun c_1 => ?_) (fun c_1 => ?_)
  · have hw := hw.1 c_1
    refine lv_iconst (v := 0) hx hb dX2_isNothing_12 (by decide) ?_
    exact z_zret hx hb hr hlk rfl hw dX2_isNothing_13
  · have hw := hw.2 c_1
    refine lv_iconst (v := 1) hx hb dX2_isNothing_8 (by decide) ?_
    refine lv_goto (tgt := 13) hx hb dX2_isNothing_9 (by decide) ?_
    exact z_zret hx hb hr hlk rfl hw dX2_isNothing_13
def wX2_hasCell (f_length : Int32) (p1 : Int32) (post : Int32 → Prop) : Prop := ((p1 < 0 → post (0 : Int32)) ∧ (¬ p1 < 0 → ((f_length ≤ p1 → post (0 : Int32)) ∧ (¬ f_length ≤ p1 → post (1 : Int32)))))
abbrev rX2_hasCell : Room := { frames := 0, cells := 0, slots := 0, locals := 0 }
theorem vX2_hasCell : yX2_hasCell.cls = RX2 ∧ yX2_hasCell.cls ≠ "java/lang/invoke/MethodHandle" ∧ yX2_hasCell.cls ≠ "java/lang/invoke/VarHandle" ∧ (parseMethodDescriptor yX2_hasCell.desc).map (fun d => d.parameters.length) = some 1 := by decide +kernel
set_option maxHeartbeats 4000000 in
set_option maxRecDepth 100000 in
theorem kX2_hasCell (l : Launch) (D : va_G) (cA : Nat → ClassId) (a0 a_cells : Nat) (f_kind : Int32) (f_length : Int32) (f_cells : Nat → Int64) (p1 : Int32) (post : Int32 → Prop) (h : wX2_hasCell f_length p1 post) : Met l yX2_hasCell wsX2_hasCell rX2_hasCell (zPr D cA [.ref a0, .int p1] [(a0, .inr (1, [.ref a_cells, .int f_kind, .int f_length])), (a_cells, .inl (cA 1, 40, .inr (.inl f_cells)))]) (vp_Si post) 0 0 (fun _ => False) := by
  refine z_ro (cc := cX2_hasCell) (maxL := 2) (ret := (some .boolean)) (by decide) rfl (Nat.le_of_ble_eq_true rfl) ?_
  intro p e s m args below meth c ls hx hb hr hlk hml hown hts hK hP hl
  have hown : s.vm.findClass RX2 = some m.cls := hown
  have hl : lv_has ls 2 [(0, .ref a0), (1, .int p1)] := hl
  have hw := h
  unfold wX2_hasCell at hw
  have iwX2 : ∀ w ∈ wsX20, w ∈ wsX2_hasCell := fun w h9 => List.mem_cons_of_mem _ (List.mem_append_right _ h9)
  have kf19 := hts (.fieldLink RX2 19 "ExcessTree$Sheet" "length" "I") (by decide +kernel)
  refine lv_iload_n hx hb dX2_hasCell_0 rfl (lv_at hl 1 rfl) ?_
  refine lv_if_lt (tgt := 16) hx hb dX2_hasCell_1 (by decide) (fun c_1 => ?_) (fun c_1 => ?_)
  · have hw := hw.1 c_1
    refine lv_iconst (v := 0) hx hb dX2_hasCell_16 (by decide) ?_
    exact z_zret hx hb hr hlk rfl hw dX2_hasCell_17
  · have hw := hw.2 c_1
    refine lv_iload_n hx hb dX2_hasCell_4 rfl (lv_at hl 1 rfl) ?_
    refine lv_aload_n hx hb dX2_hasCell_5 rfl (lv_at hl 0 rfl) ?_
    refine va_get (D := D) (ci := 1) (v := .int f_length) (C := RX2) (T := TX2) (N := 3) hx hb hts iwX2 hown hK.1 hP 0 rfl rfl 2 (by decide) kf19 (fun _ h9 => h9) rfl dX2_hasCell_6 ?_
    refine lv_icmp_ge (tgt := 16) hx hb dX2_hasCell_9 (by decide) (fun c_2 => ?_) (fun c_2 => ?_)
    · have hw := hw.1 c_2
      refine lv_iconst (v := 0) hx hb dX2_hasCell_16 (by decide) ?_
      exact z_zret hx hb hr hlk rfl hw dX2_hasCell_17
    · have hw := hw.2 c_2
      refine lv_iconst (v := 1) hx hb dX2_hasCell_12 (by decide) ?_
      refine lv_goto (tgt := 17) hx hb dX2_hasCell_13 (by decide) ?_
      exact z_zret hx hb hr hlk rfl hw dX2_hasCell_17
def wX2_renew (f_kind : Int32) (f_length : Int32) (f_cells : Nat → Int64) (p1 : Int32) (p2 : Int32) (post : ((Int32) × (Int32) × (Nat → Int64)) → Prop) : Prop := (∃ (I_1 : Int32 → (Nat → Int64) → Prop) (mu_1 : Int32 → (Nat → Int64) → Nat), I_1 (0 : Int32) f_cells ∧ ∀ (x_2 : Int32) (f_cells_3 : Nat → Int64), I_1 x_2 f_cells_3 → (((40 : Int32) ≤ x_2 → post (p1, p2, f_cells_3)) ∧ (¬ (40 : Int32) ≤ x_2 → (vp_in x_2 40 ∧ (∀ x_5 : Int32, x_5 = x_2 + (1) → (I_1 x_5 (vp_updL f_cells_3 x_2.toNatClampNeg (0 : Int64)) ∧ mu_1 x_5 (vp_updL f_cells_3 x_2.toNatClampNeg (0 : Int64)) < mu_1 x_2 f_cells_3))))))
abbrev rX2_renew : Room := { frames := 0, cells := 0, slots := 0, locals := 0 }
theorem vX2_renew : yX2_renew.cls = RX2 ∧ yX2_renew.cls ≠ "java/lang/invoke/MethodHandle" ∧ yX2_renew.cls ≠ "java/lang/invoke/VarHandle" ∧ (parseMethodDescriptor yX2_renew.desc).map (fun d => d.parameters.length) = some 2 := by decide +kernel
set_option maxHeartbeats 4000000 in
set_option maxRecDepth 100000 in
theorem kX2_renew (l : Launch) (D : va_G) (cA : Nat → ClassId) (a0 a_cells : Nat) (f_kind : Int32) (f_length : Int32) (f_cells : Nat → Int64) (sz : Nat) (p1 : Int32) (p2 : Int32) (post : ((Int32) × (Int32) × (Nat → Int64)) → Prop) (h : wX2_renew f_kind f_length f_cells p1 p2 post) : Met l yX2_renew wsX2_renew rX2_renew (zPw D cA [.ref a0, .int p1, .int p2] [(a0, .inr (1, [.ref a_cells, .int f_kind, .int f_length])), (a_cells, .inl (cA 1, 40, .inr (.inl f_cells)))] sz) (va_Qv post (zB D (va_A [(a0, .inr (1, [.ref a_cells, .int f_kind, .int f_length])), (a_cells, .inl (cA 1, 40, .inr (.inl f_cells)))] sz) (fun u : (Int32) × (Int32) × (Nat → Int64) => [(a0, .inr (1, [.ref a_cells, .int u.1, .int u.2.1])), (a_cells, .inl (cA 1, 40, .inr (.inl u.2.2)))])) (va_A [(a0, .inr (1, [.ref a_cells, .int f_kind, .int f_length])), (a_cells, .inl (cA 1, 40, .inr (.inl f_cells)))] sz)) 0 0 (va_A [(a0, .inr (1, [.ref a_cells, .int f_kind, .int f_length])), (a_cells, .inl (cA 1, 40, .inr (.inl f_cells)))] sz) := by
  refine z_rw (Qc := fun A => va_Qv post (zB D A (fun u : (Int32) × (Int32) × (Nat → Int64) => [(a0, .inr (1, [.ref a_cells, .int u.1, .int u.2.1])), (a_cells, .inl (cA 1, 40, .inr (.inl u.2.2)))])) A) (cc := cX2_renew) (maxL := 4) (ret := none) (by decide) rfl (Nat.le_of_ble_eq_true rfl) ?_
  intro p e s m args below meth c ls A hx hb hr hlk hml hown hts hK hP hD hS hA hl
  have hown : s.vm.findClass RX2 = some m.cls := hown
  have hl : lv_has ls 4 [(0, .ref a0), (1, .int p1), (2, .int p2)] := hl
  have hw := h
  unfold wX2_renew at hw
  have iwX2 : ∀ w ∈ wsX20, w ∈ wsX2_renew := fun w h9 => List.mem_cons_of_mem _ (List.mem_append_right _ h9)
  have kf15 := hts (.fieldLink RX2 15 "ExcessTree$Sheet" "kind" "I") (by decide +kernel)
  have kf19 := hts (.fieldLink RX2 19 "ExcessTree$Sheet" "length" "I") (by decide +kernel)
  have kf9 := hts (.fieldLink RX2 9 "ExcessTree$Sheet" "cells" "[J") (by decide +kernel)
  refine lv_aload_n hx hb dX2_renew_0 rfl (lv_at hl 0 rfl) ?_
  refine lv_iload_n hx hb dX2_renew_1 rfl (lv_at hl 1 rfl) ?_
  refine va_put (D := D) (ci := 1) (v := .int p1) (ty := .int) (C := RX2) (T := TX2) (N := 3) hx hb hts iwX2 tyX2 tyX2_ok nmX2 hown hK.1 hP hD hS 0 rfl rfl 1 (by decide) kf15 (fun _ h9 => h9) rfl (by decide +kernel) rfl rfl (Nat.le_of_ble_eq_true rfl) dX2_renew_2 (fun H locs hP hD hS => ?_)
  have hP : va_P D vwCl [(a0, .inr (1, [.ref a_cells, .int p1, .int f_length])), (a_cells, .inl (cA 1, 40, .inr (.inl f_cells)))] H := hP
  have hD : va_D A [(a0, .inr (1, [.ref a_cells, .int p1, .int f_length])), (a_cells, .inl (cA 1, 40, .inr (.inl f_cells)))] := hD
  refine lv_aload_n hx hb dX2_renew_5 rfl (lv_at hl 0 rfl) ?_
  refine lv_iload_n hx hb dX2_renew_6 rfl (lv_at hl 2 rfl) ?_
  refine va_put (D := D) (ci := 1) (v := .int p2) (ty := .int) (C := RX2) (T := TX2) (N := 3) hx hb hts iwX2 tyX2 tyX2_ok nmX2 hown hK.1 hP hD hS 0 rfl rfl 2 (by decide) kf19 (fun _ h9 => h9) rfl (by decide +kernel) rfl rfl (Nat.le_of_ble_eq_true rfl) dX2_renew_7 (fun H locs hP hD hS => ?_)
  have hP : va_P D vwCl [(a0, .inr (1, [.ref a_cells, .int p1, .int p2])), (a_cells, .inl (cA 1, 40, .inr (.inl f_cells)))] H := hP
  have hD : va_D A [(a0, .inr (1, [.ref a_cells, .int p1, .int p2])), (a_cells, .inl (cA 1, 40, .inr (.inl f_cells)))] := hD
  refine lv_iconst (v := 0) hx hb dX2_renew_10 (by decide) ?_
  refine lv_istore_n (lv' := [(3, .int (0 : Int32)), (0, .ref a0), (1, .int p1), (2, .int p2)]) hx hb dX2_renew_11 rfl hl (by decide) rfl (fun ls hl => ?_)
  obtain ⟨I_1, mu_1, hI_1, hw⟩ := hw
  have lp_1 : ∀ (nn : Nat) (x_2 : Int32) (f_cells_3 : Nat → Int64) (H : Heap) (locs : List Loc) (ls : Array Slot), mu_1 x_2 f_cells_3 < nn → I_1 x_2 f_cells_3 → va_P D vwCl [(a0, .inr (1, [.ref a_cells, .int p1, .int p2])), (a_cells, .inl (cA 1, 40, .inr (.inl f_cells_3)))] H → va_D A [(a0, .inr (1, [.ref a_cells, .int p1, .int p2])), (a_cells, .inl (cA 1, 40, .inr (.inl f_cells_3)))] → va_S A s.heap H locs → lv_has ls 4 [(0, .ref a0), (3, .int x_2)] → W p l e rX2_renew s m args below meth c H locs 0 0 (MQ below (va_Qv post (zB D A (fun u : (Int32) × (Int32) × (Nat → Int64) => [(a0, .inr (1, [.ref a_cells, .int u.1, .int u.2.1])), (a_cells, .inl (cA 1, 40, .inr (.inl u.2.2)))])) A) args s 0 0 A) (F0 m 12 ls []) := by
    intro nn
    induction nn with
    | zero => exact fun _ _ _ _ _ h0 => absurd h0 (Nat.not_lt_zero _)
    | succ nn ih_1 =>
      intro x_2 f_cells_3 H locs ls hmu_1 hI_1 hP hD hS hl
      have hw := hw x_2 f_cells_3 hI_1
      refine lv_iload_n hx hb dX2_renew_12 rfl (lv_at hl 1 rfl) ?_
      refine lv_bipush (v := 40) hx hb dX2_renew_13 (by decide) ?_
      refine lv_icmp_ge (tgt := 31) hx hb dX2_renew_15 (by decide) (fun c_4 => ?_) (fun c_4 => ?_)
      · have hw := hw.1 c_4
        exact z_vretw (p1, p2, f_cells_3) hx hb hr hlk hw hP hD hS dX2_renew_31
      · have hw := hw.2 c_4
        refine lv_aload_n hx hb dX2_renew_18 rfl (lv_at hl 0 rfl) ?_
        refine va_get (D := D) (ci := 1) (v := .ref a_cells) (C := RX2) (T := TX2) (N := 3) hx hb hts iwX2 hown hK.1 hP 0 rfl rfl 0 (by decide) kf9 (fun _ h9 => h9) rfl dX2_renew_19 ?_
        refine lv_iload_n hx hb dX2_renew_22 rfl (lv_at hl 1 rfl) ?_
        refine lv_lconst (v := 0) hx hb dX2_renew_23 (by decide) ?_
        have hq := hw.1
        have hw := hw.2
        refine va_last hx hb hK.1 hP hD hS 1 1 rfl rfl hq dX2_renew_24 (fun H locs hP hD hS => ?_)
        have hP : va_P D vwCl [(a0, .inr (1, [.ref a_cells, .int p1, .int p2])), (a_cells, .inl (cA 1, 40, .inr (.inl (vp_updL f_cells_3 x_2.toNatClampNeg (0 : Int64)))))] H := hP
        have hD : va_D A [(a0, .inr (1, [.ref a_cells, .int p1, .int p2])), (a_cells, .inl (cA 1, 40, .inr (.inl (vp_updL f_cells_3 x_2.toNatClampNeg (0 : Int64)))))] := hD
        obtain ⟨x_5, ex_5⟩ : ∃ y : Int32, y = x_2 + (1) := ⟨_, rfl⟩
        have hw := hw x_5 ex_5
        refine lv_iinc (v := x_5) (lv' := [(3, .int x_5), (0, .ref a0)]) hx hb dX2_renew_25 hl (k := 1) rfl (by rw [ex_5]; rfl) (by decide) rfl (fun ls hl => ?_)
        refine lv_goto (tgt := 12) hx hb dX2_renew_28 (by decide) ?_
        exact ih_1 x_5 (vp_updL f_cells_3 x_2.toNatClampNeg (0 : Int64)) _ _ ls (Nat.lt_of_lt_of_le hw.2 (Nat.le_of_lt_succ hmu_1)) hw.1 hP hD hS (lv_sub hl [1, 0] rfl)
  exact lp_1 (mu_1 (0 : Int32) f_cells + 1) (0 : Int32) f_cells _ _ ls (Nat.lt_succ_self _) hI_1 hP hD hS (lv_sub hl [1, 0] rfl)
def wX2_put (f_kind : Int32) (f_cells : Nat → Int64) (p1 : Int32) (p2 : Int64) (post : (Nat → Int64) → Prop) : Prop := ((¬ f_kind = 0 → ((¬ f_kind = (1 : Int32) → (vp_in p1 40 ∧ post (vp_updL f_cells p1.toNatClampNeg p2))) ∧ (f_kind = (1 : Int32) → (∀ x_3 : Int64, x_3 = ((((p2).toInt32)).toInt64) → (vp_in p1 40 ∧ post (vp_updL f_cells p1.toNatClampNeg x_3)))))) ∧ (f_kind = 0 → (∀ x_4 : Int64, x_4 = ((((((p2).toInt32)).toInt8.toInt32)).toInt64) → (vp_in p1 40 ∧ post (vp_updL f_cells p1.toNatClampNeg x_4)))))
abbrev rX2_put : Room := { frames := 0, cells := 0, slots := 0, locals := 0 }
theorem vX2_put : yX2_put.cls = RX2 ∧ yX2_put.cls ≠ "java/lang/invoke/MethodHandle" ∧ yX2_put.cls ≠ "java/lang/invoke/VarHandle" ∧ (parseMethodDescriptor yX2_put.desc).map (fun d => d.parameters.length) = some 2 := by decide +kernel
set_option maxHeartbeats 4000000 in
set_option maxRecDepth 100000 in
theorem kX2_put (l : Launch) (D : va_G) (cA : Nat → ClassId) (a0 a_cells : Nat) (f_kind : Int32) (f_length : Int32) (f_cells : Nat → Int64) (sz : Nat) (p1 : Int32) (p2 : Int64) (post : (Nat → Int64) → Prop) (h : wX2_put f_kind f_cells p1 p2 post) : Met l yX2_put wsX2_put rX2_put (zPw D cA [.ref a0, .int p1, .long p2] [(a0, .inr (1, [.ref a_cells, .int f_kind, .int f_length])), (a_cells, .inl (cA 1, 40, .inr (.inl f_cells)))] sz) (va_Qv post (zB D (va_A [(a0, .inr (1, [.ref a_cells, .int f_kind, .int f_length])), (a_cells, .inl (cA 1, 40, .inr (.inl f_cells)))] sz) (fun u : (Nat → Int64) => [(a0, .inr (1, [.ref a_cells, .int f_kind, .int f_length])), (a_cells, .inl (cA 1, 40, .inr (.inl u)))])) (va_A [(a0, .inr (1, [.ref a_cells, .int f_kind, .int f_length])), (a_cells, .inl (cA 1, 40, .inr (.inl f_cells)))] sz)) 0 0 (va_A [(a0, .inr (1, [.ref a_cells, .int f_kind, .int f_length])), (a_cells, .inl (cA 1, 40, .inr (.inl f_cells)))] sz) := by
  refine z_rw (Qc := fun A => va_Qv post (zB D A (fun u : (Nat → Int64) => [(a0, .inr (1, [.ref a_cells, .int f_kind, .int f_length])), (a_cells, .inl (cA 1, 40, .inr (.inl u)))])) A) (cc := cX2_put) (maxL := 4) (ret := none) (by decide) rfl (Nat.le_of_ble_eq_true rfl) ?_
  intro p e s m args below meth c ls A hx hb hr hlk hml hown hts hK hP hD hS hA hl
  have hown : s.vm.findClass RX2 = some m.cls := hown
  have hl : lv_has ls 4 [(0, .ref a0), (1, .int p1), (2, .long p2)] := hl
  have hw := h
  unfold wX2_put at hw
  have iwX2 : ∀ w ∈ wsX20, w ∈ wsX2_put := fun w h9 => List.mem_cons_of_mem _ (List.mem_append_right _ h9)
  have kf15 := hts (.fieldLink RX2 15 "ExcessTree$Sheet" "kind" "I") (by decide +kernel)
  have kf9 := hts (.fieldLink RX2 9 "ExcessTree$Sheet" "cells" "[J") (by decide +kernel)
  refine lv_aload_n hx hb dX2_put_0 rfl (lv_at hl 0 rfl) ?_
  refine va_get (D := D) (ci := 1) (v := .int f_kind) (C := RX2) (T := TX2) (N := 3) hx hb hts iwX2 hown hK.1 hP 0 rfl rfl 1 (by decide) kf15 (fun _ h9 => h9) rfl dX2_put_1 ?_
  refine lv_if_ne (tgt := 20) hx hb dX2_put_4 (by decide) (fun c_1 => ?_) (fun c_1 => ?_)
  · have hw := hw.1 c_1
    refine lv_aload_n hx hb dX2_put_20 rfl (lv_at hl 0 rfl) ?_
    refine va_get (D := D) (ci := 1) (v := .int f_kind) (C := RX2) (T := TX2) (N := 3) hx hb hts iwX2 hown hK.1 hP 0 rfl rfl 1 (by decide) kf15 (fun _ h9 => h9) rfl dX2_put_21 ?_
    refine lv_iconst (v := 1) hx hb dX2_put_24 (by decide) ?_
    refine lv_icmp_ne (tgt := 40) hx hb dX2_put_25 (by decide) (fun c_2 => ?_) (fun c_2 => ?_)
    · have hw := hw.1 c_2
      refine lv_aload_n hx hb dX2_put_40 rfl (lv_at hl 0 rfl) ?_
      refine va_get (D := D) (ci := 1) (v := .ref a_cells) (C := RX2) (T := TX2) (N := 3) hx hb hts iwX2 hown hK.1 hP 0 rfl rfl 0 (by decide) kf9 (fun _ h9 => h9) rfl dX2_put_41 ?_
      refine lv_iload_n hx hb dX2_put_44 rfl (lv_at hl 1 rfl) ?_
      refine lv_lload_n hx hb dX2_put_45 rfl (lv_at hl 2 rfl) ?_
      have hq := hw.1
      have hw := hw.2
      refine va_last hx hb hK.1 hP hD hS 1 1 rfl rfl hq dX2_put_46 (fun H locs hP hD hS => ?_)
      have hP : va_P D vwCl [(a0, .inr (1, [.ref a_cells, .int f_kind, .int f_length])), (a_cells, .inl (cA 1, 40, .inr (.inl (vp_updL f_cells p1.toNatClampNeg p2))))] H := hP
      have hD : va_D A [(a0, .inr (1, [.ref a_cells, .int f_kind, .int f_length])), (a_cells, .inl (cA 1, 40, .inr (.inl (vp_updL f_cells p1.toNatClampNeg p2))))] := hD
      exact z_vretw (vp_updL f_cells p1.toNatClampNeg p2) hx hb hr hlk hw hP hD hS dX2_put_47
    · have hw := hw.2 c_2
      refine lv_aload_n hx hb dX2_put_28 rfl (lv_at hl 0 rfl) ?_
      refine va_get (D := D) (ci := 1) (v := .ref a_cells) (C := RX2) (T := TX2) (N := 3) hx hb hts iwX2 hown hK.1 hP 0 rfl rfl 0 (by decide) kf9 (fun _ h9 => h9) rfl dX2_put_29 ?_
      refine lv_iload_n hx hb dX2_put_32 rfl (lv_at hl 1 rfl) ?_
      refine lv_lload_n hx hb dX2_put_33 rfl (lv_at hl 2 rfl) ?_
      refine lv_l2i (v := ((p2).toInt32)) hx hb dX2_put_34 rfl ?_
      refine lv_i2l (v := ((((p2).toInt32)).toInt64)) hx hb dX2_put_35 rfl ?_
      refine lv_topl (fun x_3 ex_3 => ?_)
      have hw := hw x_3 ex_3
      have hq := hw.1
      have hw := hw.2
      refine va_last hx hb hK.1 hP hD hS 1 1 rfl rfl hq dX2_put_36 (fun H locs hP hD hS => ?_)
      have hP : va_P D vwCl [(a0, .inr (1, [.ref a_cells, .int f_kind, .int f_length])), (a_cells, .inl (cA 1, 40, .inr (.inl (vp_updL f_cells p1.toNatClampNeg x_3))))] H := hP
      have hD : va_D A [(a0, .inr (1, [.ref a_cells, .int f_kind, .int f_length])), (a_cells, .inl (cA 1, 40, .inr (.inl (vp_updL f_cells p1.toNatClampNeg x_3))))] := hD
      refine lv_goto (tgt := 47) hx hb dX2_put_37 (by decide) ?_
      exact z_vretw (vp_updL f_cells p1.toNatClampNeg x_3) hx hb hr hlk hw hP hD hS dX2_put_47
  · have hw := hw.2 c_1
    refine lv_aload_n hx hb dX2_put_7 rfl (lv_at hl 0 rfl) ?_
    refine va_get (D := D) (ci := 1) (v := .ref a_cells) (C := RX2) (T := TX2) (N := 3) hx hb hts iwX2 hown hK.1 hP 0 rfl rfl 0 (by decide) kf9 (fun _ h9 => h9) rfl dX2_put_8 ?_
    refine lv_iload_n hx hb dX2_put_11 rfl (lv_at hl 1 rfl) ?_
    refine lv_lload_n hx hb dX2_put_12 rfl (lv_at hl 2 rfl) ?_
    refine lv_l2i (v := ((p2).toInt32)) hx hb dX2_put_13 rfl ?_
    refine lv_i2b (v := ((((p2).toInt32)).toInt8.toInt32)) hx hb dX2_put_14 rfl ?_
    refine lv_i2l (v := ((((((p2).toInt32)).toInt8.toInt32)).toInt64)) hx hb dX2_put_15 rfl ?_
    refine lv_topl (fun x_4 ex_4 => ?_)
    have hw := hw x_4 ex_4
    have hq := hw.1
    have hw := hw.2
    refine va_last hx hb hK.1 hP hD hS 1 1 rfl rfl hq dX2_put_16 (fun H locs hP hD hS => ?_)
    have hP : va_P D vwCl [(a0, .inr (1, [.ref a_cells, .int f_kind, .int f_length])), (a_cells, .inl (cA 1, 40, .inr (.inl (vp_updL f_cells p1.toNatClampNeg x_4))))] H := hP
    have hD : va_D A [(a0, .inr (1, [.ref a_cells, .int f_kind, .int f_length])), (a_cells, .inl (cA 1, 40, .inr (.inl (vp_updL f_cells p1.toNatClampNeg x_4))))] := hD
    refine lv_goto (tgt := 47) hx hb dX2_put_17 (by decide) ?_
    exact z_vretw (vp_updL f_cells p1.toNatClampNeg x_4) hx hb hr hlk hw hP hD hS dX2_put_47
def wX2_bitsOfCell (f_kind : Int32)  (post : Int32 → Prop) : Prop := ((¬ f_kind = 0 → ((¬ f_kind = (1 : Int32) → post (64 : Int32)) ∧ (f_kind = (1 : Int32) → post (32 : Int32)))) ∧ (f_kind = 0 → post (8 : Int32)))
abbrev rX2_bitsOfCell : Room := { frames := 0, cells := 0, slots := 0, locals := 0 }
theorem vX2_bitsOfCell : yX2_bitsOfCell.cls = RX2 ∧ yX2_bitsOfCell.cls ≠ "java/lang/invoke/MethodHandle" ∧ yX2_bitsOfCell.cls ≠ "java/lang/invoke/VarHandle" ∧ (parseMethodDescriptor yX2_bitsOfCell.desc).map (fun d => d.parameters.length) = some 0 := by decide +kernel
set_option maxHeartbeats 4000000 in
set_option maxRecDepth 100000 in
theorem kX2_bitsOfCell (l : Launch) (D : va_G) (cA : Nat → ClassId) (a0 a_cells : Nat) (f_kind : Int32) (f_length : Int32) (f_cells : Nat → Int64)  (post : Int32 → Prop) (h : wX2_bitsOfCell f_kind post) : Met l yX2_bitsOfCell wsX2_bitsOfCell rX2_bitsOfCell (zPr D cA [.ref a0] [(a0, .inr (1, [.ref a_cells, .int f_kind, .int f_length])), (a_cells, .inl (cA 1, 40, .inr (.inl f_cells)))]) (vp_Si post) 0 0 (fun _ => False) := by
  refine z_ro (cc := cX2_bitsOfCell) (maxL := 1) (ret := (some .int)) (by decide) rfl (Nat.le_of_ble_eq_true rfl) ?_
  intro p e s m args below meth c ls hx hb hr hlk hml hown hts hK hP hl
  have hown : s.vm.findClass RX2 = some m.cls := hown
  have hl : lv_has ls 1 [(0, .ref a0)] := hl
  have hw := h
  unfold wX2_bitsOfCell at hw
  have iwX2 : ∀ w ∈ wsX20, w ∈ wsX2_bitsOfCell := fun w h9 => List.mem_cons_of_mem _ (List.mem_append_right _ h9)
  have kf15 := hts (.fieldLink RX2 15 "ExcessTree$Sheet" "kind" "I") (by decide +kernel)
  refine lv_aload_n hx hb dX2_bitsOfCell_0 rfl (lv_at hl 0 rfl) ?_
  refine va_get (D := D) (ci := 1) (v := .int f_kind) (C := RX2) (T := TX2) (N := 3) hx hb hts iwX2 hown hK.1 hP 0 rfl rfl 1 (by decide) kf15 (fun _ h9 => h9) rfl dX2_bitsOfCell_1 ?_
  refine lv_if_ne (tgt := 10) hx hb dX2_bitsOfCell_4 (by decide) (fun c_1 => ?_) (fun c_1 => ?_)
  · have hw := hw.1 c_1
    refine lv_aload_n hx hb dX2_bitsOfCell_10 rfl (lv_at hl 0 rfl) ?_
    refine va_get (D := D) (ci := 1) (v := .int f_kind) (C := RX2) (T := TX2) (N := 3) hx hb hts iwX2 hown hK.1 hP 0 rfl rfl 1 (by decide) kf15 (fun _ h9 => h9) rfl dX2_bitsOfCell_11 ?_
    refine lv_iconst (v := 1) hx hb dX2_bitsOfCell_14 (by decide) ?_
    refine lv_icmp_ne (tgt := 23) hx hb dX2_bitsOfCell_15 (by decide) (fun c_2 => ?_) (fun c_2 => ?_)
    · have hw := hw.1 c_2
      refine lv_bipush (v := 64) hx hb dX2_bitsOfCell_23 (by decide) ?_
      exact z_iret hx hb hr hlk hw dX2_bitsOfCell_25
    · have hw := hw.2 c_2
      refine lv_bipush (v := 32) hx hb dX2_bitsOfCell_18 (by decide) ?_
      refine lv_goto (tgt := 25) hx hb dX2_bitsOfCell_20 (by decide) ?_
      exact z_iret hx hb hr hlk hw dX2_bitsOfCell_25
  · have hw := hw.2 c_1
    refine lv_bipush (v := 8) hx hb dX2_bitsOfCell_7 (by decide) ?_
    exact z_iret hx hb hr hlk hw dX2_bitsOfCell_9
def wX2_faultOfBit (f_kind : Int32) (f_length : Int32) (p1 : Int32) (p2 : Int64) (post : Int32 → Prop) : Prop := (wX2_isNothing f_kind (fun r_1 : Int32 => (((r_1 = 0 → ((f_kind = p1 → (wX2_bitsOfCell f_kind (fun r_4 : Int32 => ((¬ ((r_4).toInt64) = 0 ∧ ((0 ≤ (lg_cmp (p2 / ((r_4).toInt64)) ((f_length).toInt64)) → post (2 : Int32)) ∧ (¬ 0 ≤ (lg_cmp (p2 / ((r_4).toInt64)) ((f_length).toInt64)) → post (0 : Int32)))))))) ∧ (¬ f_kind = p1 → post (3 : Int32)))) ∧ (¬ r_1 = 0 → post (1 : Int32))))))
abbrev rX2_faultOfBit : Room := { frames := 1, cells := 0, slots := 0, locals := 20 }
theorem vX2_faultOfBit : yX2_faultOfBit.cls = RX2 ∧ yX2_faultOfBit.cls ≠ "java/lang/invoke/MethodHandle" ∧ yX2_faultOfBit.cls ≠ "java/lang/invoke/VarHandle" ∧ (parseMethodDescriptor yX2_faultOfBit.desc).map (fun d => d.parameters.length) = some 2 := by decide +kernel
set_option maxHeartbeats 4000000 in
set_option maxRecDepth 100000 in
theorem kX2_faultOfBit (l : Launch) (D : va_G) (cA : Nat → ClassId) (a0 a_cells : Nat) (f_kind : Int32) (f_length : Int32) (f_cells : Nat → Int64) (p1 : Int32) (p2 : Int64) (post : Int32 → Prop) (h : wX2_faultOfBit f_kind f_length p1 p2 post) : Met l yX2_faultOfBit wsX2_faultOfBit rX2_faultOfBit (zPr D cA [.ref a0, .int p1, .long p2] [(a0, .inr (1, [.ref a_cells, .int f_kind, .int f_length])), (a_cells, .inl (cA 1, 40, .inr (.inl f_cells)))]) (vp_Si post) 0 0 (fun _ => False) := by
  refine z_ro (cc := cX2_faultOfBit) (maxL := 4) (ret := (some .int)) (by decide) rfl (Nat.le_of_ble_eq_true rfl) ?_
  intro p e s m args below meth c ls hx hb hr hlk hml hown hts hK hP hl
  have hown : s.vm.findClass RX2 = some m.cls := hown
  have hl : lv_has ls 4 [(0, .ref a0), (1, .int p1), (2, .long p2)] := hl
  have hw := h
  unfold wX2_faultOfBit at hw
  have iwX2 : ∀ w ∈ wsX20, w ∈ wsX2_faultOfBit := fun w h9 => List.mem_cons_of_mem _ (List.mem_append_right _ h9)
  have kf15 := hts (.fieldLink RX2 15 "ExcessTree$Sheet" "kind" "I") (by decide +kernel)
  have kf19 := hts (.fieldLink RX2 19 "ExcessTree$Sheet" "length" "I") (by decide +kernel)
  refine lv_aload_n hx hb dX2_faultOfBit_0 rfl (lv_at hl 0 rfl) ?_
  refine z_ri [] [] ⟨hx, hb, hml, hown, hts⟩ (kX2_isNothing l D cA a0 a_cells f_kind f_length f_cells _ hw) (cwV 0 hts gX2_faultOfBit_X2_isNothing rfl rfl rfl vX2_isNothing ⟨Nat.le_of_ble_eq_true rfl, Nat.le_of_ble_eq_true rfl⟩) hK (hP.sub [0, 1] rfl) (va_recv hK.1 (hP.sub (ws' := [(a0, .inr (1, [.ref a_cells, .int f_kind, .int f_length]))]) [0] rfl) (ci := 1) (q0 := 0) rfl rfl) rfl hl.1 rfl (Nat.le_of_ble_eq_true rfl) dX2_faultOfBit_1 ⟨Nat.zero_le _, Nat.zero_le _⟩ (fun r_1 hw => ?_)
  refine lv_if_eq (tgt := 9) hx hb dX2_faultOfBit_4 (by decide) (fun c_2 => ?_) (fun c_2 => ?_)
  · have hw := hw.1 c_2
    refine lv_aload_n hx hb dX2_faultOfBit_9 rfl (lv_at hl 0 rfl) ?_
    refine va_get (D := D) (ci := 1) (v := .int f_kind) (C := RX2) (T := TX2) (N := 3) hx hb hts iwX2 hown hK.1 hP 0 rfl rfl 1 (by decide) kf15 (fun _ h9 => h9) rfl dX2_faultOfBit_10 ?_
    refine lv_iload_n hx hb dX2_faultOfBit_13 rfl (lv_at hl 1 rfl) ?_
    refine lv_icmp_eq (tgt := 19) hx hb dX2_faultOfBit_14 (by decide) (fun c_3 => ?_) (fun c_3 => ?_)
    · have hw := hw.1 c_3
      refine lv_lload_n hx hb dX2_faultOfBit_19 rfl (lv_at hl 2 rfl) ?_
      refine lv_aload_n hx hb dX2_faultOfBit_20 rfl (lv_at hl 0 rfl) ?_
      refine z_ri [] [.long p2] ⟨hx, hb, hml, hown, hts⟩ (kX2_bitsOfCell l D cA a0 a_cells f_kind f_length f_cells _ hw) (cwV 0 hts gX2_faultOfBit_X2_bitsOfCell rfl rfl rfl vX2_bitsOfCell ⟨Nat.le_of_ble_eq_true rfl, Nat.le_of_ble_eq_true rfl⟩) hK (hP.sub [0, 1] rfl) (va_recv hK.1 (hP.sub (ws' := [(a0, .inr (1, [.ref a_cells, .int f_kind, .int f_length]))]) [0] rfl) (ci := 1) (q0 := 0) rfl rfl) rfl hl.1 rfl (Nat.le_of_ble_eq_true rfl) dX2_faultOfBit_21 ⟨Nat.zero_le _, Nat.zero_le _⟩ (fun r_4 hw => ?_)
      refine lv_i2l (v := ((r_4).toInt64)) hx hb dX2_faultOfBit_24 rfl ?_
      have hq := hw.1
      have hw := hw.2
      refine lv_ldiv hx hb dX2_faultOfBit_25 hq ?_
      refine lv_aload_n hx hb dX2_faultOfBit_26 rfl (lv_at hl 0 rfl) ?_
      refine va_get (D := D) (ci := 1) (v := .int f_length) (C := RX2) (T := TX2) (N := 3) hx hb hts iwX2 hown hK.1 hP 0 rfl rfl 2 (by decide) kf19 (fun _ h9 => h9) rfl dX2_faultOfBit_27 ?_
      refine lv_i2l (v := ((f_length).toInt64)) hx hb dX2_faultOfBit_30 rfl ?_
      refine W.lcmp hx hb dX2_faultOfBit_31 ?_
      refine lv_if_ge (tgt := 39) hx hb dX2_faultOfBit_32 (by decide) (fun c_5 => ?_) (fun c_5 => ?_)
      · have hw := hw.1 c_5
        refine lv_iconst (v := 2) hx hb dX2_faultOfBit_39 (by decide) ?_
        exact z_iret hx hb hr hlk hw dX2_faultOfBit_40
      · have hw := hw.2 c_5
        refine lv_iconst (v := 0) hx hb dX2_faultOfBit_35 (by decide) ?_
        refine lv_goto (tgt := 40) hx hb dX2_faultOfBit_36 (by decide) ?_
        exact z_iret hx hb hr hlk hw dX2_faultOfBit_40
    · have hw := hw.2 c_3
      refine lv_iconst (v := 3) hx hb dX2_faultOfBit_17 (by decide) ?_
      exact z_iret hx hb hr hlk hw dX2_faultOfBit_18
  · have hw := hw.2 c_2
    refine lv_iconst (v := 1) hx hb dX2_faultOfBit_7 (by decide) ?_
    exact z_iret hx hb hr hlk hw dX2_faultOfBit_8
def wX2_bitAt (f_kind : Int32) (f_cells : Nat → Int64) (p1 : Int32) (post : Int32 → Prop) : Prop := (wX2_bitsOfCell f_kind (fun r_1 : Int32 => ((¬ r_1 = 0 ∧ (vp_in (p1 / r_1) 40 ∧ (¬ r_1 = 0 ∧ post ((((zlushr (f_cells (p1 / r_1).toNatClampNeg) (p1 - p1 / r_1 * r_1))).toInt32) &&& (1 : Int32))))))))
abbrev rX2_bitAt : Room := { frames := 1, cells := 0, slots := 0, locals := 20 }
theorem vX2_bitAt : yX2_bitAt.cls = RX2 ∧ yX2_bitAt.cls ≠ "java/lang/invoke/MethodHandle" ∧ yX2_bitAt.cls ≠ "java/lang/invoke/VarHandle" ∧ (parseMethodDescriptor yX2_bitAt.desc).map (fun d => d.parameters.length) = some 1 := by decide +kernel
set_option maxHeartbeats 4000000 in
set_option maxRecDepth 100000 in
theorem kX2_bitAt (l : Launch) (D : va_G) (cA : Nat → ClassId) (a0 a_cells : Nat) (f_kind : Int32) (f_length : Int32) (f_cells : Nat → Int64) (p1 : Int32) (post : Int32 → Prop) (h : wX2_bitAt f_kind f_cells p1 post) : Met l yX2_bitAt wsX2_bitAt rX2_bitAt (zPr D cA [.ref a0, .int p1] [(a0, .inr (1, [.ref a_cells, .int f_kind, .int f_length])), (a_cells, .inl (cA 1, 40, .inr (.inl f_cells)))]) (vp_Si post) 0 0 (fun _ => False) := by
  refine z_ro (cc := cX2_bitAt) (maxL := 3) (ret := (some .int)) (by decide) rfl (Nat.le_of_ble_eq_true rfl) ?_
  intro p e s m args below meth c ls hx hb hr hlk hml hown hts hK hP hl
  have hown : s.vm.findClass RX2 = some m.cls := hown
  have hl : lv_has ls 3 [(0, .ref a0), (1, .int p1)] := hl
  have hw := h
  unfold wX2_bitAt at hw
  have iwX2 : ∀ w ∈ wsX20, w ∈ wsX2_bitAt := fun w h9 => List.mem_cons_of_mem _ (List.mem_append_right _ h9)
  have kf9 := hts (.fieldLink RX2 9 "ExcessTree$Sheet" "cells" "[J") (by decide +kernel)
  refine lv_aload_n hx hb dX2_bitAt_0 rfl (lv_at hl 0 rfl) ?_
  refine z_ri [] [] ⟨hx, hb, hml, hown, hts⟩ (kX2_bitsOfCell l D cA a0 a_cells f_kind f_length f_cells _ hw) (cwV 0 hts gX2_bitAt_X2_bitsOfCell rfl rfl rfl vX2_bitsOfCell ⟨Nat.le_of_ble_eq_true rfl, Nat.le_of_ble_eq_true rfl⟩) hK (hP.sub [0, 1] rfl) (va_recv hK.1 (hP.sub (ws' := [(a0, .inr (1, [.ref a_cells, .int f_kind, .int f_length]))]) [0] rfl) (ci := 1) (q0 := 0) rfl rfl) rfl hl.1 rfl (Nat.le_of_ble_eq_true rfl) dX2_bitAt_1 ⟨Nat.zero_le _, Nat.zero_le _⟩ (fun r_1 hw => ?_)
  refine lv_istore_n (lv' := [(2, .int r_1), (0, .ref a0), (1, .int p1)]) hx hb dX2_bitAt_4 rfl hl (by decide) rfl (fun ls hl => ?_)
  refine lv_aload_n hx hb dX2_bitAt_5 rfl (lv_at hl 1 rfl) ?_
  refine va_get (D := D) (ci := 1) (v := .ref a_cells) (C := RX2) (T := TX2) (N := 3) hx hb hts iwX2 hown hK.1 hP 0 rfl rfl 0 (by decide) kf9 (fun _ h9 => h9) rfl dX2_bitAt_6 ?_
  refine lv_iload_n hx hb dX2_bitAt_9 rfl (lv_at hl 2 rfl) ?_
  refine lv_iload_n hx hb dX2_bitAt_10 rfl (lv_at hl 0 rfl) ?_
  have hq := hw.1
  have hw := hw.2
  refine lv_idiv hx hb dX2_bitAt_11 hq ?_
  have hq := hw.1
  have hw := hw.2
  refine va_lald hx hb hK.1 hP 1 1 rfl rfl hq dX2_bitAt_12 ?_
  refine lv_iload_n hx hb dX2_bitAt_13 rfl (lv_at hl 2 rfl) ?_
  refine lv_iload_n hx hb dX2_bitAt_14 rfl (lv_at hl 0 rfl) ?_
  have hq := hw.1
  have hw := hw.2
  refine lv_irem hx hb dX2_bitAt_15 hq ?_
  refine lv_lushr (v := (zlushr (f_cells (p1 / r_1).toNatClampNeg) (p1 - p1 / r_1 * r_1))) hx hb dX2_bitAt_16 rfl ?_
  refine lv_l2i (v := (((zlushr (f_cells (p1 / r_1).toNatClampNeg) (p1 - p1 / r_1 * r_1))).toInt32)) hx hb dX2_bitAt_17 rfl ?_
  refine lv_iconst (v := 1) hx hb dX2_bitAt_18 (by decide) ?_
  refine lv_iand hx hb dX2_bitAt_19 ?_
  exact z_iret hx hb hr hlk hw dX2_bitAt_20
def wX2_putBit (f_kind : Int32) (f_cells : Nat → Int64) (p1 : Int32) (p2 : Int32) (post : (Nat → Int64) → Prop) : Prop := (wX2_bitsOfCell f_kind (fun r_1 : Int32 => ((¬ r_1 = 0 ∧ (∀ x_2 : Int32, x_2 = (p1 / r_1) → (wX2_bitsOfCell f_kind (fun r_3 : Int32 => ((¬ r_3 = 0 ∧ (∀ x_4 : Int64, x_4 = (zlshl (1 : Int64) (p1 - p1 / r_3 * r_3)) → ((¬ p2 = (1 : Int32) → (vp_in x_2 40 ∧ (wX2_put f_kind f_cells x_2 ((f_cells x_2.toNatClampNeg) &&& (x_4 ^^^ (-1 : Int64))) (fun u_7 : (Nat → Int64) => (post u_7))))) ∧ (p2 = (1 : Int32) → (vp_in x_2 40 ∧ (wX2_put f_kind f_cells x_2 ((f_cells x_2.toNatClampNeg) ||| x_4) (fun u_9 : (Nat → Int64) => (post u_9))))))))))))))))
abbrev rX2_putBit : Room := { frames := 1, cells := 0, slots := 0, locals := 23 }
theorem vX2_putBit : yX2_putBit.cls = RX2 ∧ yX2_putBit.cls ≠ "java/lang/invoke/MethodHandle" ∧ yX2_putBit.cls ≠ "java/lang/invoke/VarHandle" ∧ (parseMethodDescriptor yX2_putBit.desc).map (fun d => d.parameters.length) = some 2 := by decide +kernel
set_option maxHeartbeats 4000000 in
set_option maxRecDepth 100000 in
theorem kX2_putBit (l : Launch) (D : va_G) (cA : Nat → ClassId) (a0 a_cells : Nat) (f_kind : Int32) (f_length : Int32) (f_cells : Nat → Int64) (sz : Nat) (p1 : Int32) (p2 : Int32) (post : (Nat → Int64) → Prop) (h : wX2_putBit f_kind f_cells p1 p2 post) : Met l yX2_putBit wsX2_putBit rX2_putBit (zPw D cA [.ref a0, .int p1, .int p2] [(a0, .inr (1, [.ref a_cells, .int f_kind, .int f_length])), (a_cells, .inl (cA 1, 40, .inr (.inl f_cells)))] sz) (va_Qv post (zB D (va_A [(a0, .inr (1, [.ref a_cells, .int f_kind, .int f_length])), (a_cells, .inl (cA 1, 40, .inr (.inl f_cells)))] sz) (fun u : (Nat → Int64) => [(a0, .inr (1, [.ref a_cells, .int f_kind, .int f_length])), (a_cells, .inl (cA 1, 40, .inr (.inl u)))])) (va_A [(a0, .inr (1, [.ref a_cells, .int f_kind, .int f_length])), (a_cells, .inl (cA 1, 40, .inr (.inl f_cells)))] sz)) 0 0 (va_A [(a0, .inr (1, [.ref a_cells, .int f_kind, .int f_length])), (a_cells, .inl (cA 1, 40, .inr (.inl f_cells)))] sz) := by
  refine z_rw (Qc := fun A => va_Qv post (zB D A (fun u : (Nat → Int64) => [(a0, .inr (1, [.ref a_cells, .int f_kind, .int f_length])), (a_cells, .inl (cA 1, 40, .inr (.inl u)))])) A) (cc := cX2_putBit) (maxL := 6) (ret := none) (by decide) rfl (Nat.le_of_ble_eq_true rfl) ?_
  intro p e s m args below meth c ls A hx hb hr hlk hml hown hts hK hP hD hS hA hl
  have hown : s.vm.findClass RX2 = some m.cls := hown
  have hl : lv_has ls 6 [(0, .ref a0), (1, .int p1), (2, .int p2)] := hl
  have hw := h
  unfold wX2_putBit at hw
  have iwX2 : ∀ w ∈ wsX20, w ∈ wsX2_putBit := fun w h9 => List.mem_cons_of_mem _ (List.mem_append_right _ h9)
  have kf9 := hts (.fieldLink RX2 9 "ExcessTree$Sheet" "cells" "[J") (by decide +kernel)
  have kl30 := hts (.constantLong RX2 30 (-1)) (by decide +kernel)
  refine lv_iload_n hx hb dX2_putBit_0 rfl (lv_at hl 1 rfl) ?_
  refine lv_aload_n hx hb dX2_putBit_1 rfl (lv_at hl 0 rfl) ?_
  refine z_ri [] [.int p1] ⟨hx, hb, hml, hown, hts⟩ (kX2_bitsOfCell l D cA a0 a_cells f_kind f_length f_cells _ hw) (cwV 0 hts gX2_putBit_X2_bitsOfCell rfl rfl rfl vX2_bitsOfCell ⟨Nat.le_of_ble_eq_true rfl, Nat.le_of_ble_eq_true rfl⟩) hK (hP.sub [0, 1] rfl) (va_recv hK.1 (hP.sub (ws' := [(a0, .inr (1, [.ref a_cells, .int f_kind, .int f_length]))]) [0] rfl) (ci := 1) (q0 := 0) rfl rfl) rfl hl.1 rfl (Nat.le_of_ble_eq_true rfl) dX2_putBit_2 ⟨Nat.zero_le _, Nat.zero_le _⟩ (fun r_1 hw => ?_)
  have hq := hw.1
  have hw := hw.2
  refine lv_idiv hx hb dX2_putBit_5 hq ?_
  refine lv_topi (fun x_2 ex_2 => ?_)
  have hw := hw x_2 ex_2
  refine lv_istore_n (lv' := [(3, .int x_2), (0, .ref a0), (1, .int p1), (2, .int p2)]) hx hb dX2_putBit_6 rfl hl (by decide) rfl (fun ls hl => ?_)
  refine lv_lconst (v := 1) hx hb dX2_putBit_7 (by decide) ?_
  refine lv_iload_n hx hb dX2_putBit_8 rfl (lv_at hl 2 rfl) ?_
  refine lv_aload_n hx hb dX2_putBit_9 rfl (lv_at hl 1 rfl) ?_
  refine z_ri [] [.int p1, .long (1 : Int64)] ⟨hx, hb, hml, hown, hts⟩ (kX2_bitsOfCell l D cA a0 a_cells f_kind f_length f_cells _ hw) (cwV 0 hts gX2_putBit_X2_bitsOfCell rfl rfl rfl vX2_bitsOfCell ⟨Nat.le_of_ble_eq_true rfl, Nat.le_of_ble_eq_true rfl⟩) hK (hP.sub [0, 1] rfl) (va_recv hK.1 (hP.sub (ws' := [(a0, .inr (1, [.ref a_cells, .int f_kind, .int f_length]))]) [0] rfl) (ci := 1) (q0 := 0) rfl rfl) rfl hl.1 rfl (Nat.le_of_ble_eq_true rfl) dX2_putBit_10 ⟨Nat.zero_le _, Nat.zero_le _⟩ (fun r_3 hw => ?_)
  have hq := hw.1
  have hw := hw.2
  refine lv_irem hx hb dX2_putBit_13 hq ?_
  refine lv_lshl (v := (zlshl (1 : Int64) (p1 - p1 / r_3 * r_3))) hx hb dX2_putBit_14 rfl ?_
  refine lv_topl (fun x_4 ex_4 => ?_)
  have hw := hw x_4 ex_4
  refine lv_lstore (lv' := [(4, .long x_4), (3, .int x_2), (0, .ref a0), (1, .int p1), (2, .int p2)]) hx hb dX2_putBit_15 hl (by decide) rfl (fun ls hl => ?_)
  refine lv_aload_n hx hb dX2_putBit_17 rfl (lv_at hl 2 rfl) ?_
  refine lv_iload_n hx hb dX2_putBit_18 rfl (lv_at hl 1 rfl) ?_
  refine lv_iload_n hx hb dX2_putBit_19 rfl (lv_at hl 4 rfl) ?_
  refine lv_iconst (v := 1) hx hb dX2_putBit_20 (by decide) ?_
  refine lv_icmp_ne (tgt := 36) hx hb dX2_putBit_21 (by decide) (fun c_5 => ?_) (fun c_5 => ?_)
  · have hw := hw.1 c_5
    refine lv_aload_n hx hb dX2_putBit_36 rfl (lv_at hl 2 rfl) ?_
    refine va_get (D := D) (ci := 1) (v := .ref a_cells) (C := RX2) (T := TX2) (N := 3) hx hb hts iwX2 hown hK.1 hP 0 rfl rfl 0 (by decide) kf9 (fun _ h9 => h9) rfl dX2_putBit_37 ?_
    refine lv_iload_n hx hb dX2_putBit_40 rfl (lv_at hl 1 rfl) ?_
    have hq := hw.1
    have hw := hw.2
    refine va_lald hx hb hK.1 hP 1 1 rfl rfl hq dX2_putBit_41 ?_
    refine lv_lload hx hb dX2_putBit_42 (lv_at hl 0 rfl) ?_
    refine lv_ldc2 (v := -1) hx hb hown kl30 dX2_putBit_44 ?_
    refine lv_lxor hx hb dX2_putBit_47 ?_
    refine lv_land hx hb dX2_putBit_48 ?_
    refine z_wv (wr := []) (wn := (fun u : (Nat → Int64) => [(a0, .inr (1, [.ref a_cells, .int f_kind, .int f_length])), (a_cells, .inl (cA 1, 40, .inr (.inl u)))])) [.int x_2, .long ((f_cells x_2.toNatClampNeg) &&& (x_4 ^^^ (-1 : Int64)))] [] ⟨hx, hb, hml, hown, hts⟩ (kX2_put l D cA a0 a_cells f_kind f_length f_cells _ x_2 ((f_cells x_2.toNatClampNeg) &&& (x_4 ^^^ (-1 : Int64))) _ hw) (cwV 2 hts gX2_putBit_X2_put rfl rfl rfl vX2_put ⟨Nat.le_of_ble_eq_true rfl, Nat.le_of_ble_eq_true rfl⟩) hK hP hD hS hA [0, 1] [] [0, 1] rfl (by decide) rfl (by decide) (by decide) (fun u => rfl) (by decide) (va_recv hK.1 (hP.sub (ws' := [(a0, .inr (1, [.ref a_cells, .int f_kind, .int f_length]))]) [0] rfl) (ci := 1) (q0 := 0) rfl rfl) rfl hl.1 rfl (Nat.le_of_ble_eq_true rfl) dX2_putBit_49 ⟨Nat.zero_le _, Nat.zero_le _⟩ (fun u_7 H locs hw hP hD hS => ?_)
    have hP : va_P D vwCl [(a0, .inr (1, [.ref a_cells, .int f_kind, .int f_length])), (a_cells, .inl (cA 1, 40, .inr (.inl u_7)))] H := hP
    have hD : va_D A [(a0, .inr (1, [.ref a_cells, .int f_kind, .int f_length])), (a_cells, .inl (cA 1, 40, .inr (.inl u_7)))] := hD
    exact z_vretw u_7 hx hb hr hlk hw hP hD hS dX2_putBit_52
  · have hw := hw.2 c_5
    refine lv_aload_n hx hb dX2_putBit_24 rfl (lv_at hl 2 rfl) ?_
    refine va_get (D := D) (ci := 1) (v := .ref a_cells) (C := RX2) (T := TX2) (N := 3) hx hb hts iwX2 hown hK.1 hP 0 rfl rfl 0 (by decide) kf9 (fun _ h9 => h9) rfl dX2_putBit_25 ?_
    refine lv_iload_n hx hb dX2_putBit_28 rfl (lv_at hl 1 rfl) ?_
    have hq := hw.1
    have hw := hw.2
    refine va_lald hx hb hK.1 hP 1 1 rfl rfl hq dX2_putBit_29 ?_
    refine lv_lload hx hb dX2_putBit_30 (lv_at hl 0 rfl) ?_
    refine lv_lor hx hb dX2_putBit_32 ?_
    refine lv_goto (tgt := 49) hx hb dX2_putBit_33 (by decide) ?_
    refine z_wv (wr := []) (wn := (fun u : (Nat → Int64) => [(a0, .inr (1, [.ref a_cells, .int f_kind, .int f_length])), (a_cells, .inl (cA 1, 40, .inr (.inl u)))])) [.int x_2, .long ((f_cells x_2.toNatClampNeg) ||| x_4)] [] ⟨hx, hb, hml, hown, hts⟩ (kX2_put l D cA a0 a_cells f_kind f_length f_cells _ x_2 ((f_cells x_2.toNatClampNeg) ||| x_4) _ hw) (cwV 2 hts gX2_putBit_X2_put rfl rfl rfl vX2_put ⟨Nat.le_of_ble_eq_true rfl, Nat.le_of_ble_eq_true rfl⟩) hK hP hD hS hA [0, 1] [] [0, 1] rfl (by decide) rfl (by decide) (by decide) (fun u => rfl) (by decide) (va_recv hK.1 (hP.sub (ws' := [(a0, .inr (1, [.ref a_cells, .int f_kind, .int f_length]))]) [0] rfl) (ci := 1) (q0 := 0) rfl rfl) rfl hl.1 rfl (Nat.le_of_ble_eq_true rfl) dX2_putBit_49 ⟨Nat.zero_le _, Nat.zero_le _⟩ (fun u_9 H locs hw hP hD hS => ?_)
    have hP : va_P D vwCl [(a0, .inr (1, [.ref a_cells, .int f_kind, .int f_length])), (a_cells, .inl (cA 1, 40, .inr (.inl u_9)))] H := hP
    have hD : va_D A [(a0, .inr (1, [.ref a_cells, .int f_kind, .int f_length])), (a_cells, .inl (cA 1, 40, .inr (.inl u_9)))] := hD
    exact z_vretw u_9 hx hb hr hlk hw hP hD hS dX2_putBit_52
