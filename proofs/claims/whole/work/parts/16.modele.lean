/-! written by wip/whole/gen.py -/
def wX6_excessAt (f_state : Nat → Int32) (p1 : Int32) (post : Int32 → Prop) : Prop := (∃ (I_1 : Int32 → Int32 → Prop) (mu_1 : Int32 → Int32 → Nat), I_1 (0 : Int32) (0 : Int32) ∧ ∀ (x_2 : Int32) (x_3 : Int32), I_1 x_2 x_3 → ((p1 ≤ x_3 → post x_2) ∧ (¬ p1 ≤ x_3 → (vp_in x_3 579 ∧ ((¬ (f_state x_3.toNatClampNeg) = (1 : Int32) → (∀ x_6 : Int32, x_6 = (x_2 + (-1 : Int32)) → (∀ x_7 : Int32, x_7 = x_3 + (1) → (I_1 x_6 x_7 ∧ mu_1 x_6 x_7 < mu_1 x_2 x_3)))) ∧ ((f_state x_3.toNatClampNeg) = (1 : Int32) → (∀ x_8 : Int32, x_8 = (x_2 + (1 : Int32)) → (∀ x_9 : Int32, x_9 = x_3 + (1) → (I_1 x_8 x_9 ∧ mu_1 x_8 x_9 < mu_1 x_2 x_3)))))))))
abbrev rX6_excessAt : Room := { frames := 0, cells := 0, slots := 0, locals := 0 }
theorem vX6_excessAt : yX6_excessAt.cls = RX6 ∧ yX6_excessAt.cls ≠ "java/lang/invoke/MethodHandle" ∧ yX6_excessAt.cls ≠ "java/lang/invoke/VarHandle" ∧ (parseMethodDescriptor yX6_excessAt.desc).map (fun d => d.parameters.length) = some 1 := by decide +kernel
set_option maxHeartbeats 4000000 in
set_option maxRecDepth 100000 in
theorem kX6_excessAt (l : Launch) (D : va_G) (cA : Nat → ClassId) (a0 a_state a_readPage a_tape a_cutRow a_cutWeights a_isKept a_lanes a_lengths a_cells : Nat) (f_taped : Int32) (f_fault : Int32) (f_broken : Int32) (f_brokenAt : Int32) (f_spot : Int32) (f_here : Int32) (f_token : Int32) (f_value : Int32) (f_torn : Int32) (f_state : Nat → Int32) (f_readPage : Nat → Int32) (f_tape : Nat → Int32) (f_cutRow : Nat → Int32) (f_cutWeights : Nat → Int32) (f_isKept : Nat → Int32) (f_lanes : Nat → Int32) (f_lengths : Nat → Int32) (f_cells : Nat → Int64) (p1 : Int32) (post : Int32 → Prop) (h : wX6_excessAt f_state p1 post) : Met l yX6_excessAt wsX6_excessAt rX6_excessAt (zPr D cA [.ref a0, .int p1] [(a0, .inr (5, [.ref a_state, .ref a_readPage, .ref a_tape, .int f_taped, .int f_fault, .int f_broken, .int f_brokenAt, .int f_spot, .int f_here, .int f_token, .int f_value, .ref a_cutRow, .ref a_cutWeights, .ref a_isKept, .ref a_lanes, .ref a_lengths, .ref a_cells, .int f_torn])), (a_state, .inl (cA 0, 579, .inl f_state)), (a_readPage, .inl (cA 0, 193, .inl f_readPage)), (a_tape, .inl (cA 0, 160, .inl f_tape)), (a_cutRow, .inl (cA 0, 128, .inl f_cutRow)), (a_cutWeights, .inl (cA 0, 64, .inl f_cutWeights)), (a_isKept, .inl (cA 3, 2, .inl f_isKept)), (a_lanes, .inl (cA 0, 4, .inl f_lanes)), (a_lengths, .inl (cA 0, 4, .inl f_lengths)), (a_cells, .inl (cA 1, 160, .inr (.inl f_cells)))]) (vp_Si post) 0 0 (fun _ => False) := by
  refine z_ro (cc := cX6_excessAt) (maxL := 4) (ret := (some .int)) (by decide) rfl (Nat.le_of_ble_eq_true rfl) ?_
  intro p e s m args below meth c ls hx hb hr hlk hml hown hts hK hP hl
  have hown : s.vm.findClass RX6 = some m.cls := hown
  have hl : lv_has ls 4 [(0, .ref a0), (1, .int p1)] := hl
  have hw := h
  unfold wX6_excessAt at hw
  have iwX6 : ∀ w ∈ wsX60, w ∈ wsX6_excessAt := fun w h9 => List.mem_cons_of_mem _ (List.mem_append_right _ h9)
  have kf7 := hts (.fieldLink RX6 7 "ExcessTreeModel" "state" "[I") (by decide +kernel)
  refine lv_iconst (v := 0) hx hb dX6_excessAt_0 (by decide) ?_
  refine lv_istore_n (lv' := [(2, .int (0 : Int32)), (0, .ref a0), (1, .int p1)]) hx hb dX6_excessAt_1 rfl hl (by decide) rfl (fun ls hl => ?_)
  refine lv_iconst (v := 0) hx hb dX6_excessAt_2 (by decide) ?_
  refine lv_istore_n (lv' := [(3, .int (0 : Int32)), (2, .int (0 : Int32)), (0, .ref a0), (1, .int p1)]) hx hb dX6_excessAt_3 rfl hl (by decide) rfl (fun ls hl => ?_)
  obtain ⟨I_1, mu_1, hI_1, hw⟩ := hw
  have lp_1 : ∀ (nn : Nat) (x_2 : Int32) (x_3 : Int32) (ls : Array Slot), mu_1 x_2 x_3 < nn → I_1 x_2 x_3 → lv_has ls 4 [(0, .ref a0), (1, .int p1), (2, .int x_2), (3, .int x_3)] → W p l e rX6_excessAt s m args below meth c s.heap [] 0 0 (MQ below (vp_Si post) args s 0 0 (fun _ => False)) (F0 m 4 ls []) := by
    intro nn
    induction nn with
    | zero => exact fun _ _ _ h0 => absurd h0 (Nat.not_lt_zero _)
    | succ nn ih_1 =>
      intro x_2 x_3 ls hmu_1 hI_1 hl
      have hw := hw x_2 x_3 hI_1
      refine lv_iload_n hx hb dX6_excessAt_4 rfl (lv_at hl 3 rfl) ?_
      refine lv_iload_n hx hb dX6_excessAt_5 rfl (lv_at hl 1 rfl) ?_
      refine lv_icmp_ge (tgt := 33) hx hb dX6_excessAt_6 (by decide) (fun c_4 => ?_) (fun c_4 => ?_)
      · have hw := hw.1 c_4
        refine lv_iload_n hx hb dX6_excessAt_33 rfl (lv_at hl 2 rfl) ?_
        exact z_iret hx hb hr hlk hw dX6_excessAt_34
      · have hw := hw.2 c_4
        refine lv_iload_n hx hb dX6_excessAt_9 rfl (lv_at hl 2 rfl) ?_
        refine lv_aload_n hx hb dX6_excessAt_10 rfl (lv_at hl 0 rfl) ?_
        refine va_get (D := D) (ci := 5) (v := .ref a_state) (C := RX6) (T := TX6) (N := 18) hx hb hts iwX6 hown hK.1 hP 0 rfl rfl 0 (by decide) kf7 (fun _ h9 => h9) rfl dX6_excessAt_11 ?_
        refine lv_iload_n hx hb dX6_excessAt_14 rfl (lv_at hl 3 rfl) ?_
        have hq := hw.1
        have hw := hw.2
        refine va_iald hx hb hK.1 hP 1 0 rfl rfl hq dX6_excessAt_15 ?_
        refine lv_iconst (v := 1) hx hb dX6_excessAt_16 (by decide) ?_
        refine lv_icmp_ne (tgt := 24) hx hb dX6_excessAt_17 (by decide) (fun c_5 => ?_) (fun c_5 => ?_)
        · have hw := hw.1 c_5
          refine lv_iconst (v := -1) hx hb dX6_excessAt_24 (by decide) ?_
          refine lv_iadd hx hb dX6_excessAt_25 ?_
          refine lv_topi (fun x_6 ex_6 => ?_)
          have hw := hw x_6 ex_6
          refine lv_istore_n (lv' := [(2, .int x_6), (0, .ref a0), (1, .int p1), (3, .int x_3)]) hx hb dX6_excessAt_26 rfl hl (by decide) rfl (fun ls hl => ?_)
          obtain ⟨x_7, ex_7⟩ : ∃ y : Int32, y = x_3 + (1) := ⟨_, rfl⟩
          have hw := hw x_7 ex_7
          refine lv_iinc (v := x_7) (lv' := [(3, .int x_7), (2, .int x_6), (0, .ref a0), (1, .int p1)]) hx hb dX6_excessAt_27 hl (k := 3) rfl (by rw [ex_7]; rfl) (by decide) rfl (fun ls hl => ?_)
          refine lv_goto (tgt := 4) hx hb dX6_excessAt_30 (by decide) ?_
          exact ih_1 x_6 x_7 ls (Nat.lt_of_lt_of_le hw.2 (Nat.le_of_lt_succ hmu_1)) hw.1 (lv_sub hl [2, 3, 1, 0] rfl)
        · have hw := hw.2 c_5
          refine lv_iconst (v := 1) hx hb dX6_excessAt_20 (by decide) ?_
          refine lv_goto (tgt := 25) hx hb dX6_excessAt_21 (by decide) ?_
          refine lv_iadd hx hb dX6_excessAt_25 ?_
          refine lv_topi (fun x_8 ex_8 => ?_)
          have hw := hw x_8 ex_8
          refine lv_istore_n (lv' := [(2, .int x_8), (0, .ref a0), (1, .int p1), (3, .int x_3)]) hx hb dX6_excessAt_26 rfl hl (by decide) rfl (fun ls hl => ?_)
          obtain ⟨x_9, ex_9⟩ : ∃ y : Int32, y = x_3 + (1) := ⟨_, rfl⟩
          have hw := hw x_9 ex_9
          refine lv_iinc (v := x_9) (lv' := [(3, .int x_9), (2, .int x_8), (0, .ref a0), (1, .int p1)]) hx hb dX6_excessAt_27 hl (k := 3) rfl (by rw [ex_9]; rfl) (by decide) rfl (fun ls hl => ?_)
          refine lv_goto (tgt := 4) hx hb dX6_excessAt_30 (by decide) ?_
          exact ih_1 x_8 x_9 ls (Nat.lt_of_lt_of_le hw.2 (Nat.le_of_lt_succ hmu_1)) hw.1 (lv_sub hl [2, 3, 1, 0] rfl)
  exact lp_1 (mu_1 (0 : Int32) (0 : Int32) + 1) (0 : Int32) (0 : Int32) ls (Nat.lt_succ_self _) hI_1 (lv_sub hl [2, 3, 1, 0] rfl)
def wX6_opensAt (f_state : Nat → Int32) (p1 : Int32) (post : Int32 → Prop) : Prop := (wX6_excessAt f_state p1 (fun r_1 : Int32 => (post ((p1 + r_1) / (2 : Int32)))))
abbrev rX6_opensAt : Room := { frames := 1, cells := 0, slots := 0, locals := 23 }
theorem vX6_opensAt : yX6_opensAt.cls = RX6 ∧ yX6_opensAt.cls ≠ "java/lang/invoke/MethodHandle" ∧ yX6_opensAt.cls ≠ "java/lang/invoke/VarHandle" ∧ (parseMethodDescriptor yX6_opensAt.desc).map (fun d => d.parameters.length) = some 1 := by decide +kernel
set_option maxHeartbeats 4000000 in
set_option maxRecDepth 100000 in
theorem kX6_opensAt (l : Launch) (D : va_G) (cA : Nat → ClassId) (a0 a_state a_readPage a_tape a_cutRow a_cutWeights a_isKept a_lanes a_lengths a_cells : Nat) (f_taped : Int32) (f_fault : Int32) (f_broken : Int32) (f_brokenAt : Int32) (f_spot : Int32) (f_here : Int32) (f_token : Int32) (f_value : Int32) (f_torn : Int32) (f_state : Nat → Int32) (f_readPage : Nat → Int32) (f_tape : Nat → Int32) (f_cutRow : Nat → Int32) (f_cutWeights : Nat → Int32) (f_isKept : Nat → Int32) (f_lanes : Nat → Int32) (f_lengths : Nat → Int32) (f_cells : Nat → Int64) (p1 : Int32) (post : Int32 → Prop) (h : wX6_opensAt f_state p1 post) : Met l yX6_opensAt wsX6_opensAt rX6_opensAt (zPr D cA [.ref a0, .int p1] [(a0, .inr (5, [.ref a_state, .ref a_readPage, .ref a_tape, .int f_taped, .int f_fault, .int f_broken, .int f_brokenAt, .int f_spot, .int f_here, .int f_token, .int f_value, .ref a_cutRow, .ref a_cutWeights, .ref a_isKept, .ref a_lanes, .ref a_lengths, .ref a_cells, .int f_torn])), (a_state, .inl (cA 0, 579, .inl f_state)), (a_readPage, .inl (cA 0, 193, .inl f_readPage)), (a_tape, .inl (cA 0, 160, .inl f_tape)), (a_cutRow, .inl (cA 0, 128, .inl f_cutRow)), (a_cutWeights, .inl (cA 0, 64, .inl f_cutWeights)), (a_isKept, .inl (cA 3, 2, .inl f_isKept)), (a_lanes, .inl (cA 0, 4, .inl f_lanes)), (a_lengths, .inl (cA 0, 4, .inl f_lengths)), (a_cells, .inl (cA 1, 160, .inr (.inl f_cells)))]) (vp_Si post) 0 0 (fun _ => False) := by
  refine z_ro (cc := cX6_opensAt) (maxL := 2) (ret := (some .int)) (by decide) rfl (Nat.le_of_ble_eq_true rfl) ?_
  intro p e s m args below meth c ls hx hb hr hlk hml hown hts hK hP hl
  have hown : s.vm.findClass RX6 = some m.cls := hown
  have hl : lv_has ls 2 [(0, .ref a0), (1, .int p1)] := hl
  have hw := h
  unfold wX6_opensAt at hw
  refine lv_iload_n hx hb dX6_opensAt_0 rfl (lv_at hl 1 rfl) ?_
  refine lv_aload_n hx hb dX6_opensAt_1 rfl (lv_at hl 0 rfl) ?_
  refine lv_iload_n hx hb dX6_opensAt_2 rfl (lv_at hl 1 rfl) ?_
  refine z_ri [.int p1] [.int p1] ⟨hx, hb, hml, hown, hts⟩ (kX6_excessAt l D cA a0 a_state a_readPage a_tape a_cutRow a_cutWeights a_isKept a_lanes a_lengths a_cells f_taped f_fault f_broken f_brokenAt f_spot f_here f_token f_value f_torn f_state f_readPage f_tape f_cutRow f_cutWeights f_isKept f_lanes f_lengths f_cells p1 _ hw) (cwV 1 hts gX6_opensAt_X6_excessAt rfl rfl rfl vX6_excessAt ⟨Nat.le_of_ble_eq_true rfl, Nat.le_of_ble_eq_true rfl⟩) hK (hP.sub [0, 1, 2, 3, 4, 5, 6, 7, 8, 9] rfl) (va_recv hK.1 (hP.sub (ws' := [(a0, .inr (5, [.ref a_state, .ref a_readPage, .ref a_tape, .int f_taped, .int f_fault, .int f_broken, .int f_brokenAt, .int f_spot, .int f_here, .int f_token, .int f_value, .ref a_cutRow, .ref a_cutWeights, .ref a_isKept, .ref a_lanes, .ref a_lengths, .ref a_cells, .int f_torn]))]) [0] rfl) (ci := 5) (q0 := 0) rfl rfl) rfl hl.1 rfl (Nat.le_of_ble_eq_true rfl) dX6_opensAt_3 ⟨Nat.zero_le _, Nat.zero_le _⟩ (fun r_1 hw => ?_)
  refine lv_iadd hx hb dX6_opensAt_6 ?_
  refine lv_iconst (v := 2) hx hb dX6_opensAt_7 (by decide) ?_
  refine lv_idiv hx hb dX6_opensAt_8 (by decide) ?_
  exact z_iret hx hb hr hlk hw dX6_opensAt_9
def wX6_openOf (f_state : Nat → Int32) (p1 : Int32) (post : Int32 → Prop) : Prop := (∃ (I_1 : Int32 → Int32 → Prop) (mu_1 : Int32 → Int32 → Nat), I_1 (-1 : Int32) p1 ∧ ∀ (x_2 : Int32) (x_3 : Int32), I_1 x_2 x_3 → ((x_3 < 0 → post x_2) ∧ (¬ x_3 < 0 → (∀ x_5 : Int32, x_5 = x_2 + (1) → (∃ (I_6 : Int32 → Prop) (mu_6 : Int32 → Nat), I_6 x_5 ∧ ∀ (x_7 : Int32), I_6 x_7 → (vp_in x_7 579 ∧ ((¬ (f_state x_7.toNatClampNeg) = 0 → (∀ x_9 : Int32, x_9 = x_3 + (-1) → (I_1 x_7 x_9 ∧ mu_1 x_7 x_9 < mu_1 x_2 x_3))) ∧ ((f_state x_7.toNatClampNeg) = 0 → (∀ x_10 : Int32, x_10 = x_7 + (1) → (I_6 x_10 ∧ mu_6 x_10 < mu_6 x_7))))))))))
abbrev rX6_openOf : Room := { frames := 0, cells := 0, slots := 0, locals := 0 }
theorem vX6_openOf : yX6_openOf.cls = RX6 ∧ yX6_openOf.cls ≠ "java/lang/invoke/MethodHandle" ∧ yX6_openOf.cls ≠ "java/lang/invoke/VarHandle" ∧ (parseMethodDescriptor yX6_openOf.desc).map (fun d => d.parameters.length) = some 1 := by decide +kernel
set_option maxHeartbeats 4000000 in
set_option maxRecDepth 100000 in
theorem kX6_openOf (l : Launch) (D : va_G) (cA : Nat → ClassId) (a0 a_state a_readPage a_tape a_cutRow a_cutWeights a_isKept a_lanes a_lengths a_cells : Nat) (f_taped : Int32) (f_fault : Int32) (f_broken : Int32) (f_brokenAt : Int32) (f_spot : Int32) (f_here : Int32) (f_token : Int32) (f_value : Int32) (f_torn : Int32) (f_state : Nat → Int32) (f_readPage : Nat → Int32) (f_tape : Nat → Int32) (f_cutRow : Nat → Int32) (f_cutWeights : Nat → Int32) (f_isKept : Nat → Int32) (f_lanes : Nat → Int32) (f_lengths : Nat → Int32) (f_cells : Nat → Int64) (p1 : Int32) (post : Int32 → Prop) (h : wX6_openOf f_state p1 post) : Met l yX6_openOf wsX6_openOf rX6_openOf (zPr D cA [.ref a0, .int p1] [(a0, .inr (5, [.ref a_state, .ref a_readPage, .ref a_tape, .int f_taped, .int f_fault, .int f_broken, .int f_brokenAt, .int f_spot, .int f_here, .int f_token, .int f_value, .ref a_cutRow, .ref a_cutWeights, .ref a_isKept, .ref a_lanes, .ref a_lengths, .ref a_cells, .int f_torn])), (a_state, .inl (cA 0, 579, .inl f_state)), (a_readPage, .inl (cA 0, 193, .inl f_readPage)), (a_tape, .inl (cA 0, 160, .inl f_tape)), (a_cutRow, .inl (cA 0, 128, .inl f_cutRow)), (a_cutWeights, .inl (cA 0, 64, .inl f_cutWeights)), (a_isKept, .inl (cA 3, 2, .inl f_isKept)), (a_lanes, .inl (cA 0, 4, .inl f_lanes)), (a_lengths, .inl (cA 0, 4, .inl f_lengths)), (a_cells, .inl (cA 1, 160, .inr (.inl f_cells)))]) (vp_Si post) 0 0 (fun _ => False) := by
  refine z_ro (cc := cX6_openOf) (maxL := 4) (ret := (some .int)) (by decide) rfl (Nat.le_of_ble_eq_true rfl) ?_
  intro p e s m args below meth c ls hx hb hr hlk hml hown hts hK hP hl
  have hown : s.vm.findClass RX6 = some m.cls := hown
  have hl : lv_has ls 4 [(0, .ref a0), (1, .int p1)] := hl
  have hw := h
  unfold wX6_openOf at hw
  have iwX6 : ∀ w ∈ wsX60, w ∈ wsX6_openOf := fun w h9 => List.mem_cons_of_mem _ (List.mem_append_right _ h9)
  have kf7 := hts (.fieldLink RX6 7 "ExcessTreeModel" "state" "[I") (by decide +kernel)
  refine lv_iconst (v := -1) hx hb dX6_openOf_0 (by decide) ?_
  refine lv_istore_n (lv' := [(2, .int (-1 : Int32)), (0, .ref a0), (1, .int p1)]) hx hb dX6_openOf_1 rfl hl (by decide) rfl (fun ls hl => ?_)
  refine lv_iload_n hx hb dX6_openOf_2 rfl (lv_at hl 2 rfl) ?_
  refine lv_istore_n (lv' := [(3, .int p1), (2, .int (-1 : Int32)), (0, .ref a0), (1, .int p1)]) hx hb dX6_openOf_3 rfl hl (by decide) rfl (fun ls hl => ?_)
  obtain ⟨I_1, mu_1, hI_1, hw⟩ := hw
  have lp_1 : ∀ (nn : Nat) (x_2 : Int32) (x_3 : Int32) (ls : Array Slot), mu_1 x_2 x_3 < nn → I_1 x_2 x_3 → lv_has ls 4 [(0, .ref a0), (2, .int x_2), (3, .int x_3)] → W p l e rX6_openOf s m args below meth c s.heap [] 0 0 (MQ below (vp_Si post) args s 0 0 (fun _ => False)) (F0 m 4 ls []) := by
    intro nn
    induction nn with
    | zero => exact fun _ _ _ h0 => absurd h0 (Nat.not_lt_zero _)
    | succ nn ih_1 =>
      intro x_2 x_3 ls hmu_1 hI_1 hl
      have hw := hw x_2 x_3 hI_1
      refine lv_iload_n hx hb dX6_openOf_4 rfl (lv_at hl 2 rfl) ?_
      refine lv_if_lt (tgt := 32) hx hb dX6_openOf_5 (by decide) (fun c_4 => ?_) (fun c_4 => ?_)
      · have hw := hw.1 c_4
        refine lv_iload_n hx hb dX6_openOf_32 rfl (lv_at hl 1 rfl) ?_
        exact z_iret hx hb hr hlk hw dX6_openOf_33
      · have hw := hw.2 c_4
        obtain ⟨x_5, ex_5⟩ : ∃ y : Int32, y = x_2 + (1) := ⟨_, rfl⟩
        have hw := hw x_5 ex_5
        refine lv_iinc (v := x_5) (lv' := [(2, .int x_5), (0, .ref a0), (3, .int x_3)]) hx hb dX6_openOf_8 hl (k := 1) rfl (by rw [ex_5]; rfl) (by decide) rfl (fun ls hl => ?_)
        obtain ⟨I_6, mu_6, hI_6, hw⟩ := hw
        have lp_6 : ∀ (nn : Nat) (x_7 : Int32) (ls : Array Slot), mu_6 x_7 < nn → I_6 x_7 → lv_has ls 4 [(0, .ref a0), (2, .int x_7), (3, .int x_3)] → W p l e rX6_openOf s m args below meth c s.heap [] 0 0 (MQ below (vp_Si post) args s 0 0 (fun _ => False)) (F0 m 11 ls []) := by
          intro nn
          induction nn with
          | zero => exact fun _ _ h0 => absurd h0 (Nat.not_lt_zero _)
          | succ nn ih_6 =>
            intro x_7 ls hmu_6 hI_6 hl
            have hw := hw x_7 hI_6
            refine lv_aload_n hx hb dX6_openOf_11 rfl (lv_at hl 0 rfl) ?_
            refine va_get (D := D) (ci := 5) (v := .ref a_state) (C := RX6) (T := TX6) (N := 18) hx hb hts iwX6 hown hK.1 hP 0 rfl rfl 0 (by decide) kf7 (fun _ h9 => h9) rfl dX6_openOf_12 ?_
            refine lv_iload_n hx hb dX6_openOf_15 rfl (lv_at hl 1 rfl) ?_
            have hq := hw.1
            have hw := hw.2
            refine va_iald hx hb hK.1 hP 1 0 rfl rfl hq dX6_openOf_16 ?_
            refine lv_if_ne (tgt := 26) hx hb dX6_openOf_17 (by decide) (fun c_8 => ?_) (fun c_8 => ?_)
            · have hw := hw.1 c_8
              obtain ⟨x_9, ex_9⟩ : ∃ y : Int32, y = x_3 + (-1) := ⟨_, rfl⟩
              have hw := hw x_9 ex_9
              refine lv_iinc (v := x_9) (lv' := [(3, .int x_9), (0, .ref a0), (2, .int x_7)]) hx hb dX6_openOf_26 hl (k := 2) rfl (by rw [ex_9]; rfl) (by decide) rfl (fun ls hl => ?_)
              refine lv_goto (tgt := 4) hx hb dX6_openOf_29 (by decide) ?_
              exact ih_1 x_7 x_9 ls (Nat.lt_of_lt_of_le hw.2 (Nat.le_of_lt_succ hmu_1)) hw.1 (lv_sub hl [1, 2, 0] rfl)
            · have hw := hw.2 c_8
              obtain ⟨x_10, ex_10⟩ : ∃ y : Int32, y = x_7 + (1) := ⟨_, rfl⟩
              have hw := hw x_10 ex_10
              refine lv_iinc (v := x_10) (lv' := [(2, .int x_10), (0, .ref a0), (3, .int x_3)]) hx hb dX6_openOf_20 hl (k := 1) rfl (by rw [ex_10]; rfl) (by decide) rfl (fun ls hl => ?_)
              refine lv_goto (tgt := 11) hx hb dX6_openOf_23 (by decide) ?_
              exact ih_6 x_10 ls (Nat.lt_of_lt_of_le hw.2 (Nat.le_of_lt_succ hmu_6)) hw.1 (lv_sub hl [1, 0, 2] rfl)
        exact lp_6 (mu_6 x_5 + 1) x_5 ls (Nat.lt_succ_self _) hI_6 (lv_sub hl [1, 0, 2] rfl)
  exact lp_1 (mu_1 (-1 : Int32) p1 + 1) (-1 : Int32) p1 ls (Nat.lt_succ_self _) hI_1 (lv_sub hl [2, 1, 0] rfl)
def wX6_shutOf (f_state : Nat → Int32) (p1 : Int32) (post : Int32 → Prop) : Prop := (∃ (I_1 : Int32 → Int32 → Prop) (mu_1 : Int32 → Int32 → Nat), I_1 (1 : Int32) p1 ∧ ∀ (x_2 : Int32) (x_3 : Int32), I_1 x_2 x_3 → ((x_2 ≤ 0 → post x_3) ∧ (¬ x_2 ≤ 0 → (∀ x_5 : Int32, x_5 = x_3 + (1) → (vp_in x_5 579 ∧ ((¬ (f_state x_5.toNatClampNeg) = (1 : Int32) → (∀ x_7 : Int32, x_7 = (x_2 + (-1 : Int32)) → (I_1 x_7 x_5 ∧ mu_1 x_7 x_5 < mu_1 x_2 x_3))) ∧ ((f_state x_5.toNatClampNeg) = (1 : Int32) → (∀ x_8 : Int32, x_8 = (x_2 + (1 : Int32)) → (I_1 x_8 x_5 ∧ mu_1 x_8 x_5 < mu_1 x_2 x_3)))))))))
abbrev rX6_shutOf : Room := { frames := 0, cells := 0, slots := 0, locals := 0 }
theorem vX6_shutOf : yX6_shutOf.cls = RX6 ∧ yX6_shutOf.cls ≠ "java/lang/invoke/MethodHandle" ∧ yX6_shutOf.cls ≠ "java/lang/invoke/VarHandle" ∧ (parseMethodDescriptor yX6_shutOf.desc).map (fun d => d.parameters.length) = some 1 := by decide +kernel
set_option maxHeartbeats 4000000 in
set_option maxRecDepth 100000 in
theorem kX6_shutOf (l : Launch) (D : va_G) (cA : Nat → ClassId) (a0 a_state a_readPage a_tape a_cutRow a_cutWeights a_isKept a_lanes a_lengths a_cells : Nat) (f_taped : Int32) (f_fault : Int32) (f_broken : Int32) (f_brokenAt : Int32) (f_spot : Int32) (f_here : Int32) (f_token : Int32) (f_value : Int32) (f_torn : Int32) (f_state : Nat → Int32) (f_readPage : Nat → Int32) (f_tape : Nat → Int32) (f_cutRow : Nat → Int32) (f_cutWeights : Nat → Int32) (f_isKept : Nat → Int32) (f_lanes : Nat → Int32) (f_lengths : Nat → Int32) (f_cells : Nat → Int64) (p1 : Int32) (post : Int32 → Prop) (h : wX6_shutOf f_state p1 post) : Met l yX6_shutOf wsX6_shutOf rX6_shutOf (zPr D cA [.ref a0, .int p1] [(a0, .inr (5, [.ref a_state, .ref a_readPage, .ref a_tape, .int f_taped, .int f_fault, .int f_broken, .int f_brokenAt, .int f_spot, .int f_here, .int f_token, .int f_value, .ref a_cutRow, .ref a_cutWeights, .ref a_isKept, .ref a_lanes, .ref a_lengths, .ref a_cells, .int f_torn])), (a_state, .inl (cA 0, 579, .inl f_state)), (a_readPage, .inl (cA 0, 193, .inl f_readPage)), (a_tape, .inl (cA 0, 160, .inl f_tape)), (a_cutRow, .inl (cA 0, 128, .inl f_cutRow)), (a_cutWeights, .inl (cA 0, 64, .inl f_cutWeights)), (a_isKept, .inl (cA 3, 2, .inl f_isKept)), (a_lanes, .inl (cA 0, 4, .inl f_lanes)), (a_lengths, .inl (cA 0, 4, .inl f_lengths)), (a_cells, .inl (cA 1, 160, .inr (.inl f_cells)))]) (vp_Si post) 0 0 (fun _ => False) := by
  refine z_ro (cc := cX6_shutOf) (maxL := 4) (ret := (some .int)) (by decide) rfl (Nat.le_of_ble_eq_true rfl) ?_
  intro p e s m args below meth c ls hx hb hr hlk hml hown hts hK hP hl
  have hown : s.vm.findClass RX6 = some m.cls := hown
  have hl : lv_has ls 4 [(0, .ref a0), (1, .int p1)] := hl
  have hw := h
  unfold wX6_shutOf at hw
  have iwX6 : ∀ w ∈ wsX60, w ∈ wsX6_shutOf := fun w h9 => List.mem_cons_of_mem _ (List.mem_append_right _ h9)
  have kf7 := hts (.fieldLink RX6 7 "ExcessTreeModel" "state" "[I") (by decide +kernel)
  refine lv_iconst (v := 1) hx hb dX6_shutOf_0 (by decide) ?_
  refine lv_istore_n (lv' := [(2, .int (1 : Int32)), (0, .ref a0), (1, .int p1)]) hx hb dX6_shutOf_1 rfl hl (by decide) rfl (fun ls hl => ?_)
  refine lv_iload_n hx hb dX6_shutOf_2 rfl (lv_at hl 2 rfl) ?_
  refine lv_istore_n (lv' := [(3, .int p1), (2, .int (1 : Int32)), (0, .ref a0), (1, .int p1)]) hx hb dX6_shutOf_3 rfl hl (by decide) rfl (fun ls hl => ?_)
  obtain ⟨I_1, mu_1, hI_1, hw⟩ := hw
  have lp_1 : ∀ (nn : Nat) (x_2 : Int32) (x_3 : Int32) (ls : Array Slot), mu_1 x_2 x_3 < nn → I_1 x_2 x_3 → lv_has ls 4 [(0, .ref a0), (2, .int x_2), (3, .int x_3)] → W p l e rX6_shutOf s m args below meth c s.heap [] 0 0 (MQ below (vp_Si post) args s 0 0 (fun _ => False)) (F0 m 4 ls []) := by
    intro nn
    induction nn with
    | zero => exact fun _ _ _ h0 => absurd h0 (Nat.not_lt_zero _)
    | succ nn ih_1 =>
      intro x_2 x_3 ls hmu_1 hI_1 hl
      have hw := hw x_2 x_3 hI_1
      refine lv_iload_n hx hb dX6_shutOf_4 rfl (lv_at hl 1 rfl) ?_
      refine lv_if_le (tgt := 32) hx hb dX6_shutOf_5 (by decide) (fun c_4 => ?_) (fun c_4 => ?_)
      · have hw := hw.1 c_4
        refine lv_iload_n hx hb dX6_shutOf_32 rfl (lv_at hl 2 rfl) ?_
        exact z_iret hx hb hr hlk hw dX6_shutOf_33
      · have hw := hw.2 c_4
        obtain ⟨x_5, ex_5⟩ : ∃ y : Int32, y = x_3 + (1) := ⟨_, rfl⟩
        have hw := hw x_5 ex_5
        refine lv_iinc (v := x_5) (lv' := [(3, .int x_5), (0, .ref a0), (2, .int x_2)]) hx hb dX6_shutOf_8 hl (k := 2) rfl (by rw [ex_5]; rfl) (by decide) rfl (fun ls hl => ?_)
        refine lv_iload_n hx hb dX6_shutOf_11 rfl (lv_at hl 2 rfl) ?_
        refine lv_aload_n hx hb dX6_shutOf_12 rfl (lv_at hl 1 rfl) ?_
        refine va_get (D := D) (ci := 5) (v := .ref a_state) (C := RX6) (T := TX6) (N := 18) hx hb hts iwX6 hown hK.1 hP 0 rfl rfl 0 (by decide) kf7 (fun _ h9 => h9) rfl dX6_shutOf_13 ?_
        refine lv_iload_n hx hb dX6_shutOf_16 rfl (lv_at hl 0 rfl) ?_
        have hq := hw.1
        have hw := hw.2
        refine va_iald hx hb hK.1 hP 1 0 rfl rfl hq dX6_shutOf_17 ?_
        refine lv_iconst (v := 1) hx hb dX6_shutOf_18 (by decide) ?_
        refine lv_icmp_ne (tgt := 26) hx hb dX6_shutOf_19 (by decide) (fun c_6 => ?_) (fun c_6 => ?_)
        · have hw := hw.1 c_6
          refine lv_iconst (v := -1) hx hb dX6_shutOf_26 (by decide) ?_
          refine lv_iadd hx hb dX6_shutOf_27 ?_
          refine lv_topi (fun x_7 ex_7 => ?_)
          have hw := hw x_7 ex_7
          refine lv_istore_n (lv' := [(2, .int x_7), (3, .int x_5), (0, .ref a0)]) hx hb dX6_shutOf_28 rfl hl (by decide) rfl (fun ls hl => ?_)
          refine lv_goto (tgt := 4) hx hb dX6_shutOf_29 (by decide) ?_
          exact ih_1 x_7 x_5 ls (Nat.lt_of_lt_of_le hw.2 (Nat.le_of_lt_succ hmu_1)) hw.1 (lv_sub hl [2, 0, 1] rfl)
        · have hw := hw.2 c_6
          refine lv_iconst (v := 1) hx hb dX6_shutOf_22 (by decide) ?_
          refine lv_goto (tgt := 27) hx hb dX6_shutOf_23 (by decide) ?_
          refine lv_iadd hx hb dX6_shutOf_27 ?_
          refine lv_topi (fun x_8 ex_8 => ?_)
          have hw := hw x_8 ex_8
          refine lv_istore_n (lv' := [(2, .int x_8), (3, .int x_5), (0, .ref a0)]) hx hb dX6_shutOf_28 rfl hl (by decide) rfl (fun ls hl => ?_)
          refine lv_goto (tgt := 4) hx hb dX6_shutOf_29 (by decide) ?_
          exact ih_1 x_8 x_5 ls (Nat.lt_of_lt_of_le hw.2 (Nat.le_of_lt_succ hmu_1)) hw.1 (lv_sub hl [2, 0, 1] rfl)
  exact lp_1 (mu_1 (1 : Int32) p1 + 1) (1 : Int32) p1 ls (Nat.lt_succ_self _) hI_1 (lv_sub hl [2, 1, 0] rfl)
def wX6_depthOf (f_state : Nat → Int32) (p1 : Int32) (post : Int32 → Prop) : Prop := (wX6_openOf f_state p1 (fun r_1 : Int32 => ((wX6_excessAt f_state r_1 (fun r_2 : Int32 => (post r_2))))))
abbrev rX6_depthOf : Room := { frames := 1, cells := 0, slots := 0, locals := 23 }
theorem vX6_depthOf : yX6_depthOf.cls = RX6 ∧ yX6_depthOf.cls ≠ "java/lang/invoke/MethodHandle" ∧ yX6_depthOf.cls ≠ "java/lang/invoke/VarHandle" ∧ (parseMethodDescriptor yX6_depthOf.desc).map (fun d => d.parameters.length) = some 1 := by decide +kernel
set_option maxHeartbeats 4000000 in
set_option maxRecDepth 100000 in
theorem kX6_depthOf (l : Launch) (D : va_G) (cA : Nat → ClassId) (a0 a_state a_readPage a_tape a_cutRow a_cutWeights a_isKept a_lanes a_lengths a_cells : Nat) (f_taped : Int32) (f_fault : Int32) (f_broken : Int32) (f_brokenAt : Int32) (f_spot : Int32) (f_here : Int32) (f_token : Int32) (f_value : Int32) (f_torn : Int32) (f_state : Nat → Int32) (f_readPage : Nat → Int32) (f_tape : Nat → Int32) (f_cutRow : Nat → Int32) (f_cutWeights : Nat → Int32) (f_isKept : Nat → Int32) (f_lanes : Nat → Int32) (f_lengths : Nat → Int32) (f_cells : Nat → Int64) (p1 : Int32) (post : Int32 → Prop) (h : wX6_depthOf f_state p1 post) : Met l yX6_depthOf wsX6_depthOf rX6_depthOf (zPr D cA [.ref a0, .int p1] [(a0, .inr (5, [.ref a_state, .ref a_readPage, .ref a_tape, .int f_taped, .int f_fault, .int f_broken, .int f_brokenAt, .int f_spot, .int f_here, .int f_token, .int f_value, .ref a_cutRow, .ref a_cutWeights, .ref a_isKept, .ref a_lanes, .ref a_lengths, .ref a_cells, .int f_torn])), (a_state, .inl (cA 0, 579, .inl f_state)), (a_readPage, .inl (cA 0, 193, .inl f_readPage)), (a_tape, .inl (cA 0, 160, .inl f_tape)), (a_cutRow, .inl (cA 0, 128, .inl f_cutRow)), (a_cutWeights, .inl (cA 0, 64, .inl f_cutWeights)), (a_isKept, .inl (cA 3, 2, .inl f_isKept)), (a_lanes, .inl (cA 0, 4, .inl f_lanes)), (a_lengths, .inl (cA 0, 4, .inl f_lengths)), (a_cells, .inl (cA 1, 160, .inr (.inl f_cells)))]) (vp_Si post) 0 0 (fun _ => False) := by
  refine z_ro (cc := cX6_depthOf) (maxL := 2) (ret := (some .int)) (by decide) rfl (Nat.le_of_ble_eq_true rfl) ?_
  intro p e s m args below meth c ls hx hb hr hlk hml hown hts hK hP hl
  have hown : s.vm.findClass RX6 = some m.cls := hown
  have hl : lv_has ls 2 [(0, .ref a0), (1, .int p1)] := hl
  have hw := h
  unfold wX6_depthOf at hw
  refine lv_aload_n hx hb dX6_depthOf_0 rfl (lv_at hl 0 rfl) ?_
  refine lv_aload_n hx hb dX6_depthOf_1 rfl (lv_at hl 0 rfl) ?_
  refine lv_iload_n hx hb dX6_depthOf_2 rfl (lv_at hl 1 rfl) ?_
  refine z_ri [.int p1] [.ref a0] ⟨hx, hb, hml, hown, hts⟩ (kX6_openOf l D cA a0 a_state a_readPage a_tape a_cutRow a_cutWeights a_isKept a_lanes a_lengths a_cells f_taped f_fault f_broken f_brokenAt f_spot f_here f_token f_value f_torn f_state f_readPage f_tape f_cutRow f_cutWeights f_isKept f_lanes f_lengths f_cells p1 _ hw) (cwV 1 hts gX6_depthOf_X6_openOf rfl rfl rfl vX6_openOf ⟨Nat.le_of_ble_eq_true rfl, Nat.le_of_ble_eq_true rfl⟩) hK (hP.sub [0, 1, 2, 3, 4, 5, 6, 7, 8, 9] rfl) (va_recv hK.1 (hP.sub (ws' := [(a0, .inr (5, [.ref a_state, .ref a_readPage, .ref a_tape, .int f_taped, .int f_fault, .int f_broken, .int f_brokenAt, .int f_spot, .int f_here, .int f_token, .int f_value, .ref a_cutRow, .ref a_cutWeights, .ref a_isKept, .ref a_lanes, .ref a_lengths, .ref a_cells, .int f_torn]))]) [0] rfl) (ci := 5) (q0 := 0) rfl rfl) rfl hl.1 rfl (Nat.le_of_ble_eq_true rfl) dX6_depthOf_3 ⟨Nat.zero_le _, Nat.zero_le _⟩ (fun r_1 hw => ?_)
  refine z_ri [.int r_1] [] ⟨hx, hb, hml, hown, hts⟩ (kX6_excessAt l D cA a0 a_state a_readPage a_tape a_cutRow a_cutWeights a_isKept a_lanes a_lengths a_cells f_taped f_fault f_broken f_brokenAt f_spot f_here f_token f_value f_torn f_state f_readPage f_tape f_cutRow f_cutWeights f_isKept f_lanes f_lengths f_cells r_1 _ hw) (cwV 1 hts gX6_depthOf_X6_excessAt rfl rfl rfl vX6_excessAt ⟨Nat.le_of_ble_eq_true rfl, Nat.le_of_ble_eq_true rfl⟩) hK (hP.sub [0, 1, 2, 3, 4, 5, 6, 7, 8, 9] rfl) (va_recv hK.1 (hP.sub (ws' := [(a0, .inr (5, [.ref a_state, .ref a_readPage, .ref a_tape, .int f_taped, .int f_fault, .int f_broken, .int f_brokenAt, .int f_spot, .int f_here, .int f_token, .int f_value, .ref a_cutRow, .ref a_cutWeights, .ref a_isKept, .ref a_lanes, .ref a_lengths, .ref a_cells, .int f_torn]))]) [0] rfl) (ci := 5) (q0 := 0) rfl rfl) rfl hl.1 rfl (Nat.le_of_ble_eq_true rfl) dX6_depthOf_6 ⟨Nat.zero_le _, Nat.zero_le _⟩ (fun r_2 hw => ?_)
  exact z_iret hx hb hr hlk hw dX6_depthOf_9
def wX6_isPair (f_state : Nat → Int32) (p1 : Int32) (post : Int32 → Prop) : Prop := (wX6_places f_state (fun r_1 : Int32 => (((r_1 ≤ (p1 + (1 : Int32)) → post (0 : Int32)) ∧ (¬ r_1 ≤ (p1 + (1 : Int32)) → (vp_in p1 579 ∧ ((¬ (f_state p1.toNatClampNeg) = (1 : Int32) → post (0 : Int32)) ∧ ((f_state p1.toNatClampNeg) = (1 : Int32) → (vp_in (p1 + (1 : Int32)) 579 ∧ ((¬ (f_state (p1 + (1 : Int32)).toNatClampNeg) = 0 → post (0 : Int32)) ∧ ((f_state (p1 + (1 : Int32)).toNatClampNeg) = 0 → post (1 : Int32))))))))))))
abbrev rX6_isPair : Room := { frames := 1, cells := 0, slots := 0, locals := 20 }
theorem vX6_isPair : yX6_isPair.cls = RX6 ∧ yX6_isPair.cls ≠ "java/lang/invoke/MethodHandle" ∧ yX6_isPair.cls ≠ "java/lang/invoke/VarHandle" ∧ (parseMethodDescriptor yX6_isPair.desc).map (fun d => d.parameters.length) = some 1 := by decide +kernel
set_option maxHeartbeats 4000000 in
set_option maxRecDepth 100000 in
theorem kX6_isPair (l : Launch) (D : va_G) (cA : Nat → ClassId) (a0 a_state a_readPage a_tape a_cutRow a_cutWeights a_isKept a_lanes a_lengths a_cells : Nat) (f_taped : Int32) (f_fault : Int32) (f_broken : Int32) (f_brokenAt : Int32) (f_spot : Int32) (f_here : Int32) (f_token : Int32) (f_value : Int32) (f_torn : Int32) (f_state : Nat → Int32) (f_readPage : Nat → Int32) (f_tape : Nat → Int32) (f_cutRow : Nat → Int32) (f_cutWeights : Nat → Int32) (f_isKept : Nat → Int32) (f_lanes : Nat → Int32) (f_lengths : Nat → Int32) (f_cells : Nat → Int64) (p1 : Int32) (post : Int32 → Prop) (h : wX6_isPair f_state p1 post) : Met l yX6_isPair wsX6_isPair rX6_isPair (zPr D cA [.ref a0, .int p1] [(a0, .inr (5, [.ref a_state, .ref a_readPage, .ref a_tape, .int f_taped, .int f_fault, .int f_broken, .int f_brokenAt, .int f_spot, .int f_here, .int f_token, .int f_value, .ref a_cutRow, .ref a_cutWeights, .ref a_isKept, .ref a_lanes, .ref a_lengths, .ref a_cells, .int f_torn])), (a_state, .inl (cA 0, 579, .inl f_state)), (a_readPage, .inl (cA 0, 193, .inl f_readPage)), (a_tape, .inl (cA 0, 160, .inl f_tape)), (a_cutRow, .inl (cA 0, 128, .inl f_cutRow)), (a_cutWeights, .inl (cA 0, 64, .inl f_cutWeights)), (a_isKept, .inl (cA 3, 2, .inl f_isKept)), (a_lanes, .inl (cA 0, 4, .inl f_lanes)), (a_lengths, .inl (cA 0, 4, .inl f_lengths)), (a_cells, .inl (cA 1, 160, .inr (.inl f_cells)))]) (vp_Si post) 0 0 (fun _ => False) := by
  refine z_ro (cc := cX6_isPair) (maxL := 2) (ret := (some .boolean)) (by decide) rfl (Nat.le_of_ble_eq_true rfl) ?_
  intro p e s m args below meth c ls hx hb hr hlk hml hown hts hK hP hl
  have hown : s.vm.findClass RX6 = some m.cls := hown
  have hl : lv_has ls 2 [(0, .ref a0), (1, .int p1)] := hl
  have hw := h
  unfold wX6_isPair at hw
  have iwX6 : ∀ w ∈ wsX60, w ∈ wsX6_isPair := fun w h9 => List.mem_cons_of_mem _ (List.mem_append_right _ h9)
  have kf7 := hts (.fieldLink RX6 7 "ExcessTreeModel" "state" "[I") (by decide +kernel)
  refine lv_iload_n hx hb dX6_isPair_0 rfl (lv_at hl 1 rfl) ?_
  refine lv_iconst (v := 1) hx hb dX6_isPair_1 (by decide) ?_
  refine lv_iadd hx hb dX6_isPair_2 ?_
  refine lv_aload_n hx hb dX6_isPair_3 rfl (lv_at hl 0 rfl) ?_
  refine z_ri [] [.int (p1 + (1 : Int32))] ⟨hx, hb, hml, hown, hts⟩ (kX6_places l D cA a0 a_state a_readPage a_tape a_cutRow a_cutWeights a_isKept a_lanes a_lengths a_cells f_taped f_fault f_broken f_brokenAt f_spot f_here f_token f_value f_torn f_state f_readPage f_tape f_cutRow f_cutWeights f_isKept f_lanes f_lengths f_cells _ hw) (cwV 0 hts gX6_isPair_X6_places rfl rfl rfl vX6_places ⟨Nat.le_of_ble_eq_true rfl, Nat.le_of_ble_eq_true rfl⟩) hK (hP.sub [0, 1, 2, 3, 4, 5, 6, 7, 8, 9] rfl) (va_recv hK.1 (hP.sub (ws' := [(a0, .inr (5, [.ref a_state, .ref a_readPage, .ref a_tape, .int f_taped, .int f_fault, .int f_broken, .int f_brokenAt, .int f_spot, .int f_here, .int f_token, .int f_value, .ref a_cutRow, .ref a_cutWeights, .ref a_isKept, .ref a_lanes, .ref a_lengths, .ref a_cells, .int f_torn]))]) [0] rfl) (ci := 5) (q0 := 0) rfl rfl) rfl hl.1 rfl (Nat.le_of_ble_eq_true rfl) dX6_isPair_4 ⟨Nat.zero_le _, Nat.zero_le _⟩ (fun r_1 hw => ?_)
  refine lv_icmp_ge (tgt := 35) hx hb dX6_isPair_7 (by decide) (fun c_2 => ?_) (fun c_2 => ?_)
  · have hw := hw.1 c_2
    refine lv_iconst (v := 0) hx hb dX6_isPair_35 (by decide) ?_
    exact z_zret hx hb hr hlk rfl hw dX6_isPair_36
  · have hw := hw.2 c_2
    refine lv_aload_n hx hb dX6_isPair_10 rfl (lv_at hl 0 rfl) ?_
    refine va_get (D := D) (ci := 5) (v := .ref a_state) (C := RX6) (T := TX6) (N := 18) hx hb hts iwX6 hown hK.1 hP 0 rfl rfl 0 (by decide) kf7 (fun _ h9 => h9) rfl dX6_isPair_11 ?_
    refine lv_iload_n hx hb dX6_isPair_14 rfl (lv_at hl 1 rfl) ?_
    have hq := hw.1
    have hw := hw.2
    refine va_iald hx hb hK.1 hP 1 0 rfl rfl hq dX6_isPair_15 ?_
    refine lv_iconst (v := 1) hx hb dX6_isPair_16 (by decide) ?_
    refine lv_icmp_ne (tgt := 35) hx hb dX6_isPair_17 (by decide) (fun c_3 => ?_) (fun c_3 => ?_)
    · have hw := hw.1 c_3
      refine lv_iconst (v := 0) hx hb dX6_isPair_35 (by decide) ?_
      exact z_zret hx hb hr hlk rfl hw dX6_isPair_36
    · have hw := hw.2 c_3
      refine lv_aload_n hx hb dX6_isPair_20 rfl (lv_at hl 0 rfl) ?_
      refine va_get (D := D) (ci := 5) (v := .ref a_state) (C := RX6) (T := TX6) (N := 18) hx hb hts iwX6 hown hK.1 hP 0 rfl rfl 0 (by decide) kf7 (fun _ h9 => h9) rfl dX6_isPair_21 ?_
      refine lv_iload_n hx hb dX6_isPair_24 rfl (lv_at hl 1 rfl) ?_
      refine lv_iconst (v := 1) hx hb dX6_isPair_25 (by decide) ?_
      refine lv_iadd hx hb dX6_isPair_26 ?_
      have hq := hw.1
      have hw := hw.2
      refine va_iald hx hb hK.1 hP 1 0 rfl rfl hq dX6_isPair_27 ?_
      refine lv_if_ne (tgt := 35) hx hb dX6_isPair_28 (by decide) (fun c_4 => ?_) (fun c_4 => ?_)
      · have hw := hw.1 c_4
        refine lv_iconst (v := 0) hx hb dX6_isPair_35 (by decide) ?_
        exact z_zret hx hb hr hlk rfl hw dX6_isPair_36
      · have hw := hw.2 c_4
        refine lv_iconst (v := 1) hx hb dX6_isPair_31 (by decide) ?_
        refine lv_goto (tgt := 36) hx hb dX6_isPair_32 (by decide) ?_
        exact z_zret hx hb hr hlk rfl hw dX6_isPair_36
def wX6_isSort (f_state : Nat → Int32) (p1 : Int32) (p2 : Int32) (post : Int32 → Prop) : Prop := ((¬ p2 = (2 : Int32) → (vp_in p1 579 ∧ ((¬ (f_state p1.toNatClampNeg) = ((1 : Int32) - p2) → post (0 : Int32)) ∧ ((f_state p1.toNatClampNeg) = ((1 : Int32) - p2) → post (1 : Int32))))) ∧ (p2 = (2 : Int32) → (wX6_isPair f_state p1 (fun r_3 : Int32 => ((narrow .boolean (.int r_3) = .int r_3 ∧ post r_3))))))
abbrev rX6_isSort : Room := { frames := 2, cells := 0, slots := 0, locals := 41 }
theorem vX6_isSort : yX6_isSort.cls = RX6 ∧ yX6_isSort.cls ≠ "java/lang/invoke/MethodHandle" ∧ yX6_isSort.cls ≠ "java/lang/invoke/VarHandle" ∧ (parseMethodDescriptor yX6_isSort.desc).map (fun d => d.parameters.length) = some 2 := by decide +kernel
set_option maxHeartbeats 4000000 in
set_option maxRecDepth 100000 in
theorem kX6_isSort (l : Launch) (D : va_G) (cA : Nat → ClassId) (a0 a_state a_readPage a_tape a_cutRow a_cutWeights a_isKept a_lanes a_lengths a_cells : Nat) (f_taped : Int32) (f_fault : Int32) (f_broken : Int32) (f_brokenAt : Int32) (f_spot : Int32) (f_here : Int32) (f_token : Int32) (f_value : Int32) (f_torn : Int32) (f_state : Nat → Int32) (f_readPage : Nat → Int32) (f_tape : Nat → Int32) (f_cutRow : Nat → Int32) (f_cutWeights : Nat → Int32) (f_isKept : Nat → Int32) (f_lanes : Nat → Int32) (f_lengths : Nat → Int32) (f_cells : Nat → Int64) (p1 : Int32) (p2 : Int32) (post : Int32 → Prop) (h : wX6_isSort f_state p1 p2 post) : Met l yX6_isSort wsX6_isSort rX6_isSort (zPr D cA [.ref a0, .int p1, .int p2] [(a0, .inr (5, [.ref a_state, .ref a_readPage, .ref a_tape, .int f_taped, .int f_fault, .int f_broken, .int f_brokenAt, .int f_spot, .int f_here, .int f_token, .int f_value, .ref a_cutRow, .ref a_cutWeights, .ref a_isKept, .ref a_lanes, .ref a_lengths, .ref a_cells, .int f_torn])), (a_state, .inl (cA 0, 579, .inl f_state)), (a_readPage, .inl (cA 0, 193, .inl f_readPage)), (a_tape, .inl (cA 0, 160, .inl f_tape)), (a_cutRow, .inl (cA 0, 128, .inl f_cutRow)), (a_cutWeights, .inl (cA 0, 64, .inl f_cutWeights)), (a_isKept, .inl (cA 3, 2, .inl f_isKept)), (a_lanes, .inl (cA 0, 4, .inl f_lanes)), (a_lengths, .inl (cA 0, 4, .inl f_lengths)), (a_cells, .inl (cA 1, 160, .inr (.inl f_cells)))]) (vp_Si post) 0 0 (fun _ => False) := by
  refine z_ro (cc := cX6_isSort) (maxL := 3) (ret := (some .boolean)) (by decide) rfl (Nat.le_of_ble_eq_true rfl) ?_
  intro p e s m args below meth c ls hx hb hr hlk hml hown hts hK hP hl
  have hown : s.vm.findClass RX6 = some m.cls := hown
  have hl : lv_has ls 3 [(0, .ref a0), (1, .int p1), (2, .int p2)] := hl
  have hw := h
  unfold wX6_isSort at hw
  have iwX6 : ∀ w ∈ wsX60, w ∈ wsX6_isSort := fun w h9 => List.mem_cons_of_mem _ (List.mem_append_right _ h9)
  have kf7 := hts (.fieldLink RX6 7 "ExcessTreeModel" "state" "[I") (by decide +kernel)
  refine lv_iload_n hx hb dX6_isSort_0 rfl (lv_at hl 2 rfl) ?_
  refine lv_iconst (v := 2) hx hb dX6_isSort_1 (by decide) ?_
  refine lv_icmp_ne (tgt := 13) hx hb dX6_isSort_2 (by decide) (fun c_1 => ?_) (fun c_1 => ?_)
  · have hw := hw.1 c_1
    refine lv_aload_n hx hb dX6_isSort_13 rfl (lv_at hl 0 rfl) ?_
    refine va_get (D := D) (ci := 5) (v := .ref a_state) (C := RX6) (T := TX6) (N := 18) hx hb hts iwX6 hown hK.1 hP 0 rfl rfl 0 (by decide) kf7 (fun _ h9 => h9) rfl dX6_isSort_14 ?_
    refine lv_iload_n hx hb dX6_isSort_17 rfl (lv_at hl 1 rfl) ?_
    have hq := hw.1
    have hw := hw.2
    refine va_iald hx hb hK.1 hP 1 0 rfl rfl hq dX6_isSort_18 ?_
    refine lv_iconst (v := 1) hx hb dX6_isSort_19 (by decide) ?_
    refine lv_iload_n hx hb dX6_isSort_20 rfl (lv_at hl 2 rfl) ?_
    refine lv_isub hx hb dX6_isSort_21 ?_
    refine lv_icmp_ne (tgt := 29) hx hb dX6_isSort_22 (by decide) (fun c_2 => ?_) (fun c_2 => ?_)
    · have hw := hw.1 c_2
      refine lv_iconst (v := 0) hx hb dX6_isSort_29 (by decide) ?_
      exact z_zret hx hb hr hlk rfl hw dX6_isSort_30
    · have hw := hw.2 c_2
      refine lv_iconst (v := 1) hx hb dX6_isSort_25 (by decide) ?_
      refine lv_goto (tgt := 30) hx hb dX6_isSort_26 (by decide) ?_
      exact z_zret hx hb hr hlk rfl hw dX6_isSort_30
  · have hw := hw.2 c_1
    refine lv_aload_n hx hb dX6_isSort_5 rfl (lv_at hl 0 rfl) ?_
    refine lv_iload_n hx hb dX6_isSort_6 rfl (lv_at hl 1 rfl) ?_
    refine z_ri [.int p1] [] ⟨hx, hb, hml, hown, hts⟩ (kX6_isPair l D cA a0 a_state a_readPage a_tape a_cutRow a_cutWeights a_isKept a_lanes a_lengths a_cells f_taped f_fault f_broken f_brokenAt f_spot f_here f_token f_value f_torn f_state f_readPage f_tape f_cutRow f_cutWeights f_isKept f_lanes f_lengths f_cells p1 _ hw) (cwV 1 hts gX6_isSort_X6_isPair rfl rfl rfl vX6_isPair ⟨Nat.le_of_ble_eq_true rfl, Nat.le_of_ble_eq_true rfl⟩) hK (hP.sub [0, 1, 2, 3, 4, 5, 6, 7, 8, 9] rfl) (va_recv hK.1 (hP.sub (ws' := [(a0, .inr (5, [.ref a_state, .ref a_readPage, .ref a_tape, .int f_taped, .int f_fault, .int f_broken, .int f_brokenAt, .int f_spot, .int f_here, .int f_token, .int f_value, .ref a_cutRow, .ref a_cutWeights, .ref a_isKept, .ref a_lanes, .ref a_lengths, .ref a_cells, .int f_torn]))]) [0] rfl) (ci := 5) (q0 := 0) rfl rfl) rfl hl.1 rfl (Nat.le_of_ble_eq_true rfl) dX6_isSort_7 ⟨Nat.zero_le _, Nat.zero_le _⟩ (fun r_3 hw => ?_)
    refine lv_goto (tgt := 30) hx hb dX6_isSort_10 (by decide) ?_
    exact z_zret hx hb hr hlk hw.1 hw.2 dX6_isSort_30
def wX6_size (f_state : Nat → Int32) (p1 : Int32) (post : Int32 → Prop) : Prop := (∃ (I_1 : Int32 → Int32 → Int32 → Prop) (mu_1 : Int32 → Int32 → Int32 → Nat), I_1 (0 : Int32) (0 : Int32) (0 : Int32) ∧ ∀ (x_2 : Int32) (x_3 : Int32) (x_4 : Int32), I_1 x_2 x_3 x_4 → (wX6_places f_state (fun r_5 : Int32 => (((r_5 ≤ x_4 → ((p1 = 0 → (wX6_many f_state (fun r_8 : Int32 => (post r_8)))) ∧ (p1 = 1 → post x_2) ∧ (p1 = 2 → (wX6_many f_state (fun r_11 : Int32 => (((¬ r_11 = 0 → post (x_3 - (1 : Int32))) ∧ (r_11 = 0 → post (-4 : Int32))))))) ∧ (p1 = 3 → (wX6_places f_state (fun r_14 : Int32 => (post r_14)))) ∧ (p1 = 4 → (wX6_places f_state (fun r_16 : Int32 => (post (((r_16 + (16 : Int32)) - (1 : Int32)) / (16 : Int32)))))) ∧ (¬ p1 = 0 → ¬ p1 = 1 → ¬ p1 = 2 → ¬ p1 = 3 → ¬ p1 = 4 → post (-1 : Int32)))) ∧ (¬ r_5 ≤ x_4 → (wX6_isPair f_state x_4 (fun r_17 : Int32 => (((r_17 = 0 → (∀ x_19 : Int32, x_19 = (x_2 + (0 : Int32)) → (wX6_excessAt f_state (x_4 + (1 : Int32)) (fun r_20 : Int32 => (((r_20 ≤ x_3 → (∀ x_22 : Int32, x_22 = x_4 + (1) → (I_1 x_19 x_3 x_22 ∧ mu_1 x_19 x_3 x_22 < mu_1 x_2 x_3 x_4))) ∧ (¬ r_20 ≤ x_3 → (wX6_excessAt f_state (x_4 + (1 : Int32)) (fun r_23 : Int32 => ((∀ x_24 : Int32, x_24 = x_4 + (1) → (I_1 x_19 r_23 x_24 ∧ mu_1 x_19 r_23 x_24 < mu_1 x_2 x_3 x_4)))))))))))) ∧ (¬ r_17 = 0 → (∀ x_25 : Int32, x_25 = (x_2 + (1 : Int32)) → (wX6_excessAt f_state (x_4 + (1 : Int32)) (fun r_26 : Int32 => (((r_26 ≤ x_3 → (∀ x_28 : Int32, x_28 = x_4 + (1) → (I_1 x_25 x_3 x_28 ∧ mu_1 x_25 x_3 x_28 < mu_1 x_2 x_3 x_4))) ∧ (¬ r_26 ≤ x_3 → (wX6_excessAt f_state (x_4 + (1 : Int32)) (fun r_29 : Int32 => ((∀ x_30 : Int32, x_30 = x_4 + (1) → (I_1 x_25 r_29 x_30 ∧ mu_1 x_25 r_29 x_30 < mu_1 x_2 x_3 x_4))))))))))))))))))))))
abbrev rX6_size : Room := { frames := 2, cells := 0, slots := 0, locals := 41 }
theorem vX6_size : yX6_size.cls = RX6 ∧ yX6_size.cls ≠ "java/lang/invoke/MethodHandle" ∧ yX6_size.cls ≠ "java/lang/invoke/VarHandle" ∧ (parseMethodDescriptor yX6_size.desc).map (fun d => d.parameters.length) = some 1 := by decide +kernel
set_option maxHeartbeats 4000000 in
set_option maxRecDepth 100000 in
theorem kX6_size (l : Launch) (D : va_G) (cA : Nat → ClassId) (a0 a_state a_readPage a_tape a_cutRow a_cutWeights a_isKept a_lanes a_lengths a_cells : Nat) (f_taped : Int32) (f_fault : Int32) (f_broken : Int32) (f_brokenAt : Int32) (f_spot : Int32) (f_here : Int32) (f_token : Int32) (f_value : Int32) (f_torn : Int32) (f_state : Nat → Int32) (f_readPage : Nat → Int32) (f_tape : Nat → Int32) (f_cutRow : Nat → Int32) (f_cutWeights : Nat → Int32) (f_isKept : Nat → Int32) (f_lanes : Nat → Int32) (f_lengths : Nat → Int32) (f_cells : Nat → Int64) (p1 : Int32) (post : Int32 → Prop) (h : wX6_size f_state p1 post) : Met l yX6_size wsX6_size rX6_size (zPr D cA [.ref a0, .int p1] [(a0, .inr (5, [.ref a_state, .ref a_readPage, .ref a_tape, .int f_taped, .int f_fault, .int f_broken, .int f_brokenAt, .int f_spot, .int f_here, .int f_token, .int f_value, .ref a_cutRow, .ref a_cutWeights, .ref a_isKept, .ref a_lanes, .ref a_lengths, .ref a_cells, .int f_torn])), (a_state, .inl (cA 0, 579, .inl f_state)), (a_readPage, .inl (cA 0, 193, .inl f_readPage)), (a_tape, .inl (cA 0, 160, .inl f_tape)), (a_cutRow, .inl (cA 0, 128, .inl f_cutRow)), (a_cutWeights, .inl (cA 0, 64, .inl f_cutWeights)), (a_isKept, .inl (cA 3, 2, .inl f_isKept)), (a_lanes, .inl (cA 0, 4, .inl f_lanes)), (a_lengths, .inl (cA 0, 4, .inl f_lengths)), (a_cells, .inl (cA 1, 160, .inr (.inl f_cells)))]) (vp_Si post) 0 0 (fun _ => False) := by
  refine z_ro (cc := cX6_size) (maxL := 5) (ret := (some .int)) (by decide) rfl (Nat.le_of_ble_eq_true rfl) ?_
  intro p e s m args below meth c ls hx hb hr hlk hml hown hts hK hP hl
  have hown : s.vm.findClass RX6 = some m.cls := hown
  have hl : lv_has ls 5 [(0, .ref a0), (1, .int p1)] := hl
  have hw := h
  unfold wX6_size at hw
  refine lv_iconst (v := 0) hx hb dX6_size_0 (by decide) ?_
  refine lv_istore_n (lv' := [(2, .int (0 : Int32)), (0, .ref a0), (1, .int p1)]) hx hb dX6_size_1 rfl hl (by decide) rfl (fun ls hl => ?_)
  refine lv_iconst (v := 0) hx hb dX6_size_2 (by decide) ?_
  refine lv_istore_n (lv' := [(3, .int (0 : Int32)), (2, .int (0 : Int32)), (0, .ref a0), (1, .int p1)]) hx hb dX6_size_3 rfl hl (by decide) rfl (fun ls hl => ?_)
  refine lv_iconst (v := 0) hx hb dX6_size_4 (by decide) ?_
  refine lv_istore (lv' := [(4, .int (0 : Int32)), (3, .int (0 : Int32)), (2, .int (0 : Int32)), (0, .ref a0), (1, .int p1)]) hx hb dX6_size_5 hl (by decide) rfl (fun ls hl => ?_)
  obtain ⟨I_1, mu_1, hI_1, hw⟩ := hw
  have lp_1 : ∀ (nn : Nat) (x_2 : Int32) (x_3 : Int32) (x_4 : Int32) (ls : Array Slot), mu_1 x_2 x_3 x_4 < nn → I_1 x_2 x_3 x_4 → lv_has ls 5 [(0, .ref a0), (1, .int p1), (2, .int x_2), (3, .int x_3), (4, .int x_4)] → W p l e rX6_size s m args below meth c s.heap [] 0 0 (MQ below (vp_Si post) args s 0 0 (fun _ => False)) (F0 m 7 ls []) := by
    intro nn
    induction nn with
    | zero => exact fun _ _ _ _ h0 => absurd h0 (Nat.not_lt_zero _)
    | succ nn ih_1 =>
      intro x_2 x_3 x_4 ls hmu_1 hI_1 hl
      have hw := hw x_2 x_3 x_4 hI_1
      refine lv_iload hx hb dX6_size_7 (lv_at hl 4 rfl) ?_
      refine lv_aload_n hx hb dX6_size_9 rfl (lv_at hl 0 rfl) ?_
      refine z_ri [] [.int x_4] ⟨hx, hb, hml, hown, hts⟩ (kX6_places l D cA a0 a_state a_readPage a_tape a_cutRow a_cutWeights a_isKept a_lanes a_lengths a_cells f_taped f_fault f_broken f_brokenAt f_spot f_here f_token f_value f_torn f_state f_readPage f_tape f_cutRow f_cutWeights f_isKept f_lanes f_lengths f_cells _ hw) (cwV 0 hts gX6_size_X6_places rfl rfl rfl vX6_places ⟨Nat.le_of_ble_eq_true rfl, Nat.le_of_ble_eq_true rfl⟩) hK (hP.sub [0, 1, 2, 3, 4, 5, 6, 7, 8, 9] rfl) (va_recv hK.1 (hP.sub (ws' := [(a0, .inr (5, [.ref a_state, .ref a_readPage, .ref a_tape, .int f_taped, .int f_fault, .int f_broken, .int f_brokenAt, .int f_spot, .int f_here, .int f_token, .int f_value, .ref a_cutRow, .ref a_cutWeights, .ref a_isKept, .ref a_lanes, .ref a_lengths, .ref a_cells, .int f_torn]))]) [0] rfl) (ci := 5) (q0 := 0) rfl rfl) rfl hl.1 rfl (Nat.le_of_ble_eq_true rfl) dX6_size_10 ⟨Nat.zero_le _, Nat.zero_le _⟩ (fun r_5 hw => ?_)
      refine lv_icmp_ge (tgt := 64) hx hb dX6_size_13 (by decide) (fun c_6 => ?_) (fun c_6 => ?_)
      · have hw := hw.1 c_6
        refine lv_iload_n hx hb dX6_size_64 rfl (lv_at hl 1 rfl) ?_
        by_cases c_7 : p1 = 0
        · have hw := hw.1 c_7
          refine lv_tableIn (tgt := 100) (off := 35) hx hb dX6_size_65 (by rw [c_7]; decide) (by rw [c_7]; decide) (by rw [c_7]; decide) (by decide) ?_
          refine lv_aload_n hx hb dX6_size_100 rfl (lv_at hl 0 rfl) ?_
          refine z_ri [] [] ⟨hx, hb, hml, hown, hts⟩ (kX6_many l D cA a0 a_state a_readPage a_tape a_cutRow a_cutWeights a_isKept a_lanes a_lengths a_cells f_taped f_fault f_broken f_brokenAt f_spot f_here f_token f_value f_torn f_state f_readPage f_tape f_cutRow f_cutWeights f_isKept f_lanes f_lengths f_cells _ hw) (cwV 0 hts gX6_size_X6_many rfl rfl rfl vX6_many ⟨Nat.le_of_ble_eq_true rfl, Nat.le_of_ble_eq_true rfl⟩) hK (hP.sub [0, 1, 2, 3, 4, 5, 6, 7, 8, 9] rfl) (va_recv hK.1 (hP.sub (ws' := [(a0, .inr (5, [.ref a_state, .ref a_readPage, .ref a_tape, .int f_taped, .int f_fault, .int f_broken, .int f_brokenAt, .int f_spot, .int f_here, .int f_token, .int f_value, .ref a_cutRow, .ref a_cutWeights, .ref a_isKept, .ref a_lanes, .ref a_lengths, .ref a_cells, .int f_torn]))]) [0] rfl) (ci := 5) (q0 := 0) rfl rfl) rfl hl.1 rfl (Nat.le_of_ble_eq_true rfl) dX6_size_101 ⟨Nat.zero_le _, Nat.zero_le _⟩ (fun r_8 hw => ?_)
          exact z_iret hx hb hr hlk hw dX6_size_104
        by_cases c_9 : p1 = 1
        · have hw := hw.2.1 c_9
          refine lv_tableIn (tgt := 105) (off := 40) hx hb dX6_size_65 (by rw [c_9]; decide) (by rw [c_9]; decide) (by rw [c_9]; decide) (by decide) ?_
          refine lv_iload_n hx hb dX6_size_105 rfl (lv_at hl 2 rfl) ?_
          exact z_iret hx hb hr hlk hw dX6_size_106
        by_cases c_10 : p1 = 2
        · have hw := hw.2.2.1 c_10
          refine lv_tableIn (tgt := 107) (off := 42) hx hb dX6_size_65 (by rw [c_10]; decide) (by rw [c_10]; decide) (by rw [c_10]; decide) (by decide) ?_
          refine lv_aload_n hx hb dX6_size_107 rfl (lv_at hl 0 rfl) ?_
          refine z_ri [] [] ⟨hx, hb, hml, hown, hts⟩ (kX6_many l D cA a0 a_state a_readPage a_tape a_cutRow a_cutWeights a_isKept a_lanes a_lengths a_cells f_taped f_fault f_broken f_brokenAt f_spot f_here f_token f_value f_torn f_state f_readPage f_tape f_cutRow f_cutWeights f_isKept f_lanes f_lengths f_cells _ hw) (cwV 0 hts gX6_size_X6_many rfl rfl rfl vX6_many ⟨Nat.le_of_ble_eq_true rfl, Nat.le_of_ble_eq_true rfl⟩) hK (hP.sub [0, 1, 2, 3, 4, 5, 6, 7, 8, 9] rfl) (va_recv hK.1 (hP.sub (ws' := [(a0, .inr (5, [.ref a_state, .ref a_readPage, .ref a_tape, .int f_taped, .int f_fault, .int f_broken, .int f_brokenAt, .int f_spot, .int f_here, .int f_token, .int f_value, .ref a_cutRow, .ref a_cutWeights, .ref a_isKept, .ref a_lanes, .ref a_lengths, .ref a_cells, .int f_torn]))]) [0] rfl) (ci := 5) (q0 := 0) rfl rfl) rfl hl.1 rfl (Nat.le_of_ble_eq_true rfl) dX6_size_108 ⟨Nat.zero_le _, Nat.zero_le _⟩ (fun r_11 hw => ?_)
          refine lv_if_ne (tgt := 119) hx hb dX6_size_111 (by decide) (fun c_12 => ?_) (fun c_12 => ?_)
          · have hw := hw.1 c_12
            refine lv_iload_n hx hb dX6_size_119 rfl (lv_at hl 3 rfl) ?_
            refine lv_iconst (v := 1) hx hb dX6_size_120 (by decide) ?_
            refine lv_isub hx hb dX6_size_121 ?_
            exact z_iret hx hb hr hlk hw dX6_size_122
          · have hw := hw.2 c_12
            refine lv_bipush (v := -4) hx hb dX6_size_114 (by decide) ?_
            refine lv_goto (tgt := 122) hx hb dX6_size_116 (by decide) ?_
            exact z_iret hx hb hr hlk hw dX6_size_122
        by_cases c_13 : p1 = 3
        · have hw := hw.2.2.2.1 c_13
          refine lv_tableIn (tgt := 123) (off := 58) hx hb dX6_size_65 (by rw [c_13]; decide) (by rw [c_13]; decide) (by rw [c_13]; decide) (by decide) ?_
          refine lv_aload_n hx hb dX6_size_123 rfl (lv_at hl 0 rfl) ?_
          refine z_ri [] [] ⟨hx, hb, hml, hown, hts⟩ (kX6_places l D cA a0 a_state a_readPage a_tape a_cutRow a_cutWeights a_isKept a_lanes a_lengths a_cells f_taped f_fault f_broken f_brokenAt f_spot f_here f_token f_value f_torn f_state f_readPage f_tape f_cutRow f_cutWeights f_isKept f_lanes f_lengths f_cells _ hw) (cwV 0 hts gX6_size_X6_places rfl rfl rfl vX6_places ⟨Nat.le_of_ble_eq_true rfl, Nat.le_of_ble_eq_true rfl⟩) hK (hP.sub [0, 1, 2, 3, 4, 5, 6, 7, 8, 9] rfl) (va_recv hK.1 (hP.sub (ws' := [(a0, .inr (5, [.ref a_state, .ref a_readPage, .ref a_tape, .int f_taped, .int f_fault, .int f_broken, .int f_brokenAt, .int f_spot, .int f_here, .int f_token, .int f_value, .ref a_cutRow, .ref a_cutWeights, .ref a_isKept, .ref a_lanes, .ref a_lengths, .ref a_cells, .int f_torn]))]) [0] rfl) (ci := 5) (q0 := 0) rfl rfl) rfl hl.1 rfl (Nat.le_of_ble_eq_true rfl) dX6_size_124 ⟨Nat.zero_le _, Nat.zero_le _⟩ (fun r_14 hw => ?_)
          exact z_iret hx hb hr hlk hw dX6_size_127
        by_cases c_15 : p1 = 4
        · have hw := hw.2.2.2.2.1 c_15
          refine lv_tableIn (tgt := 128) (off := 63) hx hb dX6_size_65 (by rw [c_15]; decide) (by rw [c_15]; decide) (by rw [c_15]; decide) (by decide) ?_
          refine lv_aload_n hx hb dX6_size_128 rfl (lv_at hl 0 rfl) ?_
          refine z_ri [] [] ⟨hx, hb, hml, hown, hts⟩ (kX6_places l D cA a0 a_state a_readPage a_tape a_cutRow a_cutWeights a_isKept a_lanes a_lengths a_cells f_taped f_fault f_broken f_brokenAt f_spot f_here f_token f_value f_torn f_state f_readPage f_tape f_cutRow f_cutWeights f_isKept f_lanes f_lengths f_cells _ hw) (cwV 0 hts gX6_size_X6_places rfl rfl rfl vX6_places ⟨Nat.le_of_ble_eq_true rfl, Nat.le_of_ble_eq_true rfl⟩) hK (hP.sub [0, 1, 2, 3, 4, 5, 6, 7, 8, 9] rfl) (va_recv hK.1 (hP.sub (ws' := [(a0, .inr (5, [.ref a_state, .ref a_readPage, .ref a_tape, .int f_taped, .int f_fault, .int f_broken, .int f_brokenAt, .int f_spot, .int f_here, .int f_token, .int f_value, .ref a_cutRow, .ref a_cutWeights, .ref a_isKept, .ref a_lanes, .ref a_lengths, .ref a_cells, .int f_torn]))]) [0] rfl) (ci := 5) (q0 := 0) rfl rfl) rfl hl.1 rfl (Nat.le_of_ble_eq_true rfl) dX6_size_129 ⟨Nat.zero_le _, Nat.zero_le _⟩ (fun r_16 hw => ?_)
          refine lv_bipush (v := 16) hx hb dX6_size_132 (by decide) ?_
          refine lv_iadd hx hb dX6_size_134 ?_
          refine lv_iconst (v := 1) hx hb dX6_size_135 (by decide) ?_
          refine lv_isub hx hb dX6_size_136 ?_
          refine lv_bipush (v := 16) hx hb dX6_size_137 (by decide) ?_
          refine lv_idiv hx hb dX6_size_139 (by decide) ?_
          exact z_iret hx hb hr hlk hw dX6_size_140
        have hw := hw.2.2.2.2.2 c_7 c_9 c_10 c_13 c_15
        refine lv_tableOut (tgt := 141) hx hb dX6_size_65 (by have q0 := lv_neT c_7 (a := 0) (by decide); have q1 := lv_neT c_9 (a := 1) (by decide); have q2 := lv_neT c_10 (a := 2) (by decide); have q3 := lv_neT c_13 (a := 3) (by decide); have q4 := lv_neT c_15 (a := 4) (by decide); omega) (by decide) ?_
        refine lv_iconst (v := -1) hx hb dX6_size_141 (by decide) ?_
        exact z_iret hx hb hr hlk hw dX6_size_142
      · have hw := hw.2 c_6
        refine lv_iload_n hx hb dX6_size_16 rfl (lv_at hl 2 rfl) ?_
        refine lv_aload_n hx hb dX6_size_17 rfl (lv_at hl 0 rfl) ?_
        refine lv_iload hx hb dX6_size_18 (lv_at hl 4 rfl) ?_
        refine z_ri [.int x_4] [.int x_2] ⟨hx, hb, hml, hown, hts⟩ (kX6_isPair l D cA a0 a_state a_readPage a_tape a_cutRow a_cutWeights a_isKept a_lanes a_lengths a_cells f_taped f_fault f_broken f_brokenAt f_spot f_here f_token f_value f_torn f_state f_readPage f_tape f_cutRow f_cutWeights f_isKept f_lanes f_lengths f_cells x_4 _ hw) (cwV 1 hts gX6_size_X6_isPair rfl rfl rfl vX6_isPair ⟨Nat.le_of_ble_eq_true rfl, Nat.le_of_ble_eq_true rfl⟩) hK (hP.sub [0, 1, 2, 3, 4, 5, 6, 7, 8, 9] rfl) (va_recv hK.1 (hP.sub (ws' := [(a0, .inr (5, [.ref a_state, .ref a_readPage, .ref a_tape, .int f_taped, .int f_fault, .int f_broken, .int f_brokenAt, .int f_spot, .int f_here, .int f_token, .int f_value, .ref a_cutRow, .ref a_cutWeights, .ref a_isKept, .ref a_lanes, .ref a_lengths, .ref a_cells, .int f_torn]))]) [0] rfl) (ci := 5) (q0 := 0) rfl rfl) rfl hl.1 rfl (Nat.le_of_ble_eq_true rfl) dX6_size_20 ⟨Nat.zero_le _, Nat.zero_le _⟩ (fun r_17 hw => ?_)
        refine lv_if_eq (tgt := 30) hx hb dX6_size_23 (by decide) (fun c_18 => ?_) (fun c_18 => ?_)
        · have hw := hw.1 c_18
          refine lv_iconst (v := 0) hx hb dX6_size_30 (by decide) ?_
          refine lv_iadd hx hb dX6_size_31 ?_
          refine lv_topi (fun x_19 ex_19 => ?_)
          have hw := hw x_19 ex_19
          refine lv_istore_n (lv' := [(2, .int x_19), (0, .ref a0), (1, .int p1), (3, .int x_3), (4, .int x_4)]) hx hb dX6_size_32 rfl hl (by decide) rfl (fun ls hl => ?_)
          refine lv_aload_n hx hb dX6_size_33 rfl (lv_at hl 1 rfl) ?_
          refine lv_iload hx hb dX6_size_34 (lv_at hl 4 rfl) ?_
          refine lv_iconst (v := 1) hx hb dX6_size_36 (by decide) ?_
          refine lv_iadd hx hb dX6_size_37 ?_
          refine z_ri [.int (x_4 + (1 : Int32))] [] ⟨hx, hb, hml, hown, hts⟩ (kX6_excessAt l D cA a0 a_state a_readPage a_tape a_cutRow a_cutWeights a_isKept a_lanes a_lengths a_cells f_taped f_fault f_broken f_brokenAt f_spot f_here f_token f_value f_torn f_state f_readPage f_tape f_cutRow f_cutWeights f_isKept f_lanes f_lengths f_cells (x_4 + (1 : Int32)) _ hw) (cwV 1 hts gX6_size_X6_excessAt rfl rfl rfl vX6_excessAt ⟨Nat.le_of_ble_eq_true rfl, Nat.le_of_ble_eq_true rfl⟩) hK (hP.sub [0, 1, 2, 3, 4, 5, 6, 7, 8, 9] rfl) (va_recv hK.1 (hP.sub (ws' := [(a0, .inr (5, [.ref a_state, .ref a_readPage, .ref a_tape, .int f_taped, .int f_fault, .int f_broken, .int f_brokenAt, .int f_spot, .int f_here, .int f_token, .int f_value, .ref a_cutRow, .ref a_cutWeights, .ref a_isKept, .ref a_lanes, .ref a_lengths, .ref a_cells, .int f_torn]))]) [0] rfl) (ci := 5) (q0 := 0) rfl rfl) rfl hl.1 rfl (Nat.le_of_ble_eq_true rfl) dX6_size_38 ⟨Nat.zero_le _, Nat.zero_le _⟩ (fun r_20 hw => ?_)
          refine lv_iload_n hx hb dX6_size_41 rfl (lv_at hl 3 rfl) ?_
          refine lv_icmp_le (tgt := 56) hx hb dX6_size_42 (by decide) (fun c_21 => ?_) (fun c_21 => ?_)
          · have hw := hw.1 c_21
            refine lv_iload_n hx hb dX6_size_56 rfl (lv_at hl 3 rfl) ?_
            refine lv_istore_n (lv' := [(3, .int x_3), (2, .int x_19), (0, .ref a0), (1, .int p1), (4, .int x_4)]) hx hb dX6_size_57 rfl hl (by decide) rfl (fun ls hl => ?_)
            obtain ⟨x_22, ex_22⟩ : ∃ y : Int32, y = x_4 + (1) := ⟨_, rfl⟩
            have hw := hw x_22 ex_22
            refine lv_iinc (v := x_22) (lv' := [(4, .int x_22), (3, .int x_3), (2, .int x_19), (0, .ref a0), (1, .int p1)]) hx hb dX6_size_58 hl (k := 4) rfl (by rw [ex_22]; rfl) (by decide) rfl (fun ls hl => ?_)
            refine lv_goto (tgt := 7) hx hb dX6_size_61 (by decide) ?_
            exact ih_1 x_19 x_3 x_22 ls (Nat.lt_of_lt_of_le hw.2 (Nat.le_of_lt_succ hmu_1)) hw.1 (lv_sub hl [3, 4, 2, 1, 0] rfl)
          · have hw := hw.2 c_21
            refine lv_aload_n hx hb dX6_size_45 rfl (lv_at hl 1 rfl) ?_
            refine lv_iload hx hb dX6_size_46 (lv_at hl 4 rfl) ?_
            refine lv_iconst (v := 1) hx hb dX6_size_48 (by decide) ?_
            refine lv_iadd hx hb dX6_size_49 ?_
            refine z_ri [.int (x_4 + (1 : Int32))] [] ⟨hx, hb, hml, hown, hts⟩ (kX6_excessAt l D cA a0 a_state a_readPage a_tape a_cutRow a_cutWeights a_isKept a_lanes a_lengths a_cells f_taped f_fault f_broken f_brokenAt f_spot f_here f_token f_value f_torn f_state f_readPage f_tape f_cutRow f_cutWeights f_isKept f_lanes f_lengths f_cells (x_4 + (1 : Int32)) _ hw) (cwV 1 hts gX6_size_X6_excessAt rfl rfl rfl vX6_excessAt ⟨Nat.le_of_ble_eq_true rfl, Nat.le_of_ble_eq_true rfl⟩) hK (hP.sub [0, 1, 2, 3, 4, 5, 6, 7, 8, 9] rfl) (va_recv hK.1 (hP.sub (ws' := [(a0, .inr (5, [.ref a_state, .ref a_readPage, .ref a_tape, .int f_taped, .int f_fault, .int f_broken, .int f_brokenAt, .int f_spot, .int f_here, .int f_token, .int f_value, .ref a_cutRow, .ref a_cutWeights, .ref a_isKept, .ref a_lanes, .ref a_lengths, .ref a_cells, .int f_torn]))]) [0] rfl) (ci := 5) (q0 := 0) rfl rfl) rfl hl.1 rfl (Nat.le_of_ble_eq_true rfl) dX6_size_50 ⟨Nat.zero_le _, Nat.zero_le _⟩ (fun r_23 hw => ?_)
            refine lv_goto (tgt := 57) hx hb dX6_size_53 (by decide) ?_
            refine lv_istore_n (lv' := [(3, .int r_23), (2, .int x_19), (0, .ref a0), (1, .int p1), (4, .int x_4)]) hx hb dX6_size_57 rfl hl (by decide) rfl (fun ls hl => ?_)
            obtain ⟨x_24, ex_24⟩ : ∃ y : Int32, y = x_4 + (1) := ⟨_, rfl⟩
            have hw := hw x_24 ex_24
            refine lv_iinc (v := x_24) (lv' := [(4, .int x_24), (3, .int r_23), (2, .int x_19), (0, .ref a0), (1, .int p1)]) hx hb dX6_size_58 hl (k := 4) rfl (by rw [ex_24]; rfl) (by decide) rfl (fun ls hl => ?_)
            refine lv_goto (tgt := 7) hx hb dX6_size_61 (by decide) ?_
            exact ih_1 x_19 r_23 x_24 ls (Nat.lt_of_lt_of_le hw.2 (Nat.le_of_lt_succ hmu_1)) hw.1 (lv_sub hl [3, 4, 2, 1, 0] rfl)
        · have hw := hw.2 c_18
          refine lv_iconst (v := 1) hx hb dX6_size_26 (by decide) ?_
          refine lv_goto (tgt := 31) hx hb dX6_size_27 (by decide) ?_
          refine lv_iadd hx hb dX6_size_31 ?_
          refine lv_topi (fun x_25 ex_25 => ?_)
          have hw := hw x_25 ex_25
          refine lv_istore_n (lv' := [(2, .int x_25), (0, .ref a0), (1, .int p1), (3, .int x_3), (4, .int x_4)]) hx hb dX6_size_32 rfl hl (by decide) rfl (fun ls hl => ?_)
          refine lv_aload_n hx hb dX6_size_33 rfl (lv_at hl 1 rfl) ?_
          refine lv_iload hx hb dX6_size_34 (lv_at hl 4 rfl) ?_
          refine lv_iconst (v := 1) hx hb dX6_size_36 (by decide) ?_
          refine lv_iadd hx hb dX6_size_37 ?_
          refine z_ri [.int (x_4 + (1 : Int32))] [] ⟨hx, hb, hml, hown, hts⟩ (kX6_excessAt l D cA a0 a_state a_readPage a_tape a_cutRow a_cutWeights a_isKept a_lanes a_lengths a_cells f_taped f_fault f_broken f_brokenAt f_spot f_here f_token f_value f_torn f_state f_readPage f_tape f_cutRow f_cutWeights f_isKept f_lanes f_lengths f_cells (x_4 + (1 : Int32)) _ hw) (cwV 1 hts gX6_size_X6_excessAt rfl rfl rfl vX6_excessAt ⟨Nat.le_of_ble_eq_true rfl, Nat.le_of_ble_eq_true rfl⟩) hK (hP.sub [0, 1, 2, 3, 4, 5, 6, 7, 8, 9] rfl) (va_recv hK.1 (hP.sub (ws' := [(a0, .inr (5, [.ref a_state, .ref a_readPage, .ref a_tape, .int f_taped, .int f_fault, .int f_broken, .int f_brokenAt, .int f_spot, .int f_here, .int f_token, .int f_value, .ref a_cutRow, .ref a_cutWeights, .ref a_isKept, .ref a_lanes, .ref a_lengths, .ref a_cells, .int f_torn]))]) [0] rfl) (ci := 5) (q0 := 0) rfl rfl) rfl hl.1 rfl (Nat.le_of_ble_eq_true rfl) dX6_size_38 ⟨Nat.zero_le _, Nat.zero_le _⟩ (fun r_26 hw => ?_)
          refine lv_iload_n hx hb dX6_size_41 rfl (lv_at hl 3 rfl) ?_
          refine lv_icmp_le (tgt := 56) hx hb dX6_size_42 (by decide) (fun c_27 => ?_) (fun c_27 => ?_)
          · have hw := hw.1 c_27
            refine lv_iload_n hx hb dX6_size_56 rfl (lv_at hl 3 rfl) ?_
            refine lv_istore_n (lv' := [(3, .int x_3), (2, .int x_25), (0, .ref a0), (1, .int p1), (4, .int x_4)]) hx hb dX6_size_57 rfl hl (by decide) rfl (fun ls hl => ?_)
            obtain ⟨x_28, ex_28⟩ : ∃ y : Int32, y = x_4 + (1) := ⟨_, rfl⟩
            have hw := hw x_28 ex_28
            refine lv_iinc (v := x_28) (lv' := [(4, .int x_28), (3, .int x_3), (2, .int x_25), (0, .ref a0), (1, .int p1)]) hx hb dX6_size_58 hl (k := 4) rfl (by rw [ex_28]; rfl) (by decide) rfl (fun ls hl => ?_)
            refine lv_goto (tgt := 7) hx hb dX6_size_61 (by decide) ?_
            exact ih_1 x_25 x_3 x_28 ls (Nat.lt_of_lt_of_le hw.2 (Nat.le_of_lt_succ hmu_1)) hw.1 (lv_sub hl [3, 4, 2, 1, 0] rfl)
          · have hw := hw.2 c_27
            refine lv_aload_n hx hb dX6_size_45 rfl (lv_at hl 1 rfl) ?_
            refine lv_iload hx hb dX6_size_46 (lv_at hl 4 rfl) ?_
            refine lv_iconst (v := 1) hx hb dX6_size_48 (by decide) ?_
            refine lv_iadd hx hb dX6_size_49 ?_
            refine z_ri [.int (x_4 + (1 : Int32))] [] ⟨hx, hb, hml, hown, hts⟩ (kX6_excessAt l D cA a0 a_state a_readPage a_tape a_cutRow a_cutWeights a_isKept a_lanes a_lengths a_cells f_taped f_fault f_broken f_brokenAt f_spot f_here f_token f_value f_torn f_state f_readPage f_tape f_cutRow f_cutWeights f_isKept f_lanes f_lengths f_cells (x_4 + (1 : Int32)) _ hw) (cwV 1 hts gX6_size_X6_excessAt rfl rfl rfl vX6_excessAt ⟨Nat.le_of_ble_eq_true rfl, Nat.le_of_ble_eq_true rfl⟩) hK (hP.sub [0, 1, 2, 3, 4, 5, 6, 7, 8, 9] rfl) (va_recv hK.1 (hP.sub (ws' := [(a0, .inr (5, [.ref a_state, .ref a_readPage, .ref a_tape, .int f_taped, .int f_fault, .int f_broken, .int f_brokenAt, .int f_spot, .int f_here, .int f_token, .int f_value, .ref a_cutRow, .ref a_cutWeights, .ref a_isKept, .ref a_lanes, .ref a_lengths, .ref a_cells, .int f_torn]))]) [0] rfl) (ci := 5) (q0 := 0) rfl rfl) rfl hl.1 rfl (Nat.le_of_ble_eq_true rfl) dX6_size_50 ⟨Nat.zero_le _, Nat.zero_le _⟩ (fun r_29 hw => ?_)
            refine lv_goto (tgt := 57) hx hb dX6_size_53 (by decide) ?_
            refine lv_istore_n (lv' := [(3, .int r_29), (2, .int x_25), (0, .ref a0), (1, .int p1), (4, .int x_4)]) hx hb dX6_size_57 rfl hl (by decide) rfl (fun ls hl => ?_)
            obtain ⟨x_30, ex_30⟩ : ∃ y : Int32, y = x_4 + (1) := ⟨_, rfl⟩
            have hw := hw x_30 ex_30
            refine lv_iinc (v := x_30) (lv' := [(4, .int x_30), (3, .int r_29), (2, .int x_25), (0, .ref a0), (1, .int p1)]) hx hb dX6_size_58 hl (k := 4) rfl (by rw [ex_30]; rfl) (by decide) rfl (fun ls hl => ?_)
            refine lv_goto (tgt := 7) hx hb dX6_size_61 (by decide) ?_
            exact ih_1 x_25 r_29 x_30 ls (Nat.lt_of_lt_of_le hw.2 (Nat.le_of_lt_succ hmu_1)) hw.1 (lv_sub hl [3, 4, 2, 1, 0] rfl)
  exact lp_1 (mu_1 (0 : Int32) (0 : Int32) (0 : Int32) + 1) (0 : Int32) (0 : Int32) (0 : Int32) ls (Nat.lt_succ_self _) hI_1 (lv_sub hl [3, 4, 2, 1, 0] rfl)
def wX6_bit (f_state : Nat → Int32) (p1 : Int32) (post : Int32 → Prop) : Prop := (wX6_places f_state (fun r_1 : Int32 => ((wX6_in ((p1).toInt64) (0 : Int64) (((r_1 - (1 : Int32))).toInt64) (fun r_2 : Int32 => (((r_2 = 0 → post (-1 : Int32)) ∧ (¬ r_2 = 0 → (vp_in p1 579 ∧ post (f_state p1.toNatClampNeg))))))))))
abbrev rX6_bit : Room := { frames := 1, cells := 0, slots := 0, locals := 25 }
theorem vX6_bit : yX6_bit.cls = RX6 ∧ yX6_bit.cls ≠ "java/lang/invoke/MethodHandle" ∧ yX6_bit.cls ≠ "java/lang/invoke/VarHandle" ∧ (parseMethodDescriptor yX6_bit.desc).map (fun d => d.parameters.length) = some 1 := by decide +kernel
set_option maxHeartbeats 4000000 in
set_option maxRecDepth 100000 in
theorem kX6_bit (l : Launch) (D : va_G) (cA : Nat → ClassId) (a0 a_state a_readPage a_tape a_cutRow a_cutWeights a_isKept a_lanes a_lengths a_cells : Nat) (f_taped : Int32) (f_fault : Int32) (f_broken : Int32) (f_brokenAt : Int32) (f_spot : Int32) (f_here : Int32) (f_token : Int32) (f_value : Int32) (f_torn : Int32) (f_state : Nat → Int32) (f_readPage : Nat → Int32) (f_tape : Nat → Int32) (f_cutRow : Nat → Int32) (f_cutWeights : Nat → Int32) (f_isKept : Nat → Int32) (f_lanes : Nat → Int32) (f_lengths : Nat → Int32) (f_cells : Nat → Int64) (p1 : Int32) (post : Int32 → Prop) (h : wX6_bit f_state p1 post) : Met l yX6_bit wsX6_bit rX6_bit (zPr D cA [.ref a0, .int p1] [(a0, .inr (5, [.ref a_state, .ref a_readPage, .ref a_tape, .int f_taped, .int f_fault, .int f_broken, .int f_brokenAt, .int f_spot, .int f_here, .int f_token, .int f_value, .ref a_cutRow, .ref a_cutWeights, .ref a_isKept, .ref a_lanes, .ref a_lengths, .ref a_cells, .int f_torn])), (a_state, .inl (cA 0, 579, .inl f_state)), (a_readPage, .inl (cA 0, 193, .inl f_readPage)), (a_tape, .inl (cA 0, 160, .inl f_tape)), (a_cutRow, .inl (cA 0, 128, .inl f_cutRow)), (a_cutWeights, .inl (cA 0, 64, .inl f_cutWeights)), (a_isKept, .inl (cA 3, 2, .inl f_isKept)), (a_lanes, .inl (cA 0, 4, .inl f_lanes)), (a_lengths, .inl (cA 0, 4, .inl f_lengths)), (a_cells, .inl (cA 1, 160, .inr (.inl f_cells)))]) (vp_Si post) 0 0 (fun _ => False) := by
  refine z_ro (cc := cX6_bit) (maxL := 2) (ret := (some .int)) (by decide) rfl (Nat.le_of_ble_eq_true rfl) ?_
  intro p e s m args below meth c ls hx hb hr hlk hml hown hts hK hP hl
  have hown : s.vm.findClass RX6 = some m.cls := hown
  have hl : lv_has ls 2 [(0, .ref a0), (1, .int p1)] := hl
  have hw := h
  unfold wX6_bit at hw
  have iwX6 : ∀ w ∈ wsX60, w ∈ wsX6_bit := fun w h9 => List.mem_cons_of_mem _ (List.mem_append_right _ h9)
  have kf7 := hts (.fieldLink RX6 7 "ExcessTreeModel" "state" "[I") (by decide +kernel)
  refine lv_iload_n hx hb dX6_bit_0 rfl (lv_at hl 1 rfl) ?_
  refine lv_i2l (v := ((p1).toInt64)) hx hb dX6_bit_1 rfl ?_
  refine lv_lconst (v := 0) hx hb dX6_bit_2 (by decide) ?_
  refine lv_aload_n hx hb dX6_bit_3 rfl (lv_at hl 0 rfl) ?_
  refine z_ri [] [.long (0 : Int64), .long ((p1).toInt64)] ⟨hx, hb, hml, hown, hts⟩ (kX6_places l D cA a0 a_state a_readPage a_tape a_cutRow a_cutWeights a_isKept a_lanes a_lengths a_cells f_taped f_fault f_broken f_brokenAt f_spot f_here f_token f_value f_torn f_state f_readPage f_tape f_cutRow f_cutWeights f_isKept f_lanes f_lengths f_cells _ hw) (cwV 0 hts gX6_bit_X6_places rfl rfl rfl vX6_places ⟨Nat.le_of_ble_eq_true rfl, Nat.le_of_ble_eq_true rfl⟩) hK (hP.sub [0, 1, 2, 3, 4, 5, 6, 7, 8, 9] rfl) (va_recv hK.1 (hP.sub (ws' := [(a0, .inr (5, [.ref a_state, .ref a_readPage, .ref a_tape, .int f_taped, .int f_fault, .int f_broken, .int f_brokenAt, .int f_spot, .int f_here, .int f_token, .int f_value, .ref a_cutRow, .ref a_cutWeights, .ref a_isKept, .ref a_lanes, .ref a_lengths, .ref a_cells, .int f_torn]))]) [0] rfl) (ci := 5) (q0 := 0) rfl rfl) rfl hl.1 rfl (Nat.le_of_ble_eq_true rfl) dX6_bit_4 ⟨Nat.zero_le _, Nat.zero_le _⟩ (fun r_1 hw => ?_)
  refine lv_iconst (v := 1) hx hb dX6_bit_7 (by decide) ?_
  refine lv_isub hx hb dX6_bit_8 ?_
  refine lv_i2l (v := (((r_1 - (1 : Int32))).toInt64)) hx hb dX6_bit_9 rfl ?_
  refine z_si [.long ((p1).toInt64), .long (0 : Int64), .long (((r_1 - (1 : Int32))).toInt64)] [] ⟨hx, hb, hml, hown, hts⟩ (kX6_in l D cA ((p1).toInt64) (0 : Int64) (((r_1 - (1 : Int32))).toInt64) _ hw) (va_cwS 3 hts gX6_bit_X6_in rfl rfl rfl vX6_in ⟨Nat.le_of_ble_eq_true rfl, Nat.le_of_ble_eq_true rfl⟩) hK z_p0 rfl hl.1 rfl (Nat.le_of_ble_eq_true rfl) dX6_bit_10 ⟨Nat.zero_le _, Nat.zero_le _⟩ (fun r_2 hw => ?_)
  refine lv_if_eq (tgt := 25) hx hb dX6_bit_13 (by decide) (fun c_3 => ?_) (fun c_3 => ?_)
  · have hw := hw.1 c_3
    refine lv_iconst (v := -1) hx hb dX6_bit_25 (by decide) ?_
    exact z_iret hx hb hr hlk hw dX6_bit_26
  · have hw := hw.2 c_3
    refine lv_aload_n hx hb dX6_bit_16 rfl (lv_at hl 0 rfl) ?_
    refine va_get (D := D) (ci := 5) (v := .ref a_state) (C := RX6) (T := TX6) (N := 18) hx hb hts iwX6 hown hK.1 hP 0 rfl rfl 0 (by decide) kf7 (fun _ h9 => h9) rfl dX6_bit_17 ?_
    refine lv_iload_n hx hb dX6_bit_20 rfl (lv_at hl 1 rfl) ?_
    have hq := hw.1
    have hw := hw.2
    refine va_iald hx hb hK.1 hP 1 0 rfl rfl hq dX6_bit_21 ?_
    refine lv_goto (tgt := 26) hx hb dX6_bit_22 (by decide) ?_
    exact z_iret hx hb hr hlk hw dX6_bit_26
def wX6_excess (f_state : Nat → Int32) (p1 : Int32) (post : Int32 → Prop) : Prop := (wX6_isMark f_state p1 (fun r_1 : Int32 => (((r_1 = 0 → post (-1 : Int32)) ∧ (¬ r_1 = 0 → (wX6_excessAt f_state p1 (fun r_3 : Int32 => (post r_3))))))))
abbrev rX6_excess : Room := { frames := 2, cells := 0, slots := 0, locals := 46 }
theorem vX6_excess : yX6_excess.cls = RX6 ∧ yX6_excess.cls ≠ "java/lang/invoke/MethodHandle" ∧ yX6_excess.cls ≠ "java/lang/invoke/VarHandle" ∧ (parseMethodDescriptor yX6_excess.desc).map (fun d => d.parameters.length) = some 1 := by decide +kernel
set_option maxHeartbeats 4000000 in
set_option maxRecDepth 100000 in
theorem kX6_excess (l : Launch) (D : va_G) (cA : Nat → ClassId) (a0 a_state a_readPage a_tape a_cutRow a_cutWeights a_isKept a_lanes a_lengths a_cells : Nat) (f_taped : Int32) (f_fault : Int32) (f_broken : Int32) (f_brokenAt : Int32) (f_spot : Int32) (f_here : Int32) (f_token : Int32) (f_value : Int32) (f_torn : Int32) (f_state : Nat → Int32) (f_readPage : Nat → Int32) (f_tape : Nat → Int32) (f_cutRow : Nat → Int32) (f_cutWeights : Nat → Int32) (f_isKept : Nat → Int32) (f_lanes : Nat → Int32) (f_lengths : Nat → Int32) (f_cells : Nat → Int64) (p1 : Int32) (post : Int32 → Prop) (h : wX6_excess f_state p1 post) : Met l yX6_excess wsX6_excess rX6_excess (zPr D cA [.ref a0, .int p1] [(a0, .inr (5, [.ref a_state, .ref a_readPage, .ref a_tape, .int f_taped, .int f_fault, .int f_broken, .int f_brokenAt, .int f_spot, .int f_here, .int f_token, .int f_value, .ref a_cutRow, .ref a_cutWeights, .ref a_isKept, .ref a_lanes, .ref a_lengths, .ref a_cells, .int f_torn])), (a_state, .inl (cA 0, 579, .inl f_state)), (a_readPage, .inl (cA 0, 193, .inl f_readPage)), (a_tape, .inl (cA 0, 160, .inl f_tape)), (a_cutRow, .inl (cA 0, 128, .inl f_cutRow)), (a_cutWeights, .inl (cA 0, 64, .inl f_cutWeights)), (a_isKept, .inl (cA 3, 2, .inl f_isKept)), (a_lanes, .inl (cA 0, 4, .inl f_lanes)), (a_lengths, .inl (cA 0, 4, .inl f_lengths)), (a_cells, .inl (cA 1, 160, .inr (.inl f_cells)))]) (vp_Si post) 0 0 (fun _ => False) := by
  refine z_ro (cc := cX6_excess) (maxL := 2) (ret := (some .int)) (by decide) rfl (Nat.le_of_ble_eq_true rfl) ?_
  intro p e s m args below meth c ls hx hb hr hlk hml hown hts hK hP hl
  have hown : s.vm.findClass RX6 = some m.cls := hown
  have hl : lv_has ls 2 [(0, .ref a0), (1, .int p1)] := hl
  have hw := h
  unfold wX6_excess at hw
  refine lv_aload_n hx hb dX6_excess_0 rfl (lv_at hl 0 rfl) ?_
  refine lv_iload_n hx hb dX6_excess_1 rfl (lv_at hl 1 rfl) ?_
  refine z_ri [.int p1] [] ⟨hx, hb, hml, hown, hts⟩ (kX6_isMark l D cA a0 a_state a_readPage a_tape a_cutRow a_cutWeights a_isKept a_lanes a_lengths a_cells f_taped f_fault f_broken f_brokenAt f_spot f_here f_token f_value f_torn f_state f_readPage f_tape f_cutRow f_cutWeights f_isKept f_lanes f_lengths f_cells p1 _ hw) (cwV 1 hts gX6_excess_X6_isMark rfl rfl rfl vX6_isMark ⟨Nat.le_of_ble_eq_true rfl, Nat.le_of_ble_eq_true rfl⟩) hK (hP.sub [0, 1, 2, 3, 4, 5, 6, 7, 8, 9] rfl) (va_recv hK.1 (hP.sub (ws' := [(a0, .inr (5, [.ref a_state, .ref a_readPage, .ref a_tape, .int f_taped, .int f_fault, .int f_broken, .int f_brokenAt, .int f_spot, .int f_here, .int f_token, .int f_value, .ref a_cutRow, .ref a_cutWeights, .ref a_isKept, .ref a_lanes, .ref a_lengths, .ref a_cells, .int f_torn]))]) [0] rfl) (ci := 5) (q0 := 0) rfl rfl) rfl hl.1 rfl (Nat.le_of_ble_eq_true rfl) dX6_excess_2 ⟨Nat.zero_le _, Nat.zero_le _⟩ (fun r_1 hw => ?_)
  refine lv_if_eq (tgt := 16) hx hb dX6_excess_5 (by decide) (fun c_2 => ?_) (fun c_2 => ?_)
  · have hw := hw.1 c_2
    refine lv_iconst (v := -1) hx hb dX6_excess_16 (by decide) ?_
    exact z_iret hx hb hr hlk hw dX6_excess_17
  · have hw := hw.2 c_2
    refine lv_aload_n hx hb dX6_excess_8 rfl (lv_at hl 0 rfl) ?_
    refine lv_iload_n hx hb dX6_excess_9 rfl (lv_at hl 1 rfl) ?_
    refine z_ri [.int p1] [] ⟨hx, hb, hml, hown, hts⟩ (kX6_excessAt l D cA a0 a_state a_readPage a_tape a_cutRow a_cutWeights a_isKept a_lanes a_lengths a_cells f_taped f_fault f_broken f_brokenAt f_spot f_here f_token f_value f_torn f_state f_readPage f_tape f_cutRow f_cutWeights f_isKept f_lanes f_lengths f_cells p1 _ hw) (cwV 1 hts gX6_excess_X6_excessAt rfl rfl rfl vX6_excessAt ⟨Nat.le_of_ble_eq_true rfl, Nat.le_of_ble_eq_true rfl⟩) hK (hP.sub [0, 1, 2, 3, 4, 5, 6, 7, 8, 9] rfl) (va_recv hK.1 (hP.sub (ws' := [(a0, .inr (5, [.ref a_state, .ref a_readPage, .ref a_tape, .int f_taped, .int f_fault, .int f_broken, .int f_brokenAt, .int f_spot, .int f_here, .int f_token, .int f_value, .ref a_cutRow, .ref a_cutWeights, .ref a_isKept, .ref a_lanes, .ref a_lengths, .ref a_cells, .int f_torn]))]) [0] rfl) (ci := 5) (q0 := 0) rfl rfl) rfl hl.1 rfl (Nat.le_of_ble_eq_true rfl) dX6_excess_10 ⟨Nat.zero_le _, Nat.zero_le _⟩ (fun r_3 hw => ?_)
    refine lv_goto (tgt := 17) hx hb dX6_excess_13 (by decide) ?_
    exact z_iret hx hb hr hlk hw dX6_excess_17
def wX6_rank (f_state : Nat → Int32) (p1 : Int32) (p2 : Int32) (post : Int32 → Prop) : Prop := (wX6_isMark f_state p1 (fun r_1 : Int32 => (((r_1 = 0 → post (-1 : Int32)) ∧ (¬ r_1 = 0 → (wX6_in ((p2).toInt64) (0 : Int64) (2 : Int64) (fun r_3 : Int32 => (((¬ r_3 = 0 → (∃ (I_5 : Int32 → Int32 → Prop) (mu_5 : Int32 → Int32 → Nat), I_5 (0 : Int32) (0 : Int32) ∧ ∀ (x_6 : Int32) (x_7 : Int32), I_5 x_6 x_7 → ((p1 ≤ x_7 → post x_6) ∧ (¬ p1 ≤ x_7 → (wX6_isSort f_state x_7 p2 (fun r_9 : Int32 => (((r_9 = 0 → (∀ x_11 : Int32, x_11 = (x_6 + (0 : Int32)) → (∀ x_12 : Int32, x_12 = x_7 + (1) → (I_5 x_11 x_12 ∧ mu_5 x_11 x_12 < mu_5 x_6 x_7)))) ∧ (¬ r_9 = 0 → ((p2 < (2 : Int32) → (∀ x_14 : Int32, x_14 = (x_6 + (1 : Int32)) → (∀ x_15 : Int32, x_15 = x_7 + (1) → (I_5 x_14 x_15 ∧ mu_5 x_14 x_15 < mu_5 x_6 x_7)))) ∧ (¬ p2 < (2 : Int32) → ((p1 ≤ (x_7 + (1 : Int32)) → (∀ x_17 : Int32, x_17 = (x_6 + (0 : Int32)) → (∀ x_18 : Int32, x_18 = x_7 + (1) → (I_5 x_17 x_18 ∧ mu_5 x_17 x_18 < mu_5 x_6 x_7)))) ∧ (¬ p1 ≤ (x_7 + (1 : Int32)) → (∀ x_19 : Int32, x_19 = (x_6 + (1 : Int32)) → (∀ x_20 : Int32, x_20 = x_7 + (1) → (I_5 x_19 x_20 ∧ mu_5 x_19 x_20 < mu_5 x_6 x_7)))))))))))))))) ∧ (r_3 = 0 → post (-1 : Int32)))))))))))
abbrev rX6_rank : Room := { frames := 3, cells := 0, slots := 0, locals := 63 }
theorem vX6_rank : yX6_rank.cls = RX6 ∧ yX6_rank.cls ≠ "java/lang/invoke/MethodHandle" ∧ yX6_rank.cls ≠ "java/lang/invoke/VarHandle" ∧ (parseMethodDescriptor yX6_rank.desc).map (fun d => d.parameters.length) = some 2 := by decide +kernel
set_option maxHeartbeats 4000000 in
set_option maxRecDepth 100000 in
theorem kX6_rank (l : Launch) (D : va_G) (cA : Nat → ClassId) (a0 a_state a_readPage a_tape a_cutRow a_cutWeights a_isKept a_lanes a_lengths a_cells : Nat) (f_taped : Int32) (f_fault : Int32) (f_broken : Int32) (f_brokenAt : Int32) (f_spot : Int32) (f_here : Int32) (f_token : Int32) (f_value : Int32) (f_torn : Int32) (f_state : Nat → Int32) (f_readPage : Nat → Int32) (f_tape : Nat → Int32) (f_cutRow : Nat → Int32) (f_cutWeights : Nat → Int32) (f_isKept : Nat → Int32) (f_lanes : Nat → Int32) (f_lengths : Nat → Int32) (f_cells : Nat → Int64) (p1 : Int32) (p2 : Int32) (post : Int32 → Prop) (h : wX6_rank f_state p1 p2 post) : Met l yX6_rank wsX6_rank rX6_rank (zPr D cA [.ref a0, .int p1, .int p2] [(a0, .inr (5, [.ref a_state, .ref a_readPage, .ref a_tape, .int f_taped, .int f_fault, .int f_broken, .int f_brokenAt, .int f_spot, .int f_here, .int f_token, .int f_value, .ref a_cutRow, .ref a_cutWeights, .ref a_isKept, .ref a_lanes, .ref a_lengths, .ref a_cells, .int f_torn])), (a_state, .inl (cA 0, 579, .inl f_state)), (a_readPage, .inl (cA 0, 193, .inl f_readPage)), (a_tape, .inl (cA 0, 160, .inl f_tape)), (a_cutRow, .inl (cA 0, 128, .inl f_cutRow)), (a_cutWeights, .inl (cA 0, 64, .inl f_cutWeights)), (a_isKept, .inl (cA 3, 2, .inl f_isKept)), (a_lanes, .inl (cA 0, 4, .inl f_lanes)), (a_lengths, .inl (cA 0, 4, .inl f_lengths)), (a_cells, .inl (cA 1, 160, .inr (.inl f_cells)))]) (vp_Si post) 0 0 (fun _ => False) := by
  refine z_ro (cc := cX6_rank) (maxL := 5) (ret := (some .int)) (by decide) rfl (Nat.le_of_ble_eq_true rfl) ?_
  intro p e s m args below meth c ls hx hb hr hlk hml hown hts hK hP hl
  have hown : s.vm.findClass RX6 = some m.cls := hown
  have hl : lv_has ls 5 [(0, .ref a0), (1, .int p1), (2, .int p2)] := hl
  have hw := h
  unfold wX6_rank at hw
  have kl109 := hts (.constantLong RX6 109 (2)) (by decide +kernel)
  refine lv_aload_n hx hb dX6_rank_0 rfl (lv_at hl 0 rfl) ?_
  refine lv_iload_n hx hb dX6_rank_1 rfl (lv_at hl 1 rfl) ?_
  refine z_ri [.int p1] [] ⟨hx, hb, hml, hown, hts⟩ (kX6_isMark l D cA a0 a_state a_readPage a_tape a_cutRow a_cutWeights a_isKept a_lanes a_lengths a_cells f_taped f_fault f_broken f_brokenAt f_spot f_here f_token f_value f_torn f_state f_readPage f_tape f_cutRow f_cutWeights f_isKept f_lanes f_lengths f_cells p1 _ hw) (cwV 1 hts gX6_rank_X6_isMark rfl rfl rfl vX6_isMark ⟨Nat.le_of_ble_eq_true rfl, Nat.le_of_ble_eq_true rfl⟩) hK (hP.sub [0, 1, 2, 3, 4, 5, 6, 7, 8, 9] rfl) (va_recv hK.1 (hP.sub (ws' := [(a0, .inr (5, [.ref a_state, .ref a_readPage, .ref a_tape, .int f_taped, .int f_fault, .int f_broken, .int f_brokenAt, .int f_spot, .int f_here, .int f_token, .int f_value, .ref a_cutRow, .ref a_cutWeights, .ref a_isKept, .ref a_lanes, .ref a_lengths, .ref a_cells, .int f_torn]))]) [0] rfl) (ci := 5) (q0 := 0) rfl rfl) rfl hl.1 rfl (Nat.le_of_ble_eq_true rfl) dX6_rank_2 ⟨Nat.zero_le _, Nat.zero_le _⟩ (fun r_1 hw => ?_)
  refine lv_if_eq (tgt := 20) hx hb dX6_rank_5 (by decide) (fun c_2 => ?_) (fun c_2 => ?_)
  · have hw := hw.1 c_2
    refine lv_iconst (v := -1) hx hb dX6_rank_20 (by decide) ?_
    exact z_iret hx hb hr hlk hw dX6_rank_21
  · have hw := hw.2 c_2
    refine lv_iload_n hx hb dX6_rank_8 rfl (lv_at hl 2 rfl) ?_
    refine lv_i2l (v := ((p2).toInt64)) hx hb dX6_rank_9 rfl ?_
    refine lv_lconst (v := 0) hx hb dX6_rank_10 (by decide) ?_
    refine lv_ldc2 (v := 2) hx hb hown kl109 dX6_rank_11 ?_
    refine z_si [.long ((p2).toInt64), .long (0 : Int64), .long (2 : Int64)] [] ⟨hx, hb, hml, hown, hts⟩ (kX6_in l D cA ((p2).toInt64) (0 : Int64) (2 : Int64) _ hw) (va_cwS 3 hts gX6_rank_X6_in rfl rfl rfl vX6_in ⟨Nat.le_of_ble_eq_true rfl, Nat.le_of_ble_eq_true rfl⟩) hK z_p0 rfl hl.1 rfl (Nat.le_of_ble_eq_true rfl) dX6_rank_14 ⟨Nat.zero_le _, Nat.zero_le _⟩ (fun r_3 hw => ?_)
    refine lv_if_ne (tgt := 22) hx hb dX6_rank_17 (by decide) (fun c_4 => ?_) (fun c_4 => ?_)
    · have hw := hw.1 c_4
      refine lv_iconst (v := 0) hx hb dX6_rank_22 (by decide) ?_
      refine lv_istore_n (lv' := [(3, .int (0 : Int32)), (0, .ref a0), (1, .int p1), (2, .int p2)]) hx hb dX6_rank_23 rfl hl (by decide) rfl (fun ls hl => ?_)
      refine lv_iconst (v := 0) hx hb dX6_rank_24 (by decide) ?_
      refine lv_istore (lv' := [(4, .int (0 : Int32)), (3, .int (0 : Int32)), (0, .ref a0), (1, .int p1), (2, .int p2)]) hx hb dX6_rank_25 hl (by decide) rfl (fun ls hl => ?_)
      obtain ⟨I_5, mu_5, hI_5, hw⟩ := hw
      have lp_5 : ∀ (nn : Nat) (x_6 : Int32) (x_7 : Int32) (ls : Array Slot), mu_5 x_6 x_7 < nn → I_5 x_6 x_7 → lv_has ls 5 [(0, .ref a0), (1, .int p1), (2, .int p2), (3, .int x_6), (4, .int x_7)] → W p l e rX6_rank s m args below meth c s.heap [] 0 0 (MQ below (vp_Si post) args s 0 0 (fun _ => False)) (F0 m 27 ls []) := by
        intro nn
        induction nn with
        | zero => exact fun _ _ _ h0 => absurd h0 (Nat.not_lt_zero _)
        | succ nn ih_5 =>
          intro x_6 x_7 ls hmu_5 hI_5 hl
          have hw := hw x_6 x_7 hI_5
          refine lv_iload hx hb dX6_rank_27 (lv_at hl 4 rfl) ?_
          refine lv_iload_n hx hb dX6_rank_29 rfl (lv_at hl 1 rfl) ?_
          refine lv_icmp_ge (tgt := 70) hx hb dX6_rank_30 (by decide) (fun c_8 => ?_) (fun c_8 => ?_)
          · have hw := hw.1 c_8
            refine lv_iload_n hx hb dX6_rank_70 rfl (lv_at hl 3 rfl) ?_
            exact z_iret hx hb hr hlk hw dX6_rank_71
          · have hw := hw.2 c_8
            refine lv_iload_n hx hb dX6_rank_33 rfl (lv_at hl 3 rfl) ?_
            refine lv_aload_n hx hb dX6_rank_34 rfl (lv_at hl 0 rfl) ?_
            refine lv_iload hx hb dX6_rank_35 (lv_at hl 4 rfl) ?_
            refine lv_iload_n hx hb dX6_rank_37 rfl (lv_at hl 2 rfl) ?_
            refine z_ri [.int x_7, .int p2] [.int x_6] ⟨hx, hb, hml, hown, hts⟩ (kX6_isSort l D cA a0 a_state a_readPage a_tape a_cutRow a_cutWeights a_isKept a_lanes a_lengths a_cells f_taped f_fault f_broken f_brokenAt f_spot f_here f_token f_value f_torn f_state f_readPage f_tape f_cutRow f_cutWeights f_isKept f_lanes f_lengths f_cells x_7 p2 _ hw) (cwV 2 hts gX6_rank_X6_isSort rfl rfl rfl vX6_isSort ⟨Nat.le_of_ble_eq_true rfl, Nat.le_of_ble_eq_true rfl⟩) hK (hP.sub [0, 1, 2, 3, 4, 5, 6, 7, 8, 9] rfl) (va_recv hK.1 (hP.sub (ws' := [(a0, .inr (5, [.ref a_state, .ref a_readPage, .ref a_tape, .int f_taped, .int f_fault, .int f_broken, .int f_brokenAt, .int f_spot, .int f_here, .int f_token, .int f_value, .ref a_cutRow, .ref a_cutWeights, .ref a_isKept, .ref a_lanes, .ref a_lengths, .ref a_cells, .int f_torn]))]) [0] rfl) (ci := 5) (q0 := 0) rfl rfl) rfl hl.1 rfl (Nat.le_of_ble_eq_true rfl) dX6_rank_38 ⟨Nat.zero_le _, Nat.zero_le _⟩ (fun r_9 hw => ?_)
            refine lv_if_eq (tgt := 61) hx hb dX6_rank_41 (by decide) (fun c_10 => ?_) (fun c_10 => ?_)
            · have hw := hw.1 c_10
              refine lv_iconst (v := 0) hx hb dX6_rank_61 (by decide) ?_
              refine lv_iadd hx hb dX6_rank_62 ?_
              refine lv_topi (fun x_11 ex_11 => ?_)
              have hw := hw x_11 ex_11
              refine lv_istore_n (lv' := [(3, .int x_11), (0, .ref a0), (1, .int p1), (2, .int p2), (4, .int x_7)]) hx hb dX6_rank_63 rfl hl (by decide) rfl (fun ls hl => ?_)
              obtain ⟨x_12, ex_12⟩ : ∃ y : Int32, y = x_7 + (1) := ⟨_, rfl⟩
              have hw := hw x_12 ex_12
              refine lv_iinc (v := x_12) (lv' := [(4, .int x_12), (3, .int x_11), (0, .ref a0), (1, .int p1), (2, .int p2)]) hx hb dX6_rank_64 hl (k := 4) rfl (by rw [ex_12]; rfl) (by decide) rfl (fun ls hl => ?_)
              refine lv_goto (tgt := 27) hx hb dX6_rank_67 (by decide) ?_
              exact ih_5 x_11 x_12 ls (Nat.lt_of_lt_of_le hw.2 (Nat.le_of_lt_succ hmu_5)) hw.1 (lv_sub hl [2, 3, 4, 1, 0] rfl)
            · have hw := hw.2 c_10
              refine lv_iload_n hx hb dX6_rank_44 rfl (lv_at hl 2 rfl) ?_
              refine lv_iconst (v := 2) hx hb dX6_rank_45 (by decide) ?_
              refine lv_icmp_lt (tgt := 57) hx hb dX6_rank_46 (by decide) (fun c_13 => ?_) (fun c_13 => ?_)
              · have hw := hw.1 c_13
                refine lv_iconst (v := 1) hx hb dX6_rank_57 (by decide) ?_
                refine lv_goto (tgt := 62) hx hb dX6_rank_58 (by decide) ?_
                refine lv_iadd hx hb dX6_rank_62 ?_
                refine lv_topi (fun x_14 ex_14 => ?_)
                have hw := hw x_14 ex_14
                refine lv_istore_n (lv' := [(3, .int x_14), (0, .ref a0), (1, .int p1), (2, .int p2), (4, .int x_7)]) hx hb dX6_rank_63 rfl hl (by decide) rfl (fun ls hl => ?_)
                obtain ⟨x_15, ex_15⟩ : ∃ y : Int32, y = x_7 + (1) := ⟨_, rfl⟩
                have hw := hw x_15 ex_15
                refine lv_iinc (v := x_15) (lv' := [(4, .int x_15), (3, .int x_14), (0, .ref a0), (1, .int p1), (2, .int p2)]) hx hb dX6_rank_64 hl (k := 4) rfl (by rw [ex_15]; rfl) (by decide) rfl (fun ls hl => ?_)
                refine lv_goto (tgt := 27) hx hb dX6_rank_67 (by decide) ?_
                exact ih_5 x_14 x_15 ls (Nat.lt_of_lt_of_le hw.2 (Nat.le_of_lt_succ hmu_5)) hw.1 (lv_sub hl [2, 3, 4, 1, 0] rfl)
              · have hw := hw.2 c_13
                refine lv_iload hx hb dX6_rank_49 (lv_at hl 4 rfl) ?_
                refine lv_iconst (v := 1) hx hb dX6_rank_51 (by decide) ?_
                refine lv_iadd hx hb dX6_rank_52 ?_
                refine lv_iload_n hx hb dX6_rank_53 rfl (lv_at hl 1 rfl) ?_
                refine lv_icmp_ge (tgt := 61) hx hb dX6_rank_54 (by decide) (fun c_16 => ?_) (fun c_16 => ?_)
                · have hw := hw.1 c_16
                  refine lv_iconst (v := 0) hx hb dX6_rank_61 (by decide) ?_
                  refine lv_iadd hx hb dX6_rank_62 ?_
                  refine lv_topi (fun x_17 ex_17 => ?_)
                  have hw := hw x_17 ex_17
                  refine lv_istore_n (lv' := [(3, .int x_17), (0, .ref a0), (1, .int p1), (2, .int p2), (4, .int x_7)]) hx hb dX6_rank_63 rfl hl (by decide) rfl (fun ls hl => ?_)
                  obtain ⟨x_18, ex_18⟩ : ∃ y : Int32, y = x_7 + (1) := ⟨_, rfl⟩
                  have hw := hw x_18 ex_18
                  refine lv_iinc (v := x_18) (lv' := [(4, .int x_18), (3, .int x_17), (0, .ref a0), (1, .int p1), (2, .int p2)]) hx hb dX6_rank_64 hl (k := 4) rfl (by rw [ex_18]; rfl) (by decide) rfl (fun ls hl => ?_)
                  refine lv_goto (tgt := 27) hx hb dX6_rank_67 (by decide) ?_
                  exact ih_5 x_17 x_18 ls (Nat.lt_of_lt_of_le hw.2 (Nat.le_of_lt_succ hmu_5)) hw.1 (lv_sub hl [2, 3, 4, 1, 0] rfl)
                · have hw := hw.2 c_16
                  refine lv_iconst (v := 1) hx hb dX6_rank_57 (by decide) ?_
                  refine lv_goto (tgt := 62) hx hb dX6_rank_58 (by decide) ?_
                  refine lv_iadd hx hb dX6_rank_62 ?_
                  refine lv_topi (fun x_19 ex_19 => ?_)
                  have hw := hw x_19 ex_19
                  refine lv_istore_n (lv' := [(3, .int x_19), (0, .ref a0), (1, .int p1), (2, .int p2), (4, .int x_7)]) hx hb dX6_rank_63 rfl hl (by decide) rfl (fun ls hl => ?_)
                  obtain ⟨x_20, ex_20⟩ : ∃ y : Int32, y = x_7 + (1) := ⟨_, rfl⟩
                  have hw := hw x_20 ex_20
                  refine lv_iinc (v := x_20) (lv' := [(4, .int x_20), (3, .int x_19), (0, .ref a0), (1, .int p1), (2, .int p2)]) hx hb dX6_rank_64 hl (k := 4) rfl (by rw [ex_20]; rfl) (by decide) rfl (fun ls hl => ?_)
                  refine lv_goto (tgt := 27) hx hb dX6_rank_67 (by decide) ?_
                  exact ih_5 x_19 x_20 ls (Nat.lt_of_lt_of_le hw.2 (Nat.le_of_lt_succ hmu_5)) hw.1 (lv_sub hl [2, 3, 4, 1, 0] rfl)
      exact lp_5 (mu_5 (0 : Int32) (0 : Int32) + 1) (0 : Int32) (0 : Int32) ls (Nat.lt_succ_self _) hI_5 (lv_sub hl [2, 3, 4, 1, 0] rfl)
    · have hw := hw.2 c_4
      refine lv_iconst (v := -1) hx hb dX6_rank_20 (by decide) ?_
      exact z_iret hx hb hr hlk hw dX6_rank_21
