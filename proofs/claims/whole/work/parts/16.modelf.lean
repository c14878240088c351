/-! written by wip/whole/gen.py -/
def wX6_select (f_state : Nat → Int32) (p1 : Int32) (p2 : Int32) (post : Int32 → Prop) : Prop := ((p1 < 0 → post (-1 : Int32)) ∧ (¬ p1 < 0 → (wX6_in ((p2).toInt64) (0 : Int64) (2 : Int64) (fun r_2 : Int32 => (((¬ r_2 = 0 → (∃ (I_4 : Int32 → Int32 → Prop) (mu_4 : Int32 → Int32 → Nat), I_4 p1 (0 : Int32) ∧ ∀ (x_5 : Int32) (x_6 : Int32), I_4 x_5 x_6 → (wX6_places f_state (fun r_7 : Int32 => (((r_7 ≤ x_6 → post (-4 : Int32)) ∧ (¬ r_7 ≤ x_6 → (wX6_isSort f_state x_6 p2 (fun r_9 : Int32 => (((r_9 = 0 → (∀ x_11 : Int32, x_11 = x_6 + (1) → (I_4 x_5 x_11 ∧ mu_4 x_5 x_11 < mu_4 x_5 x_6))) ∧ (¬ r_9 = 0 → ((¬ x_5 = 0 → (∀ x_13 : Int32, x_13 = x_5 + (-1) → (∀ x_14 : Int32, x_14 = x_6 + (1) → (I_4 x_13 x_14 ∧ mu_4 x_13 x_14 < mu_4 x_5 x_6)))) ∧ (x_5 = 0 → post x_6)))))))))))))) ∧ (r_2 = 0 → post (-1 : Int32))))))))
abbrev rX6_select : Room := { frames := 3, cells := 0, slots := 0, locals := 63 }
theorem vX6_select : yX6_select.cls = RX6 ∧ yX6_select.cls ≠ "java/lang/invoke/MethodHandle" ∧ yX6_select.cls ≠ "java/lang/invoke/VarHandle" ∧ (parseMethodDescriptor yX6_select.desc).map (fun d => d.parameters.length) = some 2 := by decide +kernel
set_option maxHeartbeats 4000000 in
set_option maxRecDepth 100000 in
theorem kX6_select (l : Launch) (D : va_G) (cA : Nat → ClassId) (a0 a_state a_readPage a_tape a_cutRow a_cutWeights a_isKept a_lanes a_lengths a_cells : Nat) (f_taped : Int32) (f_fault : Int32) (f_broken : Int32) (f_brokenAt : Int32) (f_spot : Int32) (f_here : Int32) (f_token : Int32) (f_value : Int32) (f_torn : Int32) (f_state : Nat → Int32) (f_readPage : Nat → Int32) (f_tape : Nat → Int32) (f_cutRow : Nat → Int32) (f_cutWeights : Nat → Int32) (f_isKept : Nat → Int32) (f_lanes : Nat → Int32) (f_lengths : Nat → Int32) (f_cells : Nat → Int64) (p1 : Int32) (p2 : Int32) (post : Int32 → Prop) (h : wX6_select f_state p1 p2 post) : Met l yX6_select wsX6_select rX6_select (zPr D cA [.ref a0, .int p1, .int p2] [(a0, .inr (5, [.ref a_state, .ref a_readPage, .ref a_tape, .int f_taped, .int f_fault, .int f_broken, .int f_brokenAt, .int f_spot, .int f_here, .int f_token, .int f_value, .ref a_cutRow, .ref a_cutWeights, .ref a_isKept, .ref a_lanes, .ref a_lengths, .ref a_cells, .int f_torn])), (a_state, .inl (cA 0, 579, .inl f_state)), (a_readPage, .inl (cA 0, 193, .inl f_readPage)), (a_tape, .inl (cA 0, 160, .inl f_tape)), (a_cutRow, .inl (cA 0, 128, .inl f_cutRow)), (a_cutWeights, .inl (cA 0, 64, .inl f_cutWeights)), (a_isKept, .inl (cA 3, 2, .inl f_isKept)), (a_lanes, .inl (cA 0, 4, .inl f_lanes)), (a_lengths, .inl (cA 0, 4, .inl f_lengths)), (a_cells, .inl (cA 1, 160, .inr (.inl f_cells)))]) (vp_Si post) 0 0 (fun _ => False) := by
  refine z_ro (cc := cX6_select) (maxL := 5) (ret := (some .int)) (by decide) rfl (Nat.le_of_ble_eq_true rfl) ?_
  intro p e s m args below meth c ls hx hb hr hlk hml hown hts hK hP hl
  have hown : s.vm.findClass RX6 = some m.cls := hown
  have hl : lv_has ls 5 [(0, .ref a0), (1, .int p1), (2, .int p2)] := hl
  have hw := h
  unfold wX6_select at hw
  have kl109 := hts (.constantLong RX6 109 (2)) (by decide +kernel)
  refine lv_iload_n hx hb dX6_select_0 rfl (lv_at hl 1 rfl) ?_
  refine lv_if_lt (tgt := 16) hx hb dX6_select_1 (by decide) (fun c_1 => ?_) (fun c_1 => ?_)
  · have hw := hw.1 c_1
    refine lv_iconst (v := -1) hx hb dX6_select_16 (by decide) ?_
    exact z_iret hx hb hr hlk hw dX6_select_17
  · have hw := hw.2 c_1
    refine lv_iload_n hx hb dX6_select_4 rfl (lv_at hl 2 rfl) ?_
    refine lv_i2l (v := ((p2).toInt64)) hx hb dX6_select_5 rfl ?_
    refine lv_lconst (v := 0) hx hb dX6_select_6 (by decide) ?_
    refine lv_ldc2 (v := 2) hx hb hown kl109 dX6_select_7 ?_
    refine z_si [.long ((p2).toInt64), .long (0 : Int64), .long (2 : Int64)] [] ⟨hx, hb, hml, hown, hts⟩ (kX6_in l D cA ((p2).toInt64) (0 : Int64) (2 : Int64) _ hw) (va_cwS 3 hts gX6_select_X6_in rfl rfl rfl vX6_in ⟨Nat.le_of_ble_eq_true rfl, Nat.le_of_ble_eq_true rfl⟩) hK z_p0 rfl hl.1 rfl (Nat.le_of_ble_eq_true rfl) dX6_select_10 ⟨Nat.zero_le _, Nat.zero_le _⟩ (fun r_2 hw => ?_)
    refine lv_if_ne (tgt := 18) hx hb dX6_select_13 (by decide) (fun c_3 => ?_) (fun c_3 => ?_)
    · have hw := hw.1 c_3
      refine lv_iload_n hx hb dX6_select_18 rfl (lv_at hl 1 rfl) ?_
      refine lv_istore_n (lv' := [(3, .int p1), (0, .ref a0), (1, .int p1), (2, .int p2)]) hx hb dX6_select_19 rfl hl (by decide) rfl (fun ls hl => ?_)
      refine lv_iconst (v := 0) hx hb dX6_select_20 (by decide) ?_
      refine lv_istore (lv' := [(4, .int (0 : Int32)), (3, .int p1), (0, .ref a0), (1, .int p1), (2, .int p2)]) hx hb dX6_select_21 hl (by decide) rfl (fun ls hl => ?_)
      obtain ⟨I_4, mu_4, hI_4, hw⟩ := hw
      have lp_4 : ∀ (nn : Nat) (x_5 : Int32) (x_6 : Int32) (ls : Array Slot), mu_4 x_5 x_6 < nn → I_4 x_5 x_6 → lv_has ls 5 [(0, .ref a0), (2, .int p2), (3, .int x_5), (4, .int x_6)] → W p l e rX6_select s m args below meth c s.heap [] 0 0 (MQ below (vp_Si post) args s 0 0 (fun _ => False)) (F0 m 23 ls []) := by
        intro nn
        induction nn with
        | zero => exact fun _ _ _ h0 => absurd h0 (Nat.not_lt_zero _)
        | succ nn ih_4 =>
          intro x_5 x_6 ls hmu_4 hI_4 hl
          have hw := hw x_5 x_6 hI_4
          refine lv_iload hx hb dX6_select_23 (lv_at hl 3 rfl) ?_
          refine lv_aload_n hx hb dX6_select_25 rfl (lv_at hl 0 rfl) ?_
          refine z_ri [] [.int x_6] ⟨hx, hb, hml, hown, hts⟩ (kX6_places l D cA a0 a_state a_readPage a_tape a_cutRow a_cutWeights a_isKept a_lanes a_lengths a_cells f_taped f_fault f_broken f_brokenAt f_spot f_here f_token f_value f_torn f_state f_readPage f_tape f_cutRow f_cutWeights f_isKept f_lanes f_lengths f_cells _ hw) (cwV 0 hts gX6_select_X6_places rfl rfl rfl vX6_places ⟨Nat.le_of_ble_eq_true rfl, Nat.le_of_ble_eq_true rfl⟩) hK (hP.sub [0, 1, 2, 3, 4, 5, 6, 7, 8, 9] rfl) (va_recv hK.1 (hP.sub (ws' := [(a0, .inr (5, [.ref a_state, .ref a_readPage, .ref a_tape, .int f_taped, .int f_fault, .int f_broken, .int f_brokenAt, .int f_spot, .int f_here, .int f_token, .int f_value, .ref a_cutRow, .ref a_cutWeights, .ref a_isKept, .ref a_lanes, .ref a_lengths, .ref a_cells, .int f_torn]))]) [0] rfl) (ci := 5) (q0 := 0) rfl rfl) rfl hl.1 rfl (Nat.le_of_ble_eq_true rfl) dX6_select_26 ⟨Nat.zero_le _, Nat.zero_le _⟩ (fun r_7 hw => ?_)
          refine lv_icmp_ge (tgt := 58) hx hb dX6_select_29 (by decide) (fun c_8 => ?_) (fun c_8 => ?_)
          · have hw := hw.1 c_8
            refine lv_bipush (v := -4) hx hb dX6_select_58 (by decide) ?_
            exact z_iret hx hb hr hlk hw dX6_select_60
          · have hw := hw.2 c_8
            refine lv_aload_n hx hb dX6_select_32 rfl (lv_at hl 0 rfl) ?_
            refine lv_iload hx hb dX6_select_33 (lv_at hl 3 rfl) ?_
            refine lv_iload_n hx hb dX6_select_35 rfl (lv_at hl 1 rfl) ?_
            refine z_ri [.int x_6, .int p2] [] ⟨hx, hb, hml, hown, hts⟩ (kX6_isSort l D cA a0 a_state a_readPage a_tape a_cutRow a_cutWeights a_isKept a_lanes a_lengths a_cells f_taped f_fault f_broken f_brokenAt f_spot f_here f_token f_value f_torn f_state f_readPage f_tape f_cutRow f_cutWeights f_isKept f_lanes f_lengths f_cells x_6 p2 _ hw) (cwV 2 hts gX6_select_X6_isSort rfl rfl rfl vX6_isSort ⟨Nat.le_of_ble_eq_true rfl, Nat.le_of_ble_eq_true rfl⟩) hK (hP.sub [0, 1, 2, 3, 4, 5, 6, 7, 8, 9] rfl) (va_recv hK.1 (hP.sub (ws' := [(a0, .inr (5, [.ref a_state, .ref a_readPage, .ref a_tape, .int f_taped, .int f_fault, .int f_broken, .int f_brokenAt, .int f_spot, .int f_here, .int f_token, .int f_value, .ref a_cutRow, .ref a_cutWeights, .ref a_isKept, .ref a_lanes, .ref a_lengths, .ref a_cells, .int f_torn]))]) [0] rfl) (ci := 5) (q0 := 0) rfl rfl) rfl hl.1 rfl (Nat.le_of_ble_eq_true rfl) dX6_select_36 ⟨Nat.zero_le _, Nat.zero_le _⟩ (fun r_9 hw => ?_)
            refine lv_if_eq (tgt := 52) hx hb dX6_select_39 (by decide) (fun c_10 => ?_) (fun c_10 => ?_)
            · have hw := hw.1 c_10
              obtain ⟨x_11, ex_11⟩ : ∃ y : Int32, y = x_6 + (1) := ⟨_, rfl⟩
              have hw := hw x_11 ex_11
              refine lv_iinc (v := x_11) (lv' := [(4, .int x_11), (0, .ref a0), (2, .int p2), (3, .int x_5)]) hx hb dX6_select_52 hl (k := 3) rfl (by rw [ex_11]; rfl) (by decide) rfl (fun ls hl => ?_)
              refine lv_goto (tgt := 23) hx hb dX6_select_55 (by decide) ?_
              exact ih_4 x_5 x_11 ls (Nat.lt_of_lt_of_le hw.2 (Nat.le_of_lt_succ hmu_4)) hw.1 (lv_sub hl [1, 2, 3, 0] rfl)
            · have hw := hw.2 c_10
              refine lv_iload_n hx hb dX6_select_42 rfl (lv_at hl 2 rfl) ?_
              refine lv_if_ne (tgt := 49) hx hb dX6_select_43 (by decide) (fun c_12 => ?_) (fun c_12 => ?_)
              · have hw := hw.1 c_12
                obtain ⟨x_13, ex_13⟩ : ∃ y : Int32, y = x_5 + (-1) := ⟨_, rfl⟩
                have hw := hw x_13 ex_13
                refine lv_iinc (v := x_13) (lv' := [(3, .int x_13), (0, .ref a0), (2, .int p2), (4, .int x_6)]) hx hb dX6_select_49 hl (k := 2) rfl (by rw [ex_13]; rfl) (by decide) rfl (fun ls hl => ?_)
                obtain ⟨x_14, ex_14⟩ : ∃ y : Int32, y = x_6 + (1) := ⟨_, rfl⟩
                have hw := hw x_14 ex_14
                refine lv_iinc (v := x_14) (lv' := [(4, .int x_14), (3, .int x_13), (0, .ref a0), (2, .int p2)]) hx hb dX6_select_52 hl (k := 3) rfl (by rw [ex_14]; rfl) (by decide) rfl (fun ls hl => ?_)
                refine lv_goto (tgt := 23) hx hb dX6_select_55 (by decide) ?_
                exact ih_4 x_13 x_14 ls (Nat.lt_of_lt_of_le hw.2 (Nat.le_of_lt_succ hmu_4)) hw.1 (lv_sub hl [2, 3, 1, 0] rfl)
              · have hw := hw.2 c_12
                refine lv_iload hx hb dX6_select_46 (lv_at hl 3 rfl) ?_
                exact z_iret hx hb hr hlk hw dX6_select_48
      exact lp_4 (mu_4 p1 (0 : Int32) + 1) p1 (0 : Int32) ls (Nat.lt_succ_self _) hI_4 (lv_sub hl [2, 4, 1, 0] rfl)
    · have hw := hw.2 c_3
      refine lv_iconst (v := -1) hx hb dX6_select_16 (by decide) ?_
      exact z_iret hx hb hr hlk hw dX6_select_17
def wX6_forward (f_state : Nat → Int32) (p1 : Int32) (p2 : Int32) (post : Int32 → Prop) : Prop := (wX6_isMark f_state p1 (fun r_1 : Int32 => (((¬ r_1 = 0 → (∀ x_3 : Int32, x_3 = (p1 + (1 : Int32)) → (∃ (I_4 : Int32 → Prop) (mu_4 : Int32 → Nat), I_4 x_3 ∧ ∀ (x_5 : Int32), I_4 x_5 → (wX6_places f_state (fun r_6 : Int32 => (((r_6 < x_5 → post (-4 : Int32)) ∧ (¬ r_6 < x_5 → (wX6_excessAt f_state x_5 (fun r_8 : Int32 => (((¬ r_8 = p2 → (∀ x_10 : Int32, x_10 = x_5 + (1) → (I_4 x_10 ∧ mu_4 x_10 < mu_4 x_5))) ∧ (r_8 = p2 → post x_5))))))))))))) ∧ (r_1 = 0 → post (-1 : Int32))))))
abbrev rX6_forward : Room := { frames := 2, cells := 0, slots := 0, locals := 46 }
theorem vX6_forward : yX6_forward.cls = RX6 ∧ yX6_forward.cls ≠ "java/lang/invoke/MethodHandle" ∧ yX6_forward.cls ≠ "java/lang/invoke/VarHandle" ∧ (parseMethodDescriptor yX6_forward.desc).map (fun d => d.parameters.length) = some 2 := by decide +kernel
set_option maxHeartbeats 4000000 in
set_option maxRecDepth 100000 in
theorem kX6_forward (l : Launch) (D : va_G) (cA : Nat → ClassId) (a0 a_state a_readPage a_tape a_cutRow a_cutWeights a_isKept a_lanes a_lengths a_cells : Nat) (f_taped : Int32) (f_fault : Int32) (f_broken : Int32) (f_brokenAt : Int32) (f_spot : Int32) (f_here : Int32) (f_token : Int32) (f_value : Int32) (f_torn : Int32) (f_state : Nat → Int32) (f_readPage : Nat → Int32) (f_tape : Nat → Int32) (f_cutRow : Nat → Int32) (f_cutWeights : Nat → Int32) (f_isKept : Nat → Int32) (f_lanes : Nat → Int32) (f_lengths : Nat → Int32) (f_cells : Nat → Int64) (p1 : Int32) (p2 : Int32) (post : Int32 → Prop) (h : wX6_forward f_state p1 p2 post) : Met l yX6_forward wsX6_forward rX6_forward (zPr D cA [.ref a0, .int p1, .int p2] [(a0, .inr (5, [.ref a_state, .ref a_readPage, .ref a_tape, .int f_taped, .int f_fault, .int f_broken, .int f_brokenAt, .int f_spot, .int f_here, .int f_token, .int f_value, .ref a_cutRow, .ref a_cutWeights, .ref a_isKept, .ref a_lanes, .ref a_lengths, .ref a_cells, .int f_torn])), (a_state, .inl (cA 0, 579, .inl f_state)), (a_readPage, .inl (cA 0, 193, .inl f_readPage)), (a_tape, .inl (cA 0, 160, .inl f_tape)), (a_cutRow, .inl (cA 0, 128, .inl f_cutRow)), (a_cutWeights, .inl (cA 0, 64, .inl f_cutWeights)), (a_isKept, .inl (cA 3, 2, .inl f_isKept)), (a_lanes, .inl (cA 0, 4, .inl f_lanes)), (a_lengths, .inl (cA 0, 4, .inl f_lengths)), (a_cells, .inl (cA 1, 160, .inr (.inl f_cells)))]) (vp_Si post) 0 0 (fun _ => False) := by
  refine z_ro (cc := cX6_forward) (maxL := 4) (ret := (some .int)) (by decide) rfl (Nat.le_of_ble_eq_true rfl) ?_
  intro p e s m args below meth c ls hx hb hr hlk hml hown hts hK hP hl
  have hown : s.vm.findClass RX6 = some m.cls := hown
  have hl : lv_has ls 4 [(0, .ref a0), (1, .int p1), (2, .int p2)] := hl
  have hw := h
  unfold wX6_forward at hw
  refine lv_aload_n hx hb dX6_forward_0 rfl (lv_at hl 0 rfl) ?_
  refine lv_iload_n hx hb dX6_forward_1 rfl (lv_at hl 1 rfl) ?_
  refine z_ri [.int p1] [] ⟨hx, hb, hml, hown, hts⟩ (kX6_isMark l D cA a0 a_state a_readPage a_tape a_cutRow a_cutWeights a_isKept a_lanes a_lengths a_cells f_taped f_fault f_broken f_brokenAt f_spot f_here f_token f_value f_torn f_state f_readPage f_tape f_cutRow f_cutWeights f_isKept f_lanes f_lengths f_cells p1 _ hw) (cwV 1 hts gX6_forward_X6_isMark rfl rfl rfl vX6_isMark ⟨Nat.le_of_ble_eq_true rfl, Nat.le_of_ble_eq_true rfl⟩) hK (hP.sub [0, 1, 2, 3, 4, 5, 6, 7, 8, 9] rfl) (va_recv hK.1 (hP.sub (ws' := [(a0, .inr (5, [.ref a_state, .ref a_readPage, .ref a_tape, .int f_taped, .int f_fault, .int f_broken, .int f_brokenAt, .int f_spot, .int f_here, .int f_token, .int f_value, .ref a_cutRow, .ref a_cutWeights, .ref a_isKept, .ref a_lanes, .ref a_lengths, .ref a_cells, .int f_torn]))]) [0] rfl) (ci := 5) (q0 := 0) rfl rfl) rfl hl.1 rfl (Nat.le_of_ble_eq_true rfl) dX6_forward_2 ⟨Nat.zero_le _, Nat.zero_le _⟩ (fun r_1 hw => ?_)
  refine lv_if_ne (tgt := 10) hx hb dX6_forward_5 (by decide) (fun c_2 => ?_) (fun c_2 => ?_)
  · have hw := hw.1 c_2
    refine lv_iload_n hx hb dX6_forward_10 rfl (lv_at hl 1 rfl) ?_
    refine lv_iconst (v := 1) hx hb dX6_forward_11 (by decide) ?_
    refine lv_iadd hx hb dX6_forward_12 ?_
    refine lv_topi (fun x_3 ex_3 => ?_)
    have hw := hw x_3 ex_3
    refine lv_istore_n (lv' := [(3, .int x_3), (0, .ref a0), (1, .int p1), (2, .int p2)]) hx hb dX6_forward_13 rfl hl (by decide) rfl (fun ls hl => ?_)
    obtain ⟨I_4, mu_4, hI_4, hw⟩ := hw
    have lp_4 : ∀ (nn : Nat) (x_5 : Int32) (ls : Array Slot), mu_4 x_5 < nn → I_4 x_5 → lv_has ls 4 [(0, .ref a0), (2, .int p2), (3, .int x_5)] → W p l e rX6_forward s m args below meth c s.heap [] 0 0 (MQ below (vp_Si post) args s 0 0 (fun _ => False)) (F0 m 14 ls []) := by
      intro nn
      induction nn with
      | zero => exact fun _ _ h0 => absurd h0 (Nat.not_lt_zero _)
      | succ nn ih_4 =>
        intro x_5 ls hmu_4 hI_4 hl
        have hw := hw x_5 hI_4
        refine lv_iload_n hx hb dX6_forward_14 rfl (lv_at hl 2 rfl) ?_
        refine lv_aload_n hx hb dX6_forward_15 rfl (lv_at hl 0 rfl) ?_
        refine z_ri [] [.int x_5] ⟨hx, hb, hml, hown, hts⟩ (kX6_places l D cA a0 a_state a_readPage a_tape a_cutRow a_cutWeights a_isKept a_lanes a_lengths a_cells f_taped f_fault f_broken f_brokenAt f_spot f_here f_token f_value f_torn f_state f_readPage f_tape f_cutRow f_cutWeights f_isKept f_lanes f_lengths f_cells _ hw) (cwV 0 hts gX6_forward_X6_places rfl rfl rfl vX6_places ⟨Nat.le_of_ble_eq_true rfl, Nat.le_of_ble_eq_true rfl⟩) hK (hP.sub [0, 1, 2, 3, 4, 5, 6, 7, 8, 9] rfl) (va_recv hK.1 (hP.sub (ws' := [(a0, .inr (5, [.ref a_state, .ref a_readPage, .ref a_tape, .int f_taped, .int f_fault, .int f_broken, .int f_brokenAt, .int f_spot, .int f_here, .int f_token, .int f_value, .ref a_cutRow, .ref a_cutWeights, .ref a_isKept, .ref a_lanes, .ref a_lengths, .ref a_cells, .int f_torn]))]) [0] rfl) (ci := 5) (q0 := 0) rfl rfl) rfl hl.1 rfl (Nat.le_of_ble_eq_true rfl) dX6_forward_16 ⟨Nat.zero_le _, Nat.zero_le _⟩ (fun r_6 hw => ?_)
        refine lv_icmp_gt (tgt := 39) hx hb dX6_forward_19 (by decide) (fun c_7 => ?_) (fun c_7 => ?_)
        · have hw := hw.1 c_7
          refine lv_bipush (v := -4) hx hb dX6_forward_39 (by decide) ?_
          exact z_iret hx hb hr hlk hw dX6_forward_41
        · have hw := hw.2 c_7
          refine lv_aload_n hx hb dX6_forward_22 rfl (lv_at hl 0 rfl) ?_
          refine lv_iload_n hx hb dX6_forward_23 rfl (lv_at hl 2 rfl) ?_
          refine z_ri [.int x_5] [] ⟨hx, hb, hml, hown, hts⟩ (kX6_excessAt l D cA a0 a_state a_readPage a_tape a_cutRow a_cutWeights a_isKept a_lanes a_lengths a_cells f_taped f_fault f_broken f_brokenAt f_spot f_here f_token f_value f_torn f_state f_readPage f_tape f_cutRow f_cutWeights f_isKept f_lanes f_lengths f_cells x_5 _ hw) (cwV 1 hts gX6_forward_X6_excessAt rfl rfl rfl vX6_excessAt ⟨Nat.le_of_ble_eq_true rfl, Nat.le_of_ble_eq_true rfl⟩) hK (hP.sub [0, 1, 2, 3, 4, 5, 6, 7, 8, 9] rfl) (va_recv hK.1 (hP.sub (ws' := [(a0, .inr (5, [.ref a_state, .ref a_readPage, .ref a_tape, .int f_taped, .int f_fault, .int f_broken, .int f_brokenAt, .int f_spot, .int f_here, .int f_token, .int f_value, .ref a_cutRow, .ref a_cutWeights, .ref a_isKept, .ref a_lanes, .ref a_lengths, .ref a_cells, .int f_torn]))]) [0] rfl) (ci := 5) (q0 := 0) rfl rfl) rfl hl.1 rfl (Nat.le_of_ble_eq_true rfl) dX6_forward_24 ⟨Nat.zero_le _, Nat.zero_le _⟩ (fun r_8 hw => ?_)
          refine lv_iload_n hx hb dX6_forward_27 rfl (lv_at hl 1 rfl) ?_
          refine lv_icmp_ne (tgt := 33) hx hb dX6_forward_28 (by decide) (fun c_9 => ?_) (fun c_9 => ?_)
          · have hw := hw.1 c_9
            obtain ⟨x_10, ex_10⟩ : ∃ y : Int32, y = x_5 + (1) := ⟨_, rfl⟩
            have hw := hw x_10 ex_10
            refine lv_iinc (v := x_10) (lv' := [(3, .int x_10), (0, .ref a0), (2, .int p2)]) hx hb dX6_forward_33 hl (k := 2) rfl (by rw [ex_10]; rfl) (by decide) rfl (fun ls hl => ?_)
            refine lv_goto (tgt := 14) hx hb dX6_forward_36 (by decide) ?_
            exact ih_4 x_10 ls (Nat.lt_of_lt_of_le hw.2 (Nat.le_of_lt_succ hmu_4)) hw.1 (lv_sub hl [1, 2, 0] rfl)
          · have hw := hw.2 c_9
            refine lv_iload_n hx hb dX6_forward_31 rfl (lv_at hl 2 rfl) ?_
            exact z_iret hx hb hr hlk hw dX6_forward_32
    exact lp_4 (mu_4 x_3 + 1) x_3 ls (Nat.lt_succ_self _) hI_4 (lv_sub hl [1, 3, 0] rfl)
  · have hw := hw.2 c_2
    refine lv_iconst (v := -1) hx hb dX6_forward_8 (by decide) ?_
    exact z_iret hx hb hr hlk hw dX6_forward_9
def wX6_backward (f_state : Nat → Int32) (p1 : Int32) (p2 : Int32) (post : Int32 → Prop) : Prop := (wX6_isMark f_state p1 (fun r_1 : Int32 => (((¬ r_1 = 0 → (∀ x_3 : Int32, x_3 = (p1 - (1 : Int32)) → (∃ (I_4 : Int32 → Prop) (mu_4 : Int32 → Nat), I_4 x_3 ∧ ∀ (x_5 : Int32), I_4 x_5 → ((x_5 < 0 → post (-4 : Int32)) ∧ (¬ x_5 < 0 → (wX6_excessAt f_state x_5 (fun r_7 : Int32 => (((¬ r_7 = p2 → (∀ x_9 : Int32, x_9 = x_5 + (-1) → (I_4 x_9 ∧ mu_4 x_9 < mu_4 x_5))) ∧ (r_7 = p2 → post x_5)))))))))) ∧ (r_1 = 0 → post (-1 : Int32))))))
abbrev rX6_backward : Room := { frames := 2, cells := 0, slots := 0, locals := 46 }
theorem vX6_backward : yX6_backward.cls = RX6 ∧ yX6_backward.cls ≠ "java/lang/invoke/MethodHandle" ∧ yX6_backward.cls ≠ "java/lang/invoke/VarHandle" ∧ (parseMethodDescriptor yX6_backward.desc).map (fun d => d.parameters.length) = some 2 := by decide +kernel
set_option maxHeartbeats 4000000 in
set_option maxRecDepth 100000 in
theorem kX6_backward (l : Launch) (D : va_G) (cA : Nat → ClassId) (a0 a_state a_readPage a_tape a_cutRow a_cutWeights a_isKept a_lanes a_lengths a_cells : Nat) (f_taped : Int32) (f_fault : Int32) (f_broken : Int32) (f_brokenAt : Int32) (f_spot : Int32) (f_here : Int32) (f_token : Int32) (f_value : Int32) (f_torn : Int32) (f_state : Nat → Int32) (f_readPage : Nat → Int32) (f_tape : Nat → Int32) (f_cutRow : Nat → Int32) (f_cutWeights : Nat → Int32) (f_isKept : Nat → Int32) (f_lanes : Nat → Int32) (f_lengths : Nat → Int32) (f_cells : Nat → Int64) (p1 : Int32) (p2 : Int32) (post : Int32 → Prop) (h : wX6_backward f_state p1 p2 post) : Met l yX6_backward wsX6_backward rX6_backward (zPr D cA [.ref a0, .int p1, .int p2] [(a0, .inr (5, [.ref a_state, .ref a_readPage, .ref a_tape, .int f_taped, .int f_fault, .int f_broken, .int f_brokenAt, .int f_spot, .int f_here, .int f_token, .int f_value, .ref a_cutRow, .ref a_cutWeights, .ref a_isKept, .ref a_lanes, .ref a_lengths, .ref a_cells, .int f_torn])), (a_state, .inl (cA 0, 579, .inl f_state)), (a_readPage, .inl (cA 0, 193, .inl f_readPage)), (a_tape, .inl (cA 0, 160, .inl f_tape)), (a_cutRow, .inl (cA 0, 128, .inl f_cutRow)), (a_cutWeights, .inl (cA 0, 64, .inl f_cutWeights)), (a_isKept, .inl (cA 3, 2, .inl f_isKept)), (a_lanes, .inl (cA 0, 4, .inl f_lanes)), (a_lengths, .inl (cA 0, 4, .inl f_lengths)), (a_cells, .inl (cA 1, 160, .inr (.inl f_cells)))]) (vp_Si post) 0 0 (fun _ => False) := by
  refine z_ro (cc := cX6_backward) (maxL := 4) (ret := (some .int)) (by decide) rfl (Nat.le_of_ble_eq_true rfl) ?_
  intro p e s m args below meth c ls hx hb hr hlk hml hown hts hK hP hl
  have hown : s.vm.findClass RX6 = some m.cls := hown
  have hl : lv_has ls 4 [(0, .ref a0), (1, .int p1), (2, .int p2)] := hl
  have hw := h
  unfold wX6_backward at hw
  refine lv_aload_n hx hb dX6_backward_0 rfl (lv_at hl 0 rfl) ?_
  refine lv_iload_n hx hb dX6_backward_1 rfl (lv_at hl 1 rfl) ?_
  refine z_ri [.int p1] [] ⟨hx, hb, hml, hown, hts⟩ (kX6_isMark l D cA a0 a_state a_readPage a_tape a_cutRow a_cutWeights a_isKept a_lanes a_lengths a_cells f_taped f_fault f_broken f_brokenAt f_spot f_here f_token f_value f_torn f_state f_readPage f_tape f_cutRow f_cutWeights f_isKept f_lanes f_lengths f_cells p1 _ hw) (cwV 1 hts gX6_backward_X6_isMark rfl rfl rfl vX6_isMark ⟨Nat.le_of_ble_eq_true rfl, Nat.le_of_ble_eq_true rfl⟩) hK (hP.sub [0, 1, 2, 3, 4, 5, 6, 7, 8, 9] rfl) (va_recv hK.1 (hP.sub (ws' := [(a0, .inr (5, [.ref a_state, .ref a_readPage, .ref a_tape, .int f_taped, .int f_fault, .int f_broken, .int f_brokenAt, .int f_spot, .int f_here, .int f_token, .int f_value, .ref a_cutRow, .ref a_cutWeights, .ref a_isKept, .ref a_lanes, .ref a_lengths, .ref a_cells, .int f_torn]))]) [0] rfl) (ci := 5) (q0 := 0) rfl rfl) rfl hl.1 rfl (Nat.le_of_ble_eq_true rfl) dX6_backward_2 ⟨Nat.zero_le _, Nat.zero_le _⟩ (fun r_1 hw => ?_)
  refine lv_if_ne (tgt := 10) hx hb dX6_backward_5 (by decide) (fun c_2 => ?_) (fun c_2 => ?_)
  · have hw := hw.1 c_2
    refine lv_iload_n hx hb dX6_backward_10 rfl (lv_at hl 1 rfl) ?_
    refine lv_iconst (v := 1) hx hb dX6_backward_11 (by decide) ?_
    refine lv_isub hx hb dX6_backward_12 ?_
    refine lv_topi (fun x_3 ex_3 => ?_)
    have hw := hw x_3 ex_3
    refine lv_istore_n (lv' := [(3, .int x_3), (0, .ref a0), (1, .int p1), (2, .int p2)]) hx hb dX6_backward_13 rfl hl (by decide) rfl (fun ls hl => ?_)
    obtain ⟨I_4, mu_4, hI_4, hw⟩ := hw
    have lp_4 : ∀ (nn : Nat) (x_5 : Int32) (ls : Array Slot), mu_4 x_5 < nn → I_4 x_5 → lv_has ls 4 [(0, .ref a0), (2, .int p2), (3, .int x_5)] → W p l e rX6_backward s m args below meth c s.heap [] 0 0 (MQ below (vp_Si post) args s 0 0 (fun _ => False)) (F0 m 14 ls []) := by
      intro nn
      induction nn with
      | zero => exact fun _ _ h0 => absurd h0 (Nat.not_lt_zero _)
      | succ nn ih_4 =>
        intro x_5 ls hmu_4 hI_4 hl
        have hw := hw x_5 hI_4
        refine lv_iload_n hx hb dX6_backward_14 rfl (lv_at hl 2 rfl) ?_
        refine lv_if_lt (tgt := 35) hx hb dX6_backward_15 (by decide) (fun c_6 => ?_) (fun c_6 => ?_)
        · have hw := hw.1 c_6
          refine lv_bipush (v := -4) hx hb dX6_backward_35 (by decide) ?_
          exact z_iret hx hb hr hlk hw dX6_backward_37
        · have hw := hw.2 c_6
          refine lv_aload_n hx hb dX6_backward_18 rfl (lv_at hl 0 rfl) ?_
          refine lv_iload_n hx hb dX6_backward_19 rfl (lv_at hl 2 rfl) ?_
          refine z_ri [.int x_5] [] ⟨hx, hb, hml, hown, hts⟩ (kX6_excessAt l D cA a0 a_state a_readPage a_tape a_cutRow a_cutWeights a_isKept a_lanes a_lengths a_cells f_taped f_fault f_broken f_brokenAt f_spot f_here f_token f_value f_torn f_state f_readPage f_tape f_cutRow f_cutWeights f_isKept f_lanes f_lengths f_cells x_5 _ hw) (cwV 1 hts gX6_backward_X6_excessAt rfl rfl rfl vX6_excessAt ⟨Nat.le_of_ble_eq_true rfl, Nat.le_of_ble_eq_true rfl⟩) hK (hP.sub [0, 1, 2, 3, 4, 5, 6, 7, 8, 9] rfl) (va_recv hK.1 (hP.sub (ws' := [(a0, .inr (5, [.ref a_state, .ref a_readPage, .ref a_tape, .int f_taped, .int f_fault, .int f_broken, .int f_brokenAt, .int f_spot, .int f_here, .int f_token, .int f_value, .ref a_cutRow, .ref a_cutWeights, .ref a_isKept, .ref a_lanes, .ref a_lengths, .ref a_cells, .int f_torn]))]) [0] rfl) (ci := 5) (q0 := 0) rfl rfl) rfl hl.1 rfl (Nat.le_of_ble_eq_true rfl) dX6_backward_20 ⟨Nat.zero_le _, Nat.zero_le _⟩ (fun r_7 hw => ?_)
          refine lv_iload_n hx hb dX6_backward_23 rfl (lv_at hl 1 rfl) ?_
          refine lv_icmp_ne (tgt := 29) hx hb dX6_backward_24 (by decide) (fun c_8 => ?_) (fun c_8 => ?_)
          · have hw := hw.1 c_8
            obtain ⟨x_9, ex_9⟩ : ∃ y : Int32, y = x_5 + (-1) := ⟨_, rfl⟩
            have hw := hw x_9 ex_9
            refine lv_iinc (v := x_9) (lv' := [(3, .int x_9), (0, .ref a0), (2, .int p2)]) hx hb dX6_backward_29 hl (k := 2) rfl (by rw [ex_9]; rfl) (by decide) rfl (fun ls hl => ?_)
            refine lv_goto (tgt := 14) hx hb dX6_backward_32 (by decide) ?_
            exact ih_4 x_9 ls (Nat.lt_of_lt_of_le hw.2 (Nat.le_of_lt_succ hmu_4)) hw.1 (lv_sub hl [1, 2, 0] rfl)
          · have hw := hw.2 c_8
            refine lv_iload_n hx hb dX6_backward_27 rfl (lv_at hl 2 rfl) ?_
            exact z_iret hx hb hr hlk hw dX6_backward_28
    exact lp_4 (mu_4 x_3 + 1) x_3 ls (Nat.lt_succ_self _) hI_4 (lv_sub hl [1, 3, 0] rfl)
  · have hw := hw.2 c_2
    refine lv_iconst (v := -1) hx hb dX6_backward_8 (by decide) ?_
    exact z_iret hx hb hr hlk hw dX6_backward_9
def wX6_match (f_state : Nat → Int32) (p1 : Int32) (post : Int32 → Prop) : Prop := (wX6_places f_state (fun r_1 : Int32 => ((wX6_in ((p1).toInt64) (0 : Int64) (((r_1 - (1 : Int32))).toInt64) (fun r_2 : Int32 => (((¬ r_2 = 0 → (vp_in p1 579 ∧ ((¬ (f_state p1.toNatClampNeg) = (1 : Int32) → (∃ (I_5 : Int32 → Int32 → Prop) (mu_5 : Int32 → Int32 → Nat), I_5 p1 (1 : Int32) ∧ ∀ (x_6 : Int32) (x_7 : Int32), I_5 x_6 x_7 → ((x_7 ≤ 0 → post x_6) ∧ (¬ x_7 ≤ 0 → (∀ x_9 : Int32, x_9 = x_6 + (-1) → (vp_in x_9 579 ∧ ((¬ (f_state x_9.toNatClampNeg) = (1 : Int32) → (∀ x_11 : Int32, x_11 = (x_7 + (1 : Int32)) → (I_5 x_9 x_11 ∧ mu_5 x_9 x_11 < mu_5 x_6 x_7))) ∧ ((f_state x_9.toNatClampNeg) = (1 : Int32) → (∀ x_12 : Int32, x_12 = (x_7 + (-1 : Int32)) → (I_5 x_9 x_12 ∧ mu_5 x_9 x_12 < mu_5 x_6 x_7)))))))))) ∧ ((f_state p1.toNatClampNeg) = (1 : Int32) → (wX6_shutOf f_state p1 (fun r_13 : Int32 => (post r_13))))))) ∧ (r_2 = 0 → post (-1 : Int32)))))))))
abbrev rX6_match : Room := { frames := 1, cells := 0, slots := 0, locals := 25 }
theorem vX6_match : yX6_match.cls = RX6 ∧ yX6_match.cls ≠ "java/lang/invoke/MethodHandle" ∧ yX6_match.cls ≠ "java/lang/invoke/VarHandle" ∧ (parseMethodDescriptor yX6_match.desc).map (fun d => d.parameters.length) = some 1 := by decide +kernel
set_option maxHeartbeats 4000000 in
set_option maxRecDepth 100000 in
theorem kX6_match (l : Launch) (D : va_G) (cA : Nat → ClassId) (a0 a_state a_readPage a_tape a_cutRow a_cutWeights a_isKept a_lanes a_lengths a_cells : Nat) (f_taped : Int32) (f_fault : Int32) (f_broken : Int32) (f_brokenAt : Int32) (f_spot : Int32) (f_here : Int32) (f_token : Int32) (f_value : Int32) (f_torn : Int32) (f_state : Nat → Int32) (f_readPage : Nat → Int32) (f_tape : Nat → Int32) (f_cutRow : Nat → Int32) (f_cutWeights : Nat → Int32) (f_isKept : Nat → Int32) (f_lanes : Nat → Int32) (f_lengths : Nat → Int32) (f_cells : Nat → Int64) (p1 : Int32) (post : Int32 → Prop) (h : wX6_match f_state p1 post) : Met l yX6_match wsX6_match rX6_match (zPr D cA [.ref a0, .int p1] [(a0, .inr (5, [.ref a_state, .ref a_readPage, .ref a_tape, .int f_taped, .int f_fault, .int f_broken, .int f_brokenAt, .int f_spot, .int f_here, .int f_token, .int f_value, .ref a_cutRow, .ref a_cutWeights, .ref a_isKept, .ref a_lanes, .ref a_lengths, .ref a_cells, .int f_torn])), (a_state, .inl (cA 0, 579, .inl f_state)), (a_readPage, .inl (cA 0, 193, .inl f_readPage)), (a_tape, .inl (cA 0, 160, .inl f_tape)), (a_cutRow, .inl (cA 0, 128, .inl f_cutRow)), (a_cutWeights, .inl (cA 0, 64, .inl f_cutWeights)), (a_isKept, .inl (cA 3, 2, .inl f_isKept)), (a_lanes, .inl (cA 0, 4, .inl f_lanes)), (a_lengths, .inl (cA 0, 4, .inl f_lengths)), (a_cells, .inl (cA 1, 160, .inr (.inl f_cells)))]) (vp_Si post) 0 0 (fun _ => False) := by
  refine z_ro (cc := cX6_match) (maxL := 4) (ret := (some .int)) (by decide) rfl (Nat.le_of_ble_eq_true rfl) ?_
  intro p e s m args below meth c ls hx hb hr hlk hml hown hts hK hP hl
  have hown : s.vm.findClass RX6 = some m.cls := hown
  have hl : lv_has ls 4 [(0, .ref a0), (1, .int p1)] := hl
  have hw := h
  unfold wX6_match at hw
  have iwX6 : ∀ w ∈ wsX60, w ∈ wsX6_match := fun w h9 => List.mem_cons_of_mem _ (List.mem_append_right _ h9)
  have kf7 := hts (.fieldLink RX6 7 "ExcessTreeModel" "state" "[I") (by decide +kernel)
  refine lv_iload_n hx hb dX6_match_0 rfl (lv_at hl 1 rfl) ?_
  refine lv_i2l (v := ((p1).toInt64)) hx hb dX6_match_1 rfl ?_
  refine lv_lconst (v := 0) hx hb dX6_match_2 (by decide) ?_
  refine lv_aload_n hx hb dX6_match_3 rfl (lv_at hl 0 rfl) ?_
  refine z_ri [] [.long (0 : Int64), .long ((p1).toInt64)] ⟨hx, hb, hml, hown, hts⟩ (kX6_places l D cA a0 a_state a_readPage a_tape a_cutRow a_cutWeights a_isKept a_lanes a_lengths a_cells f_taped f_fault f_broken f_brokenAt f_spot f_here f_token f_value f_torn f_state f_readPage f_tape f_cutRow f_cutWeights f_isKept f_lanes f_lengths f_cells _ hw) (cwV 0 hts gX6_match_X6_places rfl rfl rfl vX6_places ⟨Nat.le_of_ble_eq_true rfl, Nat.le_of_ble_eq_true rfl⟩) hK (hP.sub [0, 1, 2, 3, 4, 5, 6, 7, 8, 9] rfl) (va_recv hK.1 (hP.sub (ws' := [(a0, .inr (5, [.ref a_state, .ref a_readPage, .ref a_tape, .int f_taped, .int f_fault, .int f_broken, .int f_brokenAt, .int f_spot, .int f_here, .int f_token, .int f_value, .ref a_cutRow, .ref a_cutWeights, .ref a_isKept, .ref a_lanes, .ref a_lengths, .ref a_cells, .int f_torn]))]) [0] rfl) (ci := 5) (q0 := 0) rfl rfl) rfl hl.1 rfl (Nat.le_of_ble_eq_true rfl) dX6_match_4 ⟨Nat.zero_le _, Nat.zero_le _⟩ (fun r_1 hw => ?_)
  refine lv_iconst (v := 1) hx hb dX6_match_7 (by decide) ?_
  refine lv_isub hx hb dX6_match_8 ?_
  refine lv_i2l (v := (((r_1 - (1 : Int32))).toInt64)) hx hb dX6_match_9 rfl ?_
  refine z_si [.long ((p1).toInt64), .long (0 : Int64), .long (((r_1 - (1 : Int32))).toInt64)] [] ⟨hx, hb, hml, hown, hts⟩ (kX6_in l D cA ((p1).toInt64) (0 : Int64) (((r_1 - (1 : Int32))).toInt64) _ hw) (va_cwS 3 hts gX6_match_X6_in rfl rfl rfl vX6_in ⟨Nat.le_of_ble_eq_true rfl, Nat.le_of_ble_eq_true rfl⟩) hK z_p0 rfl hl.1 rfl (Nat.le_of_ble_eq_true rfl) dX6_match_10 ⟨Nat.zero_le _, Nat.zero_le _⟩ (fun r_2 hw => ?_)
  refine lv_if_ne (tgt := 18) hx hb dX6_match_13 (by decide) (fun c_3 => ?_) (fun c_3 => ?_)
  · have hw := hw.1 c_3
    refine lv_aload_n hx hb dX6_match_18 rfl (lv_at hl 0 rfl) ?_
    refine va_get (D := D) (ci := 5) (v := .ref a_state) (C := RX6) (T := TX6) (N := 18) hx hb hts iwX6 hown hK.1 hP 0 rfl rfl 0 (by decide) kf7 (fun _ h9 => h9) rfl dX6_match_19 ?_
    refine lv_iload_n hx hb dX6_match_22 rfl (lv_at hl 1 rfl) ?_
    have hq := hw.1
    have hw := hw.2
    refine va_iald hx hb hK.1 hP 1 0 rfl rfl hq dX6_match_23 ?_
    refine lv_iconst (v := 1) hx hb dX6_match_24 (by decide) ?_
    refine lv_icmp_ne (tgt := 34) hx hb dX6_match_25 (by decide) (fun c_4 => ?_) (fun c_4 => ?_)
    · have hw := hw.1 c_4
      refine lv_iload_n hx hb dX6_match_34 rfl (lv_at hl 1 rfl) ?_
      refine lv_istore_n (lv' := [(2, .int p1), (0, .ref a0), (1, .int p1)]) hx hb dX6_match_35 rfl hl (by decide) rfl (fun ls hl => ?_)
      refine lv_iconst (v := 1) hx hb dX6_match_36 (by decide) ?_
      refine lv_istore_n (lv' := [(3, .int (1 : Int32)), (2, .int p1), (0, .ref a0), (1, .int p1)]) hx hb dX6_match_37 rfl hl (by decide) rfl (fun ls hl => ?_)
      obtain ⟨I_5, mu_5, hI_5, hw⟩ := hw
      have lp_5 : ∀ (nn : Nat) (x_6 : Int32) (x_7 : Int32) (ls : Array Slot), mu_5 x_6 x_7 < nn → I_5 x_6 x_7 → lv_has ls 4 [(0, .ref a0), (2, .int x_6), (3, .int x_7)] → W p l e rX6_match s m args below meth c s.heap [] 0 0 (MQ below (vp_Si post) args s 0 0 (fun _ => False)) (F0 m 38 ls []) := by
        intro nn
        induction nn with
        | zero => exact fun _ _ _ h0 => absurd h0 (Nat.not_lt_zero _)
        | succ nn ih_5 =>
          intro x_6 x_7 ls hmu_5 hI_5 hl
          have hw := hw x_6 x_7 hI_5
          refine lv_iload_n hx hb dX6_match_38 rfl (lv_at hl 2 rfl) ?_
          refine lv_if_le (tgt := 66) hx hb dX6_match_39 (by decide) (fun c_8 => ?_) (fun c_8 => ?_)
          · have hw := hw.1 c_8
            refine lv_iload_n hx hb dX6_match_66 rfl (lv_at hl 1 rfl) ?_
            exact z_iret hx hb hr hlk hw dX6_match_67
          · have hw := hw.2 c_8
            obtain ⟨x_9, ex_9⟩ : ∃ y : Int32, y = x_6 + (-1) := ⟨_, rfl⟩
            have hw := hw x_9 ex_9
            refine lv_iinc (v := x_9) (lv' := [(2, .int x_9), (0, .ref a0), (3, .int x_7)]) hx hb dX6_match_42 hl (k := 1) rfl (by rw [ex_9]; rfl) (by decide) rfl (fun ls hl => ?_)
            refine lv_iload_n hx hb dX6_match_45 rfl (lv_at hl 2 rfl) ?_
            refine lv_aload_n hx hb dX6_match_46 rfl (lv_at hl 1 rfl) ?_
            refine va_get (D := D) (ci := 5) (v := .ref a_state) (C := RX6) (T := TX6) (N := 18) hx hb hts iwX6 hown hK.1 hP 0 rfl rfl 0 (by decide) kf7 (fun _ h9 => h9) rfl dX6_match_47 ?_
            refine lv_iload_n hx hb dX6_match_50 rfl (lv_at hl 0 rfl) ?_
            have hq := hw.1
            have hw := hw.2
            refine va_iald hx hb hK.1 hP 1 0 rfl rfl hq dX6_match_51 ?_
            refine lv_iconst (v := 1) hx hb dX6_match_52 (by decide) ?_
            refine lv_icmp_ne (tgt := 60) hx hb dX6_match_53 (by decide) (fun c_10 => ?_) (fun c_10 => ?_)
            · have hw := hw.1 c_10
              refine lv_iconst (v := 1) hx hb dX6_match_60 (by decide) ?_
              refine lv_iadd hx hb dX6_match_61 ?_
              refine lv_topi (fun x_11 ex_11 => ?_)
              have hw := hw x_11 ex_11
              refine lv_istore_n (lv' := [(3, .int x_11), (2, .int x_9), (0, .ref a0)]) hx hb dX6_match_62 rfl hl (by decide) rfl (fun ls hl => ?_)
              refine lv_goto (tgt := 38) hx hb dX6_match_63 (by decide) ?_
              exact ih_5 x_9 x_11 ls (Nat.lt_of_lt_of_le hw.2 (Nat.le_of_lt_succ hmu_5)) hw.1 (lv_sub hl [2, 1, 0] rfl)
            · have hw := hw.2 c_10
              refine lv_iconst (v := -1) hx hb dX6_match_56 (by decide) ?_
              refine lv_goto (tgt := 61) hx hb dX6_match_57 (by decide) ?_
              refine lv_iadd hx hb dX6_match_61 ?_
              refine lv_topi (fun x_12 ex_12 => ?_)
              have hw := hw x_12 ex_12
              refine lv_istore_n (lv' := [(3, .int x_12), (2, .int x_9), (0, .ref a0)]) hx hb dX6_match_62 rfl hl (by decide) rfl (fun ls hl => ?_)
              refine lv_goto (tgt := 38) hx hb dX6_match_63 (by decide) ?_
              exact ih_5 x_9 x_12 ls (Nat.lt_of_lt_of_le hw.2 (Nat.le_of_lt_succ hmu_5)) hw.1 (lv_sub hl [2, 1, 0] rfl)
      exact lp_5 (mu_5 p1 (1 : Int32) + 1) p1 (1 : Int32) ls (Nat.lt_succ_self _) hI_5 (lv_sub hl [2, 1, 0] rfl)
    · have hw := hw.2 c_4
      refine lv_aload_n hx hb dX6_match_28 rfl (lv_at hl 0 rfl) ?_
      refine lv_iload_n hx hb dX6_match_29 rfl (lv_at hl 1 rfl) ?_
      refine z_ri [.int p1] [] ⟨hx, hb, hml, hown, hts⟩ (kX6_shutOf l D cA a0 a_state a_readPage a_tape a_cutRow a_cutWeights a_isKept a_lanes a_lengths a_cells f_taped f_fault f_broken f_brokenAt f_spot f_here f_token f_value f_torn f_state f_readPage f_tape f_cutRow f_cutWeights f_isKept f_lanes f_lengths f_cells p1 _ hw) (cwV 1 hts gX6_match_X6_shutOf rfl rfl rfl vX6_shutOf ⟨Nat.le_of_ble_eq_true rfl, Nat.le_of_ble_eq_true rfl⟩) hK (hP.sub [0, 1, 2, 3, 4, 5, 6, 7, 8, 9] rfl) (va_recv hK.1 (hP.sub (ws' := [(a0, .inr (5, [.ref a_state, .ref a_readPage, .ref a_tape, .int f_taped, .int f_fault, .int f_broken, .int f_brokenAt, .int f_spot, .int f_here, .int f_token, .int f_value, .ref a_cutRow, .ref a_cutWeights, .ref a_isKept, .ref a_lanes, .ref a_lengths, .ref a_cells, .int f_torn]))]) [0] rfl) (ci := 5) (q0 := 0) rfl rfl) rfl hl.1 rfl (Nat.le_of_ble_eq_true rfl) dX6_match_30 ⟨Nat.zero_le _, Nat.zero_le _⟩ (fun r_13 hw => ?_)
      exact z_iret hx hb hr hlk hw dX6_match_33
  · have hw := hw.2 c_3
    refine lv_iconst (v := -1) hx hb dX6_match_16 (by decide) ?_
    exact z_iret hx hb hr hlk hw dX6_match_17
def wX6_least (f_state : Nat → Int32) (p1 : Int32) (p2 : Int32) (p3 : Int32) (post : Int32 → Prop) : Prop := (wX6_isMark f_state p1 (fun r_1 : Int32 => (((r_1 = 0 → post (-1 : Int32)) ∧ (¬ r_1 = 0 → (wX6_isMark f_state p2 (fun r_3 : Int32 => (((r_3 = 0 → post (-1 : Int32)) ∧ (¬ r_3 = 0 → ((p2 < p1 → post (-1 : Int32)) ∧ (¬ p2 < p1 → (wX6_in ((p3).toInt64) (0 : Int64) (3 : Int64) (fun r_6 : Int32 => (((¬ r_6 = 0 → (wX6_excessAt f_state p1 (fun r_8 : Int32 => ((∃ (I_9 : Int32 → Int32 → Int32 → Int32 → Int32 → Prop) (mu_9 : Int32 → Int32 → Int32 → Int32 → Int32 → Nat), I_9 r_8 r_8 p1 (0 : Int32) p1 ∧ ∀ (x_10 : Int32) (x_11 : Int32) (x_12 : Int32) (x_13 : Int32) (x_14 : Int32), I_9 x_10 x_11 x_12 x_13 x_14 → ((p2 < x_14 → ((¬ p3 = 0 → ((¬ p3 = (1 : Int32) → ((¬ p3 = (2 : Int32) → post x_11) ∧ (p3 = (2 : Int32) → post x_13))) ∧ (p3 = (1 : Int32) → post x_12))) ∧ (p3 = 0 → post x_10))) ∧ (¬ p2 < x_14 → (wX6_excessAt f_state x_14 (fun r_19 : Int32 => ((∃ J_20 : Int32 → Prop, ((x_10 ≤ r_19 → ((¬ r_19 = x_10 → (J_20 x_13)) ∧ (r_19 = x_10 → (J_20 (x_13 + (1 : Int32)))))) ∧ (¬ x_10 ≤ r_19 → (J_20 (1 : Int32)))) ∧ ∀ (x_21 : Int32), J_20 x_21 → (∃ J_22 : Int32 → Prop, ((x_10 ≤ r_19 → (J_22 x_12)) ∧ (¬ x_10 ≤ r_19 → (J_22 x_14))) ∧ ∀ (x_23 : Int32), J_22 x_23 → (∃ J_24 : Int32 → Prop, ((x_10 ≤ r_19 → (J_24 x_10)) ∧ (¬ x_10 ≤ r_19 → (J_24 r_19))) ∧ ∀ (x_25 : Int32), J_24 x_25 → (∃ J_26 : Int32 → Prop, ((r_19 ≤ x_11 → (J_26 x_11)) ∧ (¬ r_19 ≤ x_11 → (J_26 r_19))) ∧ ∀ (x_27 : Int32), J_26 x_27 → (∀ x_28 : Int32, x_28 = x_14 + (1) → (I_9 x_25 x_27 x_23 x_21 x_28 ∧ mu_9 x_25 x_27 x_23 x_21 x_28 < mu_9 x_10 x_11 x_12 x_13 x_14)))))))))))))))) ∧ (r_6 = 0 → post (-1 : Int32))))))))))))))))))
abbrev rX6_least : Room := { frames := 2, cells := 0, slots := 0, locals := 46 }
theorem vX6_least : yX6_least.cls = RX6 ∧ yX6_least.cls ≠ "java/lang/invoke/MethodHandle" ∧ yX6_least.cls ≠ "java/lang/invoke/VarHandle" ∧ (parseMethodDescriptor yX6_least.desc).map (fun d => d.parameters.length) = some 3 := by decide +kernel
set_option maxHeartbeats 4000000 in
set_option maxRecDepth 100000 in
theorem kX6_least (l : Launch) (D : va_G) (cA : Nat → ClassId) (a0 a_state a_readPage a_tape a_cutRow a_cutWeights a_isKept a_lanes a_lengths a_cells : Nat) (f_taped : Int32) (f_fault : Int32) (f_broken : Int32) (f_brokenAt : Int32) (f_spot : Int32) (f_here : Int32) (f_token : Int32) (f_value : Int32) (f_torn : Int32) (f_state : Nat → Int32) (f_readPage : Nat → Int32) (f_tape : Nat → Int32) (f_cutRow : Nat → Int32) (f_cutWeights : Nat → Int32) (f_isKept : Nat → Int32) (f_lanes : Nat → Int32) (f_lengths : Nat → Int32) (f_cells : Nat → Int64) (p1 : Int32) (p2 : Int32) (p3 : Int32) (post : Int32 → Prop) (h : wX6_least f_state p1 p2 p3 post) : Met l yX6_least wsX6_least rX6_least (zPr D cA [.ref a0, .int p1, .int p2, .int p3] [(a0, .inr (5, [.ref a_state, .ref a_readPage, .ref a_tape, .int f_taped, .int f_fault, .int f_broken, .int f_brokenAt, .int f_spot, .int f_here, .int f_token, .int f_value, .ref a_cutRow, .ref a_cutWeights, .ref a_isKept, .ref a_lanes, .ref a_lengths, .ref a_cells, .int f_torn])), (a_state, .inl (cA 0, 579, .inl f_state)), (a_readPage, .inl (cA 0, 193, .inl f_readPage)), (a_tape, .inl (cA 0, 160, .inl f_tape)), (a_cutRow, .inl (cA 0, 128, .inl f_cutRow)), (a_cutWeights, .inl (cA 0, 64, .inl f_cutWeights)), (a_isKept, .inl (cA 3, 2, .inl f_isKept)), (a_lanes, .inl (cA 0, 4, .inl f_lanes)), (a_lengths, .inl (cA 0, 4, .inl f_lengths)), (a_cells, .inl (cA 1, 160, .inr (.inl f_cells)))]) (vp_Si post) 0 0 (fun _ => False) := by
  refine z_ro (cc := cX6_least) (maxL := 10) (ret := (some .int)) (by decide) rfl (Nat.le_of_ble_eq_true rfl) ?_
  intro p e s m args below meth c ls hx hb hr hlk hml hown hts hK hP hl
  have hown : s.vm.findClass RX6 = some m.cls := hown
  have hl : lv_has ls 10 [(0, .ref a0), (1, .int p1), (2, .int p2), (3, .int p3)] := hl
  have hw := h
  unfold wX6_least at hw
  have kl118 := hts (.constantLong RX6 118 (3)) (by decide +kernel)
  refine lv_aload_n hx hb dX6_least_0 rfl (lv_at hl 0 rfl) ?_
  refine lv_iload_n hx hb dX6_least_1 rfl (lv_at hl 1 rfl) ?_
  refine z_ri [.int p1] [] ⟨hx, hb, hml, hown, hts⟩ (kX6_isMark l D cA a0 a_state a_readPage a_tape a_cutRow a_cutWeights a_isKept a_lanes a_lengths a_cells f_taped f_fault f_broken f_brokenAt f_spot f_here f_token f_value f_torn f_state f_readPage f_tape f_cutRow f_cutWeights f_isKept f_lanes f_lengths f_cells p1 _ hw) (cwV 1 hts gX6_least_X6_isMark rfl rfl rfl vX6_isMark ⟨Nat.le_of_ble_eq_true rfl, Nat.le_of_ble_eq_true rfl⟩) hK (hP.sub [0, 1, 2, 3, 4, 5, 6, 7, 8, 9] rfl) (va_recv hK.1 (hP.sub (ws' := [(a0, .inr (5, [.ref a_state, .ref a_readPage, .ref a_tape, .int f_taped, .int f_fault, .int f_broken, .int f_brokenAt, .int f_spot, .int f_here, .int f_token, .int f_value, .ref a_cutRow, .ref a_cutWeights, .ref a_isKept, .ref a_lanes, .ref a_lengths, .ref a_cells, .int f_torn]))]) [0] rfl) (ci := 5) (q0 := 0) rfl rfl) rfl hl.1 rfl (Nat.le_of_ble_eq_true rfl) dX6_least_2 ⟨Nat.zero_le _, Nat.zero_le _⟩ (fun r_1 hw => ?_)
  refine lv_if_eq (tgt := 33) hx hb dX6_least_5 (by decide) (fun c_2 => ?_) (fun c_2 => ?_)
  · have hw := hw.1 c_2
    refine lv_iconst (v := -1) hx hb dX6_least_33 (by decide) ?_
    exact z_iret hx hb hr hlk hw dX6_least_34
  · have hw := hw.2 c_2
    refine lv_aload_n hx hb dX6_least_8 rfl (lv_at hl 0 rfl) ?_
    refine lv_iload_n hx hb dX6_least_9 rfl (lv_at hl 2 rfl) ?_
    refine z_ri [.int p2] [] ⟨hx, hb, hml, hown, hts⟩ (kX6_isMark l D cA a0 a_state a_readPage a_tape a_cutRow a_cutWeights a_isKept a_lanes a_lengths a_cells f_taped f_fault f_broken f_brokenAt f_spot f_here f_token f_value f_torn f_state f_readPage f_tape f_cutRow f_cutWeights f_isKept f_lanes f_lengths f_cells p2 _ hw) (cwV 1 hts gX6_least_X6_isMark rfl rfl rfl vX6_isMark ⟨Nat.le_of_ble_eq_true rfl, Nat.le_of_ble_eq_true rfl⟩) hK (hP.sub [0, 1, 2, 3, 4, 5, 6, 7, 8, 9] rfl) (va_recv hK.1 (hP.sub (ws' := [(a0, .inr (5, [.ref a_state, .ref a_readPage, .ref a_tape, .int f_taped, .int f_fault, .int f_broken, .int f_brokenAt, .int f_spot, .int f_here, .int f_token, .int f_value, .ref a_cutRow, .ref a_cutWeights, .ref a_isKept, .ref a_lanes, .ref a_lengths, .ref a_cells, .int f_torn]))]) [0] rfl) (ci := 5) (q0 := 0) rfl rfl) rfl hl.1 rfl (Nat.le_of_ble_eq_true rfl) dX6_least_10 ⟨Nat.zero_le _, Nat.zero_le _⟩ (fun r_3 hw => ?_)
    refine lv_if_eq (tgt := 33) hx hb dX6_least_13 (by decide) (fun c_4 => ?_) (fun c_4 => ?_)
    · have hw := hw.1 c_4
      refine lv_iconst (v := -1) hx hb dX6_least_33 (by decide) ?_
      exact z_iret hx hb hr hlk hw dX6_least_34
    · have hw := hw.2 c_4
      refine lv_iload_n hx hb dX6_least_16 rfl (lv_at hl 1 rfl) ?_
      refine lv_iload_n hx hb dX6_least_17 rfl (lv_at hl 2 rfl) ?_
      refine lv_icmp_gt (tgt := 33) hx hb dX6_least_18 (by decide) (fun c_5 => ?_) (fun c_5 => ?_)
      · have hw := hw.1 c_5
        refine lv_iconst (v := -1) hx hb dX6_least_33 (by decide) ?_
        exact z_iret hx hb hr hlk hw dX6_least_34
      · have hw := hw.2 c_5
        refine lv_iload_n hx hb dX6_least_21 rfl (lv_at hl 3 rfl) ?_
        refine lv_i2l (v := ((p3).toInt64)) hx hb dX6_least_22 rfl ?_
        refine lv_lconst (v := 0) hx hb dX6_least_23 (by decide) ?_
        refine lv_ldc2 (v := 3) hx hb hown kl118 dX6_least_24 ?_
        refine z_si [.long ((p3).toInt64), .long (0 : Int64), .long (3 : Int64)] [] ⟨hx, hb, hml, hown, hts⟩ (kX6_in l D cA ((p3).toInt64) (0 : Int64) (3 : Int64) _ hw) (va_cwS 3 hts gX6_least_X6_in rfl rfl rfl vX6_in ⟨Nat.le_of_ble_eq_true rfl, Nat.le_of_ble_eq_true rfl⟩) hK z_p0 rfl hl.1 rfl (Nat.le_of_ble_eq_true rfl) dX6_least_27 ⟨Nat.zero_le _, Nat.zero_le _⟩ (fun r_6 hw => ?_)
        refine lv_if_ne (tgt := 35) hx hb dX6_least_30 (by decide) (fun c_7 => ?_) (fun c_7 => ?_)
        · have hw := hw.1 c_7
          refine lv_aload_n hx hb dX6_least_35 rfl (lv_at hl 0 rfl) ?_
          refine lv_iload_n hx hb dX6_least_36 rfl (lv_at hl 1 rfl) ?_
          refine z_ri [.int p1] [] ⟨hx, hb, hml, hown, hts⟩ (kX6_excessAt l D cA a0 a_state a_readPage a_tape a_cutRow a_cutWeights a_isKept a_lanes a_lengths a_cells f_taped f_fault f_broken f_brokenAt f_spot f_here f_token f_value f_torn f_state f_readPage f_tape f_cutRow f_cutWeights f_isKept f_lanes f_lengths f_cells p1 _ hw) (cwV 1 hts gX6_least_X6_excessAt rfl rfl rfl vX6_excessAt ⟨Nat.le_of_ble_eq_true rfl, Nat.le_of_ble_eq_true rfl⟩) hK (hP.sub [0, 1, 2, 3, 4, 5, 6, 7, 8, 9] rfl) (va_recv hK.1 (hP.sub (ws' := [(a0, .inr (5, [.ref a_state, .ref a_readPage, .ref a_tape, .int f_taped, .int f_fault, .int f_broken, .int f_brokenAt, .int f_spot, .int f_here, .int f_token, .int f_value, .ref a_cutRow, .ref a_cutWeights, .ref a_isKept, .ref a_lanes, .ref a_lengths, .ref a_cells, .int f_torn]))]) [0] rfl) (ci := 5) (q0 := 0) rfl rfl) rfl hl.1 rfl (Nat.le_of_ble_eq_true rfl) dX6_least_37 ⟨Nat.zero_le _, Nat.zero_le _⟩ (fun r_8 hw => ?_)
          refine lv_istore (lv' := [(4, .int r_8), (0, .ref a0), (1, .int p1), (2, .int p2), (3, .int p3)]) hx hb dX6_least_40 hl (by decide) rfl (fun ls hl => ?_)
          refine lv_iload hx hb dX6_least_42 (lv_at hl 0 rfl) ?_
          refine lv_istore (lv' := [(5, .int r_8), (4, .int r_8), (0, .ref a0), (1, .int p1), (2, .int p2), (3, .int p3)]) hx hb dX6_least_44 hl (by decide) rfl (fun ls hl => ?_)
          refine lv_iload_n hx hb dX6_least_46 rfl (lv_at hl 3 rfl) ?_
          refine lv_istore (lv' := [(6, .int p1), (5, .int r_8), (4, .int r_8), (0, .ref a0), (1, .int p1), (2, .int p2), (3, .int p3)]) hx hb dX6_least_47 hl (by decide) rfl (fun ls hl => ?_)
          refine lv_iconst (v := 0) hx hb dX6_least_49 (by decide) ?_
          refine lv_istore (lv' := [(7, .int (0 : Int32)), (6, .int p1), (5, .int r_8), (4, .int r_8), (0, .ref a0), (1, .int p1), (2, .int p2), (3, .int p3)]) hx hb dX6_least_50 hl (by decide) rfl (fun ls hl => ?_)
          refine lv_iload_n hx hb dX6_least_52 rfl (lv_at hl 5 rfl) ?_
          refine lv_istore (lv' := [(8, .int p1), (7, .int (0 : Int32)), (6, .int p1), (5, .int r_8), (4, .int r_8), (0, .ref a0), (1, .int p1), (2, .int p2), (3, .int p3)]) hx hb dX6_least_53 hl (by decide) rfl (fun ls hl => ?_)
          obtain ⟨I_9, mu_9, hI_9, hw⟩ := hw
          have lp_9 : ∀ (nn : Nat) (x_10 : Int32) (x_11 : Int32) (x_12 : Int32) (x_13 : Int32) (x_14 : Int32) (ls : Array Slot), mu_9 x_10 x_11 x_12 x_13 x_14 < nn → I_9 x_10 x_11 x_12 x_13 x_14 → lv_has ls 10 [(0, .ref a0), (2, .int p2), (3, .int p3), (4, .int x_10), (5, .int x_11), (6, .int x_12), (7, .int x_13), (8, .int x_14)] → W p l e rX6_least s m args below meth c s.heap [] 0 0 (MQ below (vp_Si post) args s 0 0 (fun _ => False)) (F0 m 55 ls []) := by
            intro nn
            induction nn with
            | zero => exact fun _ _ _ _ _ _ h0 => absurd h0 (Nat.not_lt_zero _)
            | succ nn ih_9 =>
              intro x_10 x_11 x_12 x_13 x_14 ls hmu_9 hI_9 hl
              have hw := hw x_10 x_11 x_12 x_13 x_14 hI_9
              refine lv_iload hx hb dX6_least_55 (lv_at hl 7 rfl) ?_
              refine lv_iload_n hx hb dX6_least_57 rfl (lv_at hl 1 rfl) ?_
              refine lv_icmp_gt (tgt := 152) hx hb dX6_least_58 (by decide) (fun c_15 => ?_) (fun c_15 => ?_)
              · have hw := hw.1 c_15
                refine lv_iload_n hx hb dX6_least_152 rfl (lv_at hl 2 rfl) ?_
                refine lv_if_ne (tgt := 161) hx hb dX6_least_153 (by decide) (fun c_16 => ?_) (fun c_16 => ?_)
                · have hw := hw.1 c_16
                  refine lv_iload_n hx hb dX6_least_161 rfl (lv_at hl 2 rfl) ?_
                  refine lv_iconst (v := 1) hx hb dX6_least_162 (by decide) ?_
                  refine lv_icmp_ne (tgt := 171) hx hb dX6_least_163 (by decide) (fun c_17 => ?_) (fun c_17 => ?_)
                  · have hw := hw.1 c_17
                    refine lv_iload_n hx hb dX6_least_171 rfl (lv_at hl 2 rfl) ?_
                    refine lv_iconst (v := 2) hx hb dX6_least_172 (by decide) ?_
                    refine lv_icmp_ne (tgt := 181) hx hb dX6_least_173 (by decide) (fun c_18 => ?_) (fun c_18 => ?_)
                    · have hw := hw.1 c_18
                      refine lv_iload hx hb dX6_least_181 (lv_at hl 4 rfl) ?_
                      exact z_iret hx hb hr hlk hw dX6_least_183
                    · have hw := hw.2 c_18
                      refine lv_iload hx hb dX6_least_176 (lv_at hl 6 rfl) ?_
                      refine lv_goto (tgt := 183) hx hb dX6_least_178 (by decide) ?_
                      exact z_iret hx hb hr hlk hw dX6_least_183
                  · have hw := hw.2 c_17
                    refine lv_iload hx hb dX6_least_166 (lv_at hl 5 rfl) ?_
                    refine lv_goto (tgt := 183) hx hb dX6_least_168 (by decide) ?_
                    exact z_iret hx hb hr hlk hw dX6_least_183
                · have hw := hw.2 c_16
                  refine lv_iload hx hb dX6_least_156 (lv_at hl 3 rfl) ?_
                  refine lv_goto (tgt := 183) hx hb dX6_least_158 (by decide) ?_
                  exact z_iret hx hb hr hlk hw dX6_least_183
              · have hw := hw.2 c_15
                refine lv_aload_n hx hb dX6_least_61 rfl (lv_at hl 0 rfl) ?_
                refine lv_iload hx hb dX6_least_62 (lv_at hl 7 rfl) ?_
                refine z_ri [.int x_14] [] ⟨hx, hb, hml, hown, hts⟩ (kX6_excessAt l D cA a0 a_state a_readPage a_tape a_cutRow a_cutWeights a_isKept a_lanes a_lengths a_cells f_taped f_fault f_broken f_brokenAt f_spot f_here f_token f_value f_torn f_state f_readPage f_tape f_cutRow f_cutWeights f_isKept f_lanes f_lengths f_cells x_14 _ hw) (cwV 1 hts gX6_least_X6_excessAt rfl rfl rfl vX6_excessAt ⟨Nat.le_of_ble_eq_true rfl, Nat.le_of_ble_eq_true rfl⟩) hK (hP.sub [0, 1, 2, 3, 4, 5, 6, 7, 8, 9] rfl) (va_recv hK.1 (hP.sub (ws' := [(a0, .inr (5, [.ref a_state, .ref a_readPage, .ref a_tape, .int f_taped, .int f_fault, .int f_broken, .int f_brokenAt, .int f_spot, .int f_here, .int f_token, .int f_value, .ref a_cutRow, .ref a_cutWeights, .ref a_isKept, .ref a_lanes, .ref a_lengths, .ref a_cells, .int f_torn]))]) [0] rfl) (ci := 5) (q0 := 0) rfl rfl) rfl hl.1 rfl (Nat.le_of_ble_eq_true rfl) dX6_least_64 ⟨Nat.zero_le _, Nat.zero_le _⟩ (fun r_19 hw => ?_)
                refine lv_istore (lv' := [(9, .int r_19), (0, .ref a0), (2, .int p2), (3, .int p3), (4, .int x_10), (5, .int x_11), (6, .int x_12), (7, .int x_13), (8, .int x_14)]) hx hb dX6_least_67 hl (by decide) rfl (fun ls hl => ?_)
                refine lv_iload hx hb dX6_least_69 (lv_at hl 0 rfl) ?_
                refine lv_iload hx hb dX6_least_71 (lv_at hl 4 rfl) ?_
                obtain ⟨J_20, hw, hj_20⟩ := hw
                have jn_20 : ∀ (x_21 : Int32) (ls : Array Slot), J_20 x_21 → lv_has ls 10 [(0, .ref a0), (2, .int p2), (3, .int p3), (4, .int x_10), (5, .int x_11), (6, .int x_12), (8, .int x_14), (9, .int r_19)] → W p l e rX6_least s m args below meth c s.heap [] 0 0 (MQ below (vp_Si post) args s 0 0 (fun _ => False)) (F0 m 96 ls [.int x_21]) := by
                  intro x_21 ls hw hl
                  have hw := hj_20 x_21 hw
                  refine lv_istore (lv' := [(7, .int x_21), (0, .ref a0), (2, .int p2), (3, .int p3), (4, .int x_10), (5, .int x_11), (6, .int x_12), (8, .int x_14), (9, .int r_19)]) hx hb dX6_least_96 hl (by decide) rfl (fun ls hl => ?_)
                  refine lv_iload hx hb dX6_least_98 (lv_at hl 8 rfl) ?_
                  refine lv_iload hx hb dX6_least_100 (lv_at hl 4 rfl) ?_
                  obtain ⟨J_22, hw, hj_22⟩ := hw
                  have jn_22 : ∀ (x_23 : Int32) (ls : Array Slot), J_22 x_23 → lv_has ls 10 [(0, .ref a0), (2, .int p2), (3, .int p3), (4, .int x_10), (5, .int x_11), (7, .int x_21), (8, .int x_14), (9, .int r_19)] → W p l e rX6_least s m args below meth c s.heap [] 0 0 (MQ below (vp_Si post) args s 0 0 (fun _ => False)) (F0 m 112 ls [.int x_23]) := by
                    intro x_23 ls hw hl
                    have hw := hj_22 x_23 hw
                    refine lv_istore (lv' := [(6, .int x_23), (0, .ref a0), (2, .int p2), (3, .int p3), (4, .int x_10), (5, .int x_11), (7, .int x_21), (8, .int x_14), (9, .int r_19)]) hx hb dX6_least_112 hl (by decide) rfl (fun ls hl => ?_)
                    refine lv_iload hx hb dX6_least_114 (lv_at hl 8 rfl) ?_
                    refine lv_iload hx hb dX6_least_116 (lv_at hl 4 rfl) ?_
                    obtain ⟨J_24, hw, hj_24⟩ := hw
                    have jn_24 : ∀ (x_25 : Int32) (ls : Array Slot), J_24 x_25 → lv_has ls 10 [(0, .ref a0), (2, .int p2), (3, .int p3), (5, .int x_11), (6, .int x_23), (7, .int x_21), (8, .int x_14), (9, .int r_19)] → W p l e rX6_least s m args below meth c s.heap [] 0 0 (MQ below (vp_Si post) args s 0 0 (fun _ => False)) (F0 m 128 ls [.int x_25]) := by
                      intro x_25 ls hw hl
                      have hw := hj_24 x_25 hw
                      refine lv_istore (lv' := [(4, .int x_25), (0, .ref a0), (2, .int p2), (3, .int p3), (5, .int x_11), (6, .int x_23), (7, .int x_21), (8, .int x_14), (9, .int r_19)]) hx hb dX6_least_128 hl (by decide) rfl (fun ls hl => ?_)
                      refine lv_iload hx hb dX6_least_130 (lv_at hl 8 rfl) ?_
                      refine lv_iload hx hb dX6_least_132 (lv_at hl 4 rfl) ?_
                      obtain ⟨J_26, hw, hj_26⟩ := hw
                      have jn_26 : ∀ (x_27 : Int32) (ls : Array Slot), J_26 x_27 → lv_has ls 10 [(0, .ref a0), (2, .int p2), (3, .int p3), (4, .int x_25), (6, .int x_23), (7, .int x_21), (8, .int x_14)] → W p l e rX6_least s m args below meth c s.heap [] 0 0 (MQ below (vp_Si post) args s 0 0 (fun _ => False)) (F0 m 144 ls [.int x_27]) := by
                        intro x_27 ls hw hl
                        have hw := hj_26 x_27 hw
                        refine lv_istore (lv' := [(5, .int x_27), (0, .ref a0), (2, .int p2), (3, .int p3), (4, .int x_25), (6, .int x_23), (7, .int x_21), (8, .int x_14)]) hx hb dX6_least_144 hl (by decide) rfl (fun ls hl => ?_)
                        obtain ⟨x_28, ex_28⟩ : ∃ y : Int32, y = x_14 + (1) := ⟨_, rfl⟩
                        have hw := hw x_28 ex_28
                        refine lv_iinc (v := x_28) (lv' := [(8, .int x_28), (5, .int x_27), (0, .ref a0), (2, .int p2), (3, .int p3), (4, .int x_25), (6, .int x_23), (7, .int x_21)]) hx hb dX6_least_146 hl (k := 7) rfl (by rw [ex_28]; rfl) (by decide) rfl (fun ls hl => ?_)
                        refine lv_goto (tgt := 55) hx hb dX6_least_149 (by decide) ?_
                        exact ih_9 x_25 x_27 x_23 x_21 x_28 ls (Nat.lt_of_lt_of_le hw.2 (Nat.le_of_lt_succ hmu_9)) hw.1 (lv_sub hl [2, 3, 4, 5, 1, 6, 7, 0] rfl)
                      refine lv_icmp_le (tgt := 142) hx hb dX6_least_134 (by decide) (fun c_29 => ?_) (fun c_29 => ?_)
                      · have hw := hw.1 c_29
                        refine lv_iload hx hb dX6_least_142 (lv_at hl 4 rfl) ?_
                        exact jn_26 x_11 ls hw (lv_sub hl [1, 2, 3, 0, 5, 6, 7] rfl)
                      · have hw := hw.2 c_29
                        refine lv_iload hx hb dX6_least_137 (lv_at hl 8 rfl) ?_
                        refine lv_goto (tgt := 144) hx hb dX6_least_139 (by decide) ?_
                        exact jn_26 r_19 ls hw (lv_sub hl [1, 2, 3, 0, 5, 6, 7] rfl)
                    refine lv_icmp_ge (tgt := 126) hx hb dX6_least_118 (by decide) (fun c_30 => ?_) (fun c_30 => ?_)
                    · have hw := hw.1 c_30
                      refine lv_iload hx hb dX6_least_126 (lv_at hl 4 rfl) ?_
                      exact jn_24 x_10 ls hw (lv_sub hl [1, 2, 3, 5, 0, 6, 7, 8] rfl)
                    · have hw := hw.2 c_30
                      refine lv_iload hx hb dX6_least_121 (lv_at hl 8 rfl) ?_
                      refine lv_goto (tgt := 128) hx hb dX6_least_123 (by decide) ?_
                      exact jn_24 r_19 ls hw (lv_sub hl [1, 2, 3, 5, 0, 6, 7, 8] rfl)
                  refine lv_icmp_ge (tgt := 110) hx hb dX6_least_102 (by decide) (fun c_31 => ?_) (fun c_31 => ?_)
                  · have hw := hw.1 c_31
                    refine lv_iload hx hb dX6_least_110 (lv_at hl 6 rfl) ?_
                    exact jn_22 x_12 ls hw (lv_sub hl [1, 2, 3, 4, 5, 0, 7, 8] rfl)
                  · have hw := hw.2 c_31
                    refine lv_iload hx hb dX6_least_105 (lv_at hl 7 rfl) ?_
                    refine lv_goto (tgt := 112) hx hb dX6_least_107 (by decide) ?_
                    exact jn_22 x_14 ls hw (lv_sub hl [1, 2, 3, 4, 5, 0, 7, 8] rfl)
                refine lv_icmp_ge (tgt := 80) hx hb dX6_least_73 (by decide) (fun c_32 => ?_) (fun c_32 => ?_)
                · have hw := hw.1 c_32
                  refine lv_iload hx hb dX6_least_80 (lv_at hl 0 rfl) ?_
                  refine lv_iload hx hb dX6_least_82 (lv_at hl 4 rfl) ?_
                  refine lv_icmp_ne (tgt := 94) hx hb dX6_least_84 (by decide) (fun c_33 => ?_) (fun c_33 => ?_)
                  · have hw := hw.1 c_33
                    refine lv_iload hx hb dX6_least_94 (lv_at hl 7 rfl) ?_
                    exact jn_20 x_13 ls hw (lv_sub hl [1, 2, 3, 4, 5, 6, 8, 0] rfl)
                  · have hw := hw.2 c_33
                    refine lv_iload hx hb dX6_least_87 (lv_at hl 7 rfl) ?_
                    refine lv_iconst (v := 1) hx hb dX6_least_89 (by decide) ?_
                    refine lv_iadd hx hb dX6_least_90 ?_
                    refine lv_goto (tgt := 96) hx hb dX6_least_91 (by decide) ?_
                    exact jn_20 (x_13 + (1 : Int32)) ls hw (lv_sub hl [1, 2, 3, 4, 5, 6, 8, 0] rfl)
                · have hw := hw.2 c_32
                  refine lv_iconst (v := 1) hx hb dX6_least_76 (by decide) ?_
                  refine lv_goto (tgt := 96) hx hb dX6_least_77 (by decide) ?_
                  exact jn_20 (1 : Int32) ls hw (lv_sub hl [1, 2, 3, 4, 5, 6, 8, 0] rfl)
          exact lp_9 (mu_9 r_8 r_8 p1 (0 : Int32) p1 + 1) r_8 r_8 p1 (0 : Int32) p1 ls (Nat.lt_succ_self _) hI_9 (lv_sub hl [5, 7, 8, 4, 3, 2, 1, 0] rfl)
        · have hw := hw.2 c_7
          refine lv_iconst (v := -1) hx hb dX6_least_33 (by decide) ?_
          exact z_iret hx hb hr hlk hw dX6_least_34
def wX6_block (f_state : Nat → Int32) (p1 : Int32) (p2 : Int32) (post : Int32 → Prop) : Prop := ((p1 < 0 → post (-1 : Int32)) ∧ (¬ p1 < 0 → (wX6_places f_state (fun r_2 : Int32 => (((0 ≤ (lg_cmp ((16 : Int64) * ((p1).toInt64)) ((r_2).toInt64)) → post (-1 : Int32)) ∧ (¬ 0 ≤ (lg_cmp ((16 : Int64) * ((p1).toInt64)) ((r_2).toInt64)) → (wX6_in ((p2).toInt64) (0 : Int64) (2 : Int64) (fun r_4 : Int32 => (((¬ r_4 = 0 → (wX6_excessAt f_state ((16 : Int32) * p1) (fun r_6 : Int32 => ((∀ x_7 : Int32, x_7 = ((16 : Int32) * p1) → (∃ (I_8 : Int32 → Int32 → Int32 → Int32 → Prop) (mu_8 : Int32 → Int32 → Int32 → Int32 → Nat), I_8 (0 : Int32) (1000 : Int32) (-1000 : Int32) x_7 ∧ ∀ (x_9 : Int32) (x_10 : Int32) (x_11 : Int32) (x_12 : Int32), I_8 x_9 x_10 x_11 x_12 → (((((16 : Int32) * p1) + (16 : Int32)) ≤ x_12 → ((¬ p2 = 0 → ((¬ p2 = (1 : Int32) → post ((100 : Int32) + x_11)) ∧ (p2 = (1 : Int32) → post ((100 : Int32) + x_10)))) ∧ (p2 = 0 → post ((100 : Int32) + x_9)))) ∧ (¬ (((16 : Int32) * p1) + (16 : Int32)) ≤ x_12 → (wX6_places f_state (fun r_16 : Int32 => (((r_16 ≤ x_12 → ((¬ p2 = 0 → ((¬ p2 = (1 : Int32) → post ((100 : Int32) + x_11)) ∧ (p2 = (1 : Int32) → post ((100 : Int32) + x_10)))) ∧ (p2 = 0 → post ((100 : Int32) + x_9)))) ∧ (¬ r_16 ≤ x_12 → (wX6_excessAt f_state (x_12 + (1 : Int32)) (fun r_20 : Int32 => ((∀ x_21 : Int32, x_21 = (r_20 - r_6) → ((x_10 ≤ x_21 → ((x_21 ≤ x_11 → (∀ x_24 : Int32, x_24 = x_12 + (1) → (I_8 x_21 x_10 x_11 x_24 ∧ mu_8 x_21 x_10 x_11 x_24 < mu_8 x_9 x_10 x_11 x_12))) ∧ (¬ x_21 ≤ x_11 → (∀ x_25 : Int32, x_25 = x_12 + (1) → (I_8 x_21 x_10 x_21 x_25 ∧ mu_8 x_21 x_10 x_21 x_25 < mu_8 x_9 x_10 x_11 x_12))))) ∧ (¬ x_10 ≤ x_21 → ((x_21 ≤ x_11 → (∀ x_27 : Int32, x_27 = x_12 + (1) → (I_8 x_21 x_21 x_11 x_27 ∧ mu_8 x_21 x_21 x_11 x_27 < mu_8 x_9 x_10 x_11 x_12))) ∧ (¬ x_21 ≤ x_11 → (∀ x_28 : Int32, x_28 = x_12 + (1) → (I_8 x_21 x_21 x_21 x_28 ∧ mu_8 x_21 x_21 x_21 x_28 < mu_8 x_9 x_10 x_11 x_12))))))))))))))))))))))) ∧ (r_4 = 0 → post (-1 : Int32)))))))))))))
abbrev rX6_block : Room := { frames := 1, cells := 0, slots := 0, locals := 25 }
theorem vX6_block : yX6_block.cls = RX6 ∧ yX6_block.cls ≠ "java/lang/invoke/MethodHandle" ∧ yX6_block.cls ≠ "java/lang/invoke/VarHandle" ∧ (parseMethodDescriptor yX6_block.desc).map (fun d => d.parameters.length) = some 2 := by decide +kernel
set_option maxHeartbeats 4000000 in
set_option maxRecDepth 100000 in
theorem kX6_block (l : Launch) (D : va_G) (cA : Nat → ClassId) (a0 a_state a_readPage a_tape a_cutRow a_cutWeights a_isKept a_lanes a_lengths a_cells : Nat) (f_taped : Int32) (f_fault : Int32) (f_broken : Int32) (f_brokenAt : Int32) (f_spot : Int32) (f_here : Int32) (f_token : Int32) (f_value : Int32) (f_torn : Int32) (f_state : Nat → Int32) (f_readPage : Nat → Int32) (f_tape : Nat → Int32) (f_cutRow : Nat → Int32) (f_cutWeights : Nat → Int32) (f_isKept : Nat → Int32) (f_lanes : Nat → Int32) (f_lengths : Nat → Int32) (f_cells : Nat → Int64) (p1 : Int32) (p2 : Int32) (post : Int32 → Prop) (h : wX6_block f_state p1 p2 post) : Met l yX6_block wsX6_block rX6_block (zPr D cA [.ref a0, .int p1, .int p2] [(a0, .inr (5, [.ref a_state, .ref a_readPage, .ref a_tape, .int f_taped, .int f_fault, .int f_broken, .int f_brokenAt, .int f_spot, .int f_here, .int f_token, .int f_value, .ref a_cutRow, .ref a_cutWeights, .ref a_isKept, .ref a_lanes, .ref a_lengths, .ref a_cells, .int f_torn])), (a_state, .inl (cA 0, 579, .inl f_state)), (a_readPage, .inl (cA 0, 193, .inl f_readPage)), (a_tape, .inl (cA 0, 160, .inl f_tape)), (a_cutRow, .inl (cA 0, 128, .inl f_cutRow)), (a_cutWeights, .inl (cA 0, 64, .inl f_cutWeights)), (a_isKept, .inl (cA 3, 2, .inl f_isKept)), (a_lanes, .inl (cA 0, 4, .inl f_lanes)), (a_lengths, .inl (cA 0, 4, .inl f_lengths)), (a_cells, .inl (cA 1, 160, .inr (.inl f_cells)))]) (vp_Si post) 0 0 (fun _ => False) := by
  refine z_ro (cc := cX6_block) (maxL := 8) (ret := (some .int)) (by decide) rfl (Nat.le_of_ble_eq_true rfl) ?_
  intro p e s m args below meth c ls hx hb hr hlk hml hown hts hK hP hl
  have hown : s.vm.findClass RX6 = some m.cls := hown
  have hl : lv_has ls 8 [(0, .ref a0), (1, .int p1), (2, .int p2)] := hl
  have hw := h
  unfold wX6_block at hw
  have kl120 := hts (.constantLong RX6 120 (16)) (by decide +kernel)
  have kl109 := hts (.constantLong RX6 109 (2)) (by decide +kernel)
  refine lv_iload_n hx hb dX6_block_0 rfl (lv_at hl 1 rfl) ?_
  refine lv_if_lt (tgt := 31) hx hb dX6_block_1 (by decide) (fun c_1 => ?_) (fun c_1 => ?_)
  · have hw := hw.1 c_1
    refine lv_iconst (v := -1) hx hb dX6_block_31 (by decide) ?_
    exact z_iret hx hb hr hlk hw dX6_block_32
  · have hw := hw.2 c_1
    refine lv_ldc2 (v := 16) hx hb hown kl120 dX6_block_4 ?_
    refine lv_iload_n hx hb dX6_block_7 rfl (lv_at hl 1 rfl) ?_
    refine lv_i2l (v := ((p1).toInt64)) hx hb dX6_block_8 rfl ?_
    refine lv_lmul hx hb dX6_block_9 ?_
    refine lv_aload_n hx hb dX6_block_10 rfl (lv_at hl 0 rfl) ?_
    refine z_ri [] [.long ((16 : Int64) * ((p1).toInt64))] ⟨hx, hb, hml, hown, hts⟩ (kX6_places l D cA a0 a_state a_readPage a_tape a_cutRow a_cutWeights a_isKept a_lanes a_lengths a_cells f_taped f_fault f_broken f_brokenAt f_spot f_here f_token f_value f_torn f_state f_readPage f_tape f_cutRow f_cutWeights f_isKept f_lanes f_lengths f_cells _ hw) (cwV 0 hts gX6_block_X6_places rfl rfl rfl vX6_places ⟨Nat.le_of_ble_eq_true rfl, Nat.le_of_ble_eq_true rfl⟩) hK (hP.sub [0, 1, 2, 3, 4, 5, 6, 7, 8, 9] rfl) (va_recv hK.1 (hP.sub (ws' := [(a0, .inr (5, [.ref a_state, .ref a_readPage, .ref a_tape, .int f_taped, .int f_fault, .int f_broken, .int f_brokenAt, .int f_spot, .int f_here, .int f_token, .int f_value, .ref a_cutRow, .ref a_cutWeights, .ref a_isKept, .ref a_lanes, .ref a_lengths, .ref a_cells, .int f_torn]))]) [0] rfl) (ci := 5) (q0 := 0) rfl rfl) rfl hl.1 rfl (Nat.le_of_ble_eq_true rfl) dX6_block_11 ⟨Nat.zero_le _, Nat.zero_le _⟩ (fun r_2 hw => ?_)
    refine lv_i2l (v := ((r_2).toInt64)) hx hb dX6_block_14 rfl ?_
    refine W.lcmp hx hb dX6_block_15 ?_
    refine lv_if_ge (tgt := 31) hx hb dX6_block_16 (by decide) (fun c_3 => ?_) (fun c_3 => ?_)
    · have hw := hw.1 c_3
      refine lv_iconst (v := -1) hx hb dX6_block_31 (by decide) ?_
      exact z_iret hx hb hr hlk hw dX6_block_32
    · have hw := hw.2 c_3
      refine lv_iload_n hx hb dX6_block_19 rfl (lv_at hl 2 rfl) ?_
      refine lv_i2l (v := ((p2).toInt64)) hx hb dX6_block_20 rfl ?_
      refine lv_lconst (v := 0) hx hb dX6_block_21 (by decide) ?_
      refine lv_ldc2 (v := 2) hx hb hown kl109 dX6_block_22 ?_
      refine z_si [.long ((p2).toInt64), .long (0 : Int64), .long (2 : Int64)] [] ⟨hx, hb, hml, hown, hts⟩ (kX6_in l D cA ((p2).toInt64) (0 : Int64) (2 : Int64) _ hw) (va_cwS 3 hts gX6_block_X6_in rfl rfl rfl vX6_in ⟨Nat.le_of_ble_eq_true rfl, Nat.le_of_ble_eq_true rfl⟩) hK z_p0 rfl hl.1 rfl (Nat.le_of_ble_eq_true rfl) dX6_block_25 ⟨Nat.zero_le _, Nat.zero_le _⟩ (fun r_4 hw => ?_)
      refine lv_if_ne (tgt := 33) hx hb dX6_block_28 (by decide) (fun c_5 => ?_) (fun c_5 => ?_)
      · have hw := hw.1 c_5
        refine lv_aload_n hx hb dX6_block_33 rfl (lv_at hl 0 rfl) ?_
        refine lv_bipush (v := 16) hx hb dX6_block_34 (by decide) ?_
        refine lv_iload_n hx hb dX6_block_36 rfl (lv_at hl 1 rfl) ?_
        refine lv_imul hx hb dX6_block_37 ?_
        refine z_ri [.int ((16 : Int32) * p1)] [] ⟨hx, hb, hml, hown, hts⟩ (kX6_excessAt l D cA a0 a_state a_readPage a_tape a_cutRow a_cutWeights a_isKept a_lanes a_lengths a_cells f_taped f_fault f_broken f_brokenAt f_spot f_here f_token f_value f_torn f_state f_readPage f_tape f_cutRow f_cutWeights f_isKept f_lanes f_lengths f_cells ((16 : Int32) * p1) _ hw) (cwV 1 hts gX6_block_X6_excessAt rfl rfl rfl vX6_excessAt ⟨Nat.le_of_ble_eq_true rfl, Nat.le_of_ble_eq_true rfl⟩) hK (hP.sub [0, 1, 2, 3, 4, 5, 6, 7, 8, 9] rfl) (va_recv hK.1 (hP.sub (ws' := [(a0, .inr (5, [.ref a_state, .ref a_readPage, .ref a_tape, .int f_taped, .int f_fault, .int f_broken, .int f_brokenAt, .int f_spot, .int f_here, .int f_token, .int f_value, .ref a_cutRow, .ref a_cutWeights, .ref a_isKept, .ref a_lanes, .ref a_lengths, .ref a_cells, .int f_torn]))]) [0] rfl) (ci := 5) (q0 := 0) rfl rfl) rfl hl.1 rfl (Nat.le_of_ble_eq_true rfl) dX6_block_38 ⟨Nat.zero_le _, Nat.zero_le _⟩ (fun r_6 hw => ?_)
        refine lv_istore_n (lv' := [(3, .int r_6), (0, .ref a0), (1, .int p1), (2, .int p2)]) hx hb dX6_block_41 rfl hl (by decide) rfl (fun ls hl => ?_)
        refine lv_iconst (v := 0) hx hb dX6_block_42 (by decide) ?_
        refine lv_istore (lv' := [(4, .int (0 : Int32)), (3, .int r_6), (0, .ref a0), (1, .int p1), (2, .int p2)]) hx hb dX6_block_43 hl (by decide) rfl (fun ls hl => ?_)
        refine lv_sipush (v := 1000) hx hb dX6_block_45 (by decide) ?_
        refine lv_istore (lv' := [(5, .int (1000 : Int32)), (4, .int (0 : Int32)), (3, .int r_6), (0, .ref a0), (1, .int p1), (2, .int p2)]) hx hb dX6_block_48 hl (by decide) rfl (fun ls hl => ?_)
        refine lv_sipush (v := -1000) hx hb dX6_block_50 (by decide) ?_
        refine lv_istore (lv' := [(6, .int (-1000 : Int32)), (5, .int (1000 : Int32)), (4, .int (0 : Int32)), (3, .int r_6), (0, .ref a0), (1, .int p1), (2, .int p2)]) hx hb dX6_block_53 hl (by decide) rfl (fun ls hl => ?_)
        refine lv_bipush (v := 16) hx hb dX6_block_55 (by decide) ?_
        refine lv_iload_n hx hb dX6_block_57 rfl (lv_at hl 5 rfl) ?_
        refine lv_imul hx hb dX6_block_58 ?_
        refine lv_topi (fun x_7 ex_7 => ?_)
        have hw := hw x_7 ex_7
        refine lv_istore (lv' := [(7, .int x_7), (6, .int (-1000 : Int32)), (5, .int (1000 : Int32)), (4, .int (0 : Int32)), (3, .int r_6), (0, .ref a0), (1, .int p1), (2, .int p2)]) hx hb dX6_block_59 hl (by decide) rfl (fun ls hl => ?_)
        obtain ⟨I_8, mu_8, hI_8, hw⟩ := hw
        have lp_8 : ∀ (nn : Nat) (x_9 : Int32) (x_10 : Int32) (x_11 : Int32) (x_12 : Int32) (ls : Array Slot), mu_8 x_9 x_10 x_11 x_12 < nn → I_8 x_9 x_10 x_11 x_12 → lv_has ls 8 [(0, .ref a0), (1, .int p1), (2, .int p2), (3, .int r_6), (4, .int x_9), (5, .int x_10), (6, .int x_11), (7, .int x_12)] → W p l e rX6_block s m args below meth c s.heap [] 0 0 (MQ below (vp_Si post) args s 0 0 (fun _ => False)) (F0 m 61 ls []) := by
          intro nn
          induction nn with
          | zero => exact fun _ _ _ _ _ h0 => absurd h0 (Nat.not_lt_zero _)
          | succ nn ih_8 =>
            intro x_9 x_10 x_11 x_12 ls hmu_8 hI_8 hl
            have hw := hw x_9 x_10 x_11 x_12 hI_8
            refine lv_iload hx hb dX6_block_61 (lv_at hl 7 rfl) ?_
            refine lv_bipush (v := 16) hx hb dX6_block_63 (by decide) ?_
            refine lv_iload_n hx hb dX6_block_65 rfl (lv_at hl 1 rfl) ?_
            refine lv_imul hx hb dX6_block_66 ?_
            refine lv_bipush (v := 16) hx hb dX6_block_67 (by decide) ?_
            refine lv_iadd hx hb dX6_block_69 ?_
            refine lv_icmp_ge (tgt := 132) hx hb dX6_block_70 (by decide) (fun c_13 => ?_) (fun c_13 => ?_)
            · have hw := hw.1 c_13
              refine lv_bipush (v := 100) hx hb dX6_block_132 (by decide) ?_
              refine lv_iload_n hx hb dX6_block_134 rfl (lv_at hl 2 rfl) ?_
              refine lv_if_ne (tgt := 143) hx hb dX6_block_135 (by decide) (fun c_14 => ?_) (fun c_14 => ?_)
              · have hw := hw.1 c_14
                refine lv_iload_n hx hb dX6_block_143 rfl (lv_at hl 2 rfl) ?_
                refine lv_iconst (v := 1) hx hb dX6_block_144 (by decide) ?_
                refine lv_icmp_ne (tgt := 153) hx hb dX6_block_145 (by decide) (fun c_15 => ?_) (fun c_15 => ?_)
                · have hw := hw.1 c_15
                  refine lv_iload hx hb dX6_block_153 (lv_at hl 6 rfl) ?_
                  refine lv_iadd hx hb dX6_block_155 ?_
                  exact z_iret hx hb hr hlk hw dX6_block_156
                · have hw := hw.2 c_15
                  refine lv_iload hx hb dX6_block_148 (lv_at hl 5 rfl) ?_
                  refine lv_goto (tgt := 155) hx hb dX6_block_150 (by decide) ?_
                  refine lv_iadd hx hb dX6_block_155 ?_
                  exact z_iret hx hb hr hlk hw dX6_block_156
              · have hw := hw.2 c_14
                refine lv_iload hx hb dX6_block_138 (lv_at hl 4 rfl) ?_
                refine lv_goto (tgt := 155) hx hb dX6_block_140 (by decide) ?_
                refine lv_iadd hx hb dX6_block_155 ?_
                exact z_iret hx hb hr hlk hw dX6_block_156
            · have hw := hw.2 c_13
              refine lv_iload hx hb dX6_block_73 (lv_at hl 7 rfl) ?_
              refine lv_aload_n hx hb dX6_block_75 rfl (lv_at hl 0 rfl) ?_
              refine z_ri [] [.int x_12] ⟨hx, hb, hml, hown, hts⟩ (kX6_places l D cA a0 a_state a_readPage a_tape a_cutRow a_cutWeights a_isKept a_lanes a_lengths a_cells f_taped f_fault f_broken f_brokenAt f_spot f_here f_token f_value f_torn f_state f_readPage f_tape f_cutRow f_cutWeights f_isKept f_lanes f_lengths f_cells _ hw) (cwV 0 hts gX6_block_X6_places rfl rfl rfl vX6_places ⟨Nat.le_of_ble_eq_true rfl, Nat.le_of_ble_eq_true rfl⟩) hK (hP.sub [0, 1, 2, 3, 4, 5, 6, 7, 8, 9] rfl) (va_recv hK.1 (hP.sub (ws' := [(a0, .inr (5, [.ref a_state, .ref a_readPage, .ref a_tape, .int f_taped, .int f_fault, .int f_broken, .int f_brokenAt, .int f_spot, .int f_here, .int f_token, .int f_value, .ref a_cutRow, .ref a_cutWeights, .ref a_isKept, .ref a_lanes, .ref a_lengths, .ref a_cells, .int f_torn]))]) [0] rfl) (ci := 5) (q0 := 0) rfl rfl) rfl hl.1 rfl (Nat.le_of_ble_eq_true rfl) dX6_block_76 ⟨Nat.zero_le _, Nat.zero_le _⟩ (fun r_16 hw => ?_)
              refine lv_icmp_ge (tgt := 132) hx hb dX6_block_79 (by decide) (fun c_17 => ?_) (fun c_17 => ?_)
              · have hw := hw.1 c_17
                refine lv_bipush (v := 100) hx hb dX6_block_132 (by decide) ?_
                refine lv_iload_n hx hb dX6_block_134 rfl (lv_at hl 2 rfl) ?_
                refine lv_if_ne (tgt := 143) hx hb dX6_block_135 (by decide) (fun c_18 => ?_) (fun c_18 => ?_)
                · have hw := hw.1 c_18
                  refine lv_iload_n hx hb dX6_block_143 rfl (lv_at hl 2 rfl) ?_
                  refine lv_iconst (v := 1) hx hb dX6_block_144 (by decide) ?_
                  refine lv_icmp_ne (tgt := 153) hx hb dX6_block_145 (by decide) (fun c_19 => ?_) (fun c_19 => ?_)
                  · have hw := hw.1 c_19
                    refine lv_iload hx hb dX6_block_153 (lv_at hl 6 rfl) ?_
                    refine lv_iadd hx hb dX6_block_155 ?_
                    exact z_iret hx hb hr hlk hw dX6_block_156
                  · have hw := hw.2 c_19
                    refine lv_iload hx hb dX6_block_148 (lv_at hl 5 rfl) ?_
                    refine lv_goto (tgt := 155) hx hb dX6_block_150 (by decide) ?_
                    refine lv_iadd hx hb dX6_block_155 ?_
                    exact z_iret hx hb hr hlk hw dX6_block_156
                · have hw := hw.2 c_18
                  refine lv_iload hx hb dX6_block_138 (lv_at hl 4 rfl) ?_
                  refine lv_goto (tgt := 155) hx hb dX6_block_140 (by decide) ?_
                  refine lv_iadd hx hb dX6_block_155 ?_
                  exact z_iret hx hb hr hlk hw dX6_block_156
              · have hw := hw.2 c_17
                refine lv_aload_n hx hb dX6_block_82 rfl (lv_at hl 0 rfl) ?_
                refine lv_iload hx hb dX6_block_83 (lv_at hl 7 rfl) ?_
                refine lv_iconst (v := 1) hx hb dX6_block_85 (by decide) ?_
                refine lv_iadd hx hb dX6_block_86 ?_
                refine z_ri [.int (x_12 + (1 : Int32))] [] ⟨hx, hb, hml, hown, hts⟩ (kX6_excessAt l D cA a0 a_state a_readPage a_tape a_cutRow a_cutWeights a_isKept a_lanes a_lengths a_cells f_taped f_fault f_broken f_brokenAt f_spot f_here f_token f_value f_torn f_state f_readPage f_tape f_cutRow f_cutWeights f_isKept f_lanes f_lengths f_cells (x_12 + (1 : Int32)) _ hw) (cwV 1 hts gX6_block_X6_excessAt rfl rfl rfl vX6_excessAt ⟨Nat.le_of_ble_eq_true rfl, Nat.le_of_ble_eq_true rfl⟩) hK (hP.sub [0, 1, 2, 3, 4, 5, 6, 7, 8, 9] rfl) (va_recv hK.1 (hP.sub (ws' := [(a0, .inr (5, [.ref a_state, .ref a_readPage, .ref a_tape, .int f_taped, .int f_fault, .int f_broken, .int f_brokenAt, .int f_spot, .int f_here, .int f_token, .int f_value, .ref a_cutRow, .ref a_cutWeights, .ref a_isKept, .ref a_lanes, .ref a_lengths, .ref a_cells, .int f_torn]))]) [0] rfl) (ci := 5) (q0 := 0) rfl rfl) rfl hl.1 rfl (Nat.le_of_ble_eq_true rfl) dX6_block_87 ⟨Nat.zero_le _, Nat.zero_le _⟩ (fun r_20 hw => ?_)
                refine lv_iload_n hx hb dX6_block_90 rfl (lv_at hl 3 rfl) ?_
                refine lv_isub hx hb dX6_block_91 ?_
                refine lv_topi (fun x_21 ex_21 => ?_)
                have hw := hw x_21 ex_21
                refine lv_istore (lv' := [(4, .int x_21), (0, .ref a0), (1, .int p1), (2, .int p2), (3, .int r_6), (5, .int x_10), (6, .int x_11), (7, .int x_12)]) hx hb dX6_block_92 hl (by decide) rfl (fun ls hl => ?_)
                refine lv_iload hx hb dX6_block_94 (lv_at hl 0 rfl) ?_
                refine lv_iload hx hb dX6_block_96 (lv_at hl 5 rfl) ?_
                refine lv_icmp_ge (tgt := 106) hx hb dX6_block_98 (by decide) (fun c_22 => ?_) (fun c_22 => ?_)
                · have hw := hw.1 c_22
                  refine lv_iload hx hb dX6_block_106 (lv_at hl 5 rfl) ?_
                  refine lv_istore (lv' := [(5, .int x_10), (4, .int x_21), (0, .ref a0), (1, .int p1), (2, .int p2), (3, .int r_6), (6, .int x_11), (7, .int x_12)]) hx hb dX6_block_108 hl (by decide) rfl (fun ls hl => ?_)
                  refine lv_iload hx hb dX6_block_110 (lv_at hl 1 rfl) ?_
                  refine lv_iload hx hb dX6_block_112 (lv_at hl 6 rfl) ?_
                  refine lv_icmp_le (tgt := 122) hx hb dX6_block_114 (by decide) (fun c_23 => ?_) (fun c_23 => ?_)
                  · have hw := hw.1 c_23
                    refine lv_iload hx hb dX6_block_122 (lv_at hl 6 rfl) ?_
                    refine lv_istore (lv' := [(6, .int x_11), (5, .int x_10), (4, .int x_21), (0, .ref a0), (1, .int p1), (2, .int p2), (3, .int r_6), (7, .int x_12)]) hx hb dX6_block_124 hl (by decide) rfl (fun ls hl => ?_)
                    obtain ⟨x_24, ex_24⟩ : ∃ y : Int32, y = x_12 + (1) := ⟨_, rfl⟩
                    have hw := hw x_24 ex_24
                    refine lv_iinc (v := x_24) (lv' := [(7, .int x_24), (6, .int x_11), (5, .int x_10), (4, .int x_21), (0, .ref a0), (1, .int p1), (2, .int p2), (3, .int r_6)]) hx hb dX6_block_126 hl (k := 7) rfl (by rw [ex_24]; rfl) (by decide) rfl (fun ls hl => ?_)
                    refine lv_goto (tgt := 61) hx hb dX6_block_129 (by decide) ?_
                    exact ih_8 x_21 x_10 x_11 x_24 ls (Nat.lt_of_lt_of_le hw.2 (Nat.le_of_lt_succ hmu_8)) hw.1 (lv_sub hl [4, 5, 6, 7, 3, 2, 1, 0] rfl)
                  · have hw := hw.2 c_23
                    refine lv_iload hx hb dX6_block_117 (lv_at hl 1 rfl) ?_
                    refine lv_goto (tgt := 124) hx hb dX6_block_119 (by decide) ?_
                    refine lv_istore (lv' := [(6, .int x_21), (5, .int x_10), (4, .int x_21), (0, .ref a0), (1, .int p1), (2, .int p2), (3, .int r_6), (7, .int x_12)]) hx hb dX6_block_124 hl (by decide) rfl (fun ls hl => ?_)
                    obtain ⟨x_25, ex_25⟩ : ∃ y : Int32, y = x_12 + (1) := ⟨_, rfl⟩
                    have hw := hw x_25 ex_25
                    refine lv_iinc (v := x_25) (lv' := [(7, .int x_25), (6, .int x_21), (5, .int x_10), (4, .int x_21), (0, .ref a0), (1, .int p1), (2, .int p2), (3, .int r_6)]) hx hb dX6_block_126 hl (k := 7) rfl (by rw [ex_25]; rfl) (by decide) rfl (fun ls hl => ?_)
                    refine lv_goto (tgt := 61) hx hb dX6_block_129 (by decide) ?_
                    exact ih_8 x_21 x_10 x_21 x_25 ls (Nat.lt_of_lt_of_le hw.2 (Nat.le_of_lt_succ hmu_8)) hw.1 (lv_sub hl [4, 5, 6, 7, 3, 2, 1, 0] rfl)
                · have hw := hw.2 c_22
                  refine lv_iload hx hb dX6_block_101 (lv_at hl 0 rfl) ?_
                  refine lv_goto (tgt := 108) hx hb dX6_block_103 (by decide) ?_
                  refine lv_istore (lv' := [(5, .int x_21), (4, .int x_21), (0, .ref a0), (1, .int p1), (2, .int p2), (3, .int r_6), (6, .int x_11), (7, .int x_12)]) hx hb dX6_block_108 hl (by decide) rfl (fun ls hl => ?_)
                  refine lv_iload hx hb dX6_block_110 (lv_at hl 1 rfl) ?_
                  refine lv_iload hx hb dX6_block_112 (lv_at hl 6 rfl) ?_
                  refine lv_icmp_le (tgt := 122) hx hb dX6_block_114 (by decide) (fun c_26 => ?_) (fun c_26 => ?_)
                  · have hw := hw.1 c_26
                    refine lv_iload hx hb dX6_block_122 (lv_at hl 6 rfl) ?_
                    refine lv_istore (lv' := [(6, .int x_11), (5, .int x_21), (4, .int x_21), (0, .ref a0), (1, .int p1), (2, .int p2), (3, .int r_6), (7, .int x_12)]) hx hb dX6_block_124 hl (by decide) rfl (fun ls hl => ?_)
                    obtain ⟨x_27, ex_27⟩ : ∃ y : Int32, y = x_12 + (1) := ⟨_, rfl⟩
                    have hw := hw x_27 ex_27
                    refine lv_iinc (v := x_27) (lv' := [(7, .int x_27), (6, .int x_11), (5, .int x_21), (4, .int x_21), (0, .ref a0), (1, .int p1), (2, .int p2), (3, .int r_6)]) hx hb dX6_block_126 hl (k := 7) rfl (by rw [ex_27]; rfl) (by decide) rfl (fun ls hl => ?_)
                    refine lv_goto (tgt := 61) hx hb dX6_block_129 (by decide) ?_
                    exact ih_8 x_21 x_21 x_11 x_27 ls (Nat.lt_of_lt_of_le hw.2 (Nat.le_of_lt_succ hmu_8)) hw.1 (lv_sub hl [4, 5, 6, 7, 3, 2, 1, 0] rfl)
                  · have hw := hw.2 c_26
                    refine lv_iload hx hb dX6_block_117 (lv_at hl 1 rfl) ?_
                    refine lv_goto (tgt := 124) hx hb dX6_block_119 (by decide) ?_
                    refine lv_istore (lv' := [(6, .int x_21), (5, .int x_21), (4, .int x_21), (0, .ref a0), (1, .int p1), (2, .int p2), (3, .int r_6), (7, .int x_12)]) hx hb dX6_block_124 hl (by decide) rfl (fun ls hl => ?_)
                    obtain ⟨x_28, ex_28⟩ : ∃ y : Int32, y = x_12 + (1) := ⟨_, rfl⟩
                    have hw := hw x_28 ex_28
                    refine lv_iinc (v := x_28) (lv' := [(7, .int x_28), (6, .int x_21), (5, .int x_21), (4, .int x_21), (0, .ref a0), (1, .int p1), (2, .int p2), (3, .int r_6)]) hx hb dX6_block_126 hl (k := 7) rfl (by rw [ex_28]; rfl) (by decide) rfl (fun ls hl => ?_)
                    refine lv_goto (tgt := 61) hx hb dX6_block_129 (by decide) ?_
                    exact ih_8 x_21 x_21 x_21 x_28 ls (Nat.lt_of_lt_of_le hw.2 (Nat.le_of_lt_succ hmu_8)) hw.1 (lv_sub hl [4, 5, 6, 7, 3, 2, 1, 0] rfl)
        exact lp_8 (mu_8 (0 : Int32) (1000 : Int32) (-1000 : Int32) x_7 + 1) (0 : Int32) (1000 : Int32) (-1000 : Int32) x_7 ls (Nat.lt_succ_self _) hI_8 (lv_sub hl [5, 6, 7, 4, 3, 2, 1, 0] rfl)
      · have hw := hw.2 c_5
        refine lv_iconst (v := -1) hx hb dX6_block_31 (by decide) ?_
        exact z_iret hx hb hr hlk hw dX6_block_32
def wX6_sizeOf (f_state : Nat → Int32) (p1 : Int32) (post : Int32 → Prop) : Prop := (wX6_openOf f_state p1 (fun r_1 : Int32 => ((wX6_shutOf f_state r_1 (fun r_2 : Int32 => (post (((r_2 - r_1) + (1 : Int32)) / (2 : Int32))))))))
abbrev rX6_sizeOf : Room := { frames := 1, cells := 0, slots := 0, locals := 23 }
theorem vX6_sizeOf : yX6_sizeOf.cls = RX6 ∧ yX6_sizeOf.cls ≠ "java/lang/invoke/MethodHandle" ∧ yX6_sizeOf.cls ≠ "java/lang/invoke/VarHandle" ∧ (parseMethodDescriptor yX6_sizeOf.desc).map (fun d => d.parameters.length) = some 1 := by decide +kernel
set_option maxHeartbeats 4000000 in
set_option maxRecDepth 100000 in
theorem kX6_sizeOf (l : Launch) (D : va_G) (cA : Nat → ClassId) (a0 a_state a_readPage a_tape a_cutRow a_cutWeights a_isKept a_lanes a_lengths a_cells : Nat) (f_taped : Int32) (f_fault : Int32) (f_broken : Int32) (f_brokenAt : Int32) (f_spot : Int32) (f_here : Int32) (f_token : Int32) (f_value : Int32) (f_torn : Int32) (f_state : Nat → Int32) (f_readPage : Nat → Int32) (f_tape : Nat → Int32) (f_cutRow : Nat → Int32) (f_cutWeights : Nat → Int32) (f_isKept : Nat → Int32) (f_lanes : Nat → Int32) (f_lengths : Nat → Int32) (f_cells : Nat → Int64) (p1 : Int32) (post : Int32 → Prop) (h : wX6_sizeOf f_state p1 post) : Met l yX6_sizeOf wsX6_sizeOf rX6_sizeOf (zPr D cA [.ref a0, .int p1] [(a0, .inr (5, [.ref a_state, .ref a_readPage, .ref a_tape, .int f_taped, .int f_fault, .int f_broken, .int f_brokenAt, .int f_spot, .int f_here, .int f_token, .int f_value, .ref a_cutRow, .ref a_cutWeights, .ref a_isKept, .ref a_lanes, .ref a_lengths, .ref a_cells, .int f_torn])), (a_state, .inl (cA 0, 579, .inl f_state)), (a_readPage, .inl (cA 0, 193, .inl f_readPage)), (a_tape, .inl (cA 0, 160, .inl f_tape)), (a_cutRow, .inl (cA 0, 128, .inl f_cutRow)), (a_cutWeights, .inl (cA 0, 64, .inl f_cutWeights)), (a_isKept, .inl (cA 3, 2, .inl f_isKept)), (a_lanes, .inl (cA 0, 4, .inl f_lanes)), (a_lengths, .inl (cA 0, 4, .inl f_lengths)), (a_cells, .inl (cA 1, 160, .inr (.inl f_cells)))]) (vp_Si post) 0 0 (fun _ => False) := by
  refine z_ro (cc := cX6_sizeOf) (maxL := 3) (ret := (some .int)) (by decide) rfl (Nat.le_of_ble_eq_true rfl) ?_
  intro p e s m args below meth c ls hx hb hr hlk hml hown hts hK hP hl
  have hown : s.vm.findClass RX6 = some m.cls := hown
  have hl : lv_has ls 3 [(0, .ref a0), (1, .int p1)] := hl
  have hw := h
  unfold wX6_sizeOf at hw
  refine lv_aload_n hx hb dX6_sizeOf_0 rfl (lv_at hl 0 rfl) ?_
  refine lv_iload_n hx hb dX6_sizeOf_1 rfl (lv_at hl 1 rfl) ?_
  refine z_ri [.int p1] [] ⟨hx, hb, hml, hown, hts⟩ (kX6_openOf l D cA a0 a_state a_readPage a_tape a_cutRow a_cutWeights a_isKept a_lanes a_lengths a_cells f_taped f_fault f_broken f_brokenAt f_spot f_here f_token f_value f_torn f_state f_readPage f_tape f_cutRow f_cutWeights f_isKept f_lanes f_lengths f_cells p1 _ hw) (cwV 1 hts gX6_sizeOf_X6_openOf rfl rfl rfl vX6_openOf ⟨Nat.le_of_ble_eq_true rfl, Nat.le_of_ble_eq_true rfl⟩) hK (hP.sub [0, 1, 2, 3, 4, 5, 6, 7, 8, 9] rfl) (va_recv hK.1 (hP.sub (ws' := [(a0, .inr (5, [.ref a_state, .ref a_readPage, .ref a_tape, .int f_taped, .int f_fault, .int f_broken, .int f_brokenAt, .int f_spot, .int f_here, .int f_token, .int f_value, .ref a_cutRow, .ref a_cutWeights, .ref a_isKept, .ref a_lanes, .ref a_lengths, .ref a_cells, .int f_torn]))]) [0] rfl) (ci := 5) (q0 := 0) rfl rfl) rfl hl.1 rfl (Nat.le_of_ble_eq_true rfl) dX6_sizeOf_2 ⟨Nat.zero_le _, Nat.zero_le _⟩ (fun r_1 hw => ?_)
  refine lv_istore_n (lv' := [(2, .int r_1), (0, .ref a0), (1, .int p1)]) hx hb dX6_sizeOf_5 rfl hl (by decide) rfl (fun ls hl => ?_)
  refine lv_aload_n hx hb dX6_sizeOf_6 rfl (lv_at hl 1 rfl) ?_
  refine lv_iload_n hx hb dX6_sizeOf_7 rfl (lv_at hl 0 rfl) ?_
  refine z_ri [.int r_1] [] ⟨hx, hb, hml, hown, hts⟩ (kX6_shutOf l D cA a0 a_state a_readPage a_tape a_cutRow a_cutWeights a_isKept a_lanes a_lengths a_cells f_taped f_fault f_broken f_brokenAt f_spot f_here f_token f_value f_torn f_state f_readPage f_tape f_cutRow f_cutWeights f_isKept f_lanes f_lengths f_cells r_1 _ hw) (cwV 1 hts gX6_sizeOf_X6_shutOf rfl rfl rfl vX6_shutOf ⟨Nat.le_of_ble_eq_true rfl, Nat.le_of_ble_eq_true rfl⟩) hK (hP.sub [0, 1, 2, 3, 4, 5, 6, 7, 8, 9] rfl) (va_recv hK.1 (hP.sub (ws' := [(a0, .inr (5, [.ref a_state, .ref a_readPage, .ref a_tape, .int f_taped, .int f_fault, .int f_broken, .int f_brokenAt, .int f_spot, .int f_here, .int f_token, .int f_value, .ref a_cutRow, .ref a_cutWeights, .ref a_isKept, .ref a_lanes, .ref a_lengths, .ref a_cells, .int f_torn]))]) [0] rfl) (ci := 5) (q0 := 0) rfl rfl) rfl hl.1 rfl (Nat.le_of_ble_eq_true rfl) dX6_sizeOf_8 ⟨Nat.zero_le _, Nat.zero_le _⟩ (fun r_2 hw => ?_)
  refine lv_iload_n hx hb dX6_sizeOf_11 rfl (lv_at hl 0 rfl) ?_
  refine lv_isub hx hb dX6_sizeOf_12 ?_
  refine lv_iconst (v := 1) hx hb dX6_sizeOf_13 (by decide) ?_
  refine lv_iadd hx hb dX6_sizeOf_14 ?_
  refine lv_iconst (v := 2) hx hb dX6_sizeOf_15 (by decide) ?_
  refine lv_idiv hx hb dX6_sizeOf_16 (by decide) ?_
  exact z_iret hx hb hr hlk hw dX6_sizeOf_17
