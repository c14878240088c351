/-! written by wip/whole/gen.py -/
def wX6_select (f_state : Nat → Int32) (p1 : Int32) (p2 : Int32) (post : Int32 → Prop) : Prop := ((p1 < 0 → post (-1 : Int32)) ∧ (¬ p1 < 0 → (wX6_in ((p2).toInt64) (0 : Int64) (2 : Int64) (fun r_2 : Int32 => (((¬ r_2 = 0 → (∃ (I_4 : Int32 → Int32 → Prop) (mu_4 : Int32 → Int32 → Nat), I_4 p1 (0 : Int32) ∧ ∀ (x_5 : Int32) (x_6 : Int32), I_4 x_5 x_6 → (wX6_places f_state (fun r_7 : Int32 => (((r_7 ≤ x_6 → post (-4 : Int32)) ∧ (¬ r_7 ≤ x_6 → (wX6_isSort f_state x_6 p2 (fun r_9 : Int32 => (((r_9 = 0 → (∀ x_11 : Int32, x_11 = x_6 + (1) → (I_4 x_5 x_11 ∧ mu_4 x_5 x_11 < mu_4 x_5 x_6))) ∧ (¬ r_9 = 0 → ((¬ x_5 = 0 → (∀ x_13 : Int32, x_13 = x_5 + (-1) → (∀ x_14 : Int32, x_14 = x_6 + (1) → (I_4 x_13 x_14 ∧ mu_4 x_13 x_14 < mu_4 x_5 x_6)))) ∧ (x_5 = 0 → post x_6)))))))))))))) ∧ (r_2 = 0 → post (-1 : Int32))))))))
abbrev rX6_select : Room := { frames := 3, cells := 0, slots := 0, locals := 63 }
theorem vX6_select : yX6_select.cls = RX6 ∧ yX6_select.cls ≠ "java/lang/invoke/MethodHandle" ∧ yX6_select.cls ≠ "java/lang/invoke/VarHandle" ∧ (parseMethodDescriptor yX6_select.desc).map (fun d => d.parameters.length) = some 2 := by decide +kernel
set_option maxHeartbeats 4000000 in
set_option maxRecDepth 100000 in
theorem kX6_select (l : Launch) (D : va_G) (cA : Nat → ClassId) (a0 a_state a_readPage a_tape a_cutRow a_cutWeights a_isKept a_lanes a_lengths a_cells : Nat) (f_taped : Int32) (f_fault : Int32) (f_broken : Int32) (f_brokenAt : Int32) (f_spot : Int32) (f_here : Int32) (f_token : Int32) (f_value : Int32) (f_torn : Int32) (f_state : Nat → Int32) (f_readPage : Nat → Int32) (f_tape : Nat → Int32) (f_cutRow : Nat → Int32) (f_cutWeights : Nat → Int32) (f_isKept : Nat → Int32) (f_lanes : Nat → Int32) (f_lengths : Nat → Int32) (f_cells : Nat → Int64) (p1 : Int32) (p2 : Int32) (post : Int32 → Prop) (h : wX6_select f_state p1 p2 post) : Met l yX6_select wsX6_select rX6_select (zPr D cA [.ref a0, .int p1, .int p2] [(a0, .inr (5, [.ref a_state, .ref a_readPage, .ref a_tape, .int f_taped, .int f_fault, .int f_broken, .int f_brokenAt, .int f_spot, .int f_here, .int f_token, .int f_value, .ref a_cutRow, .ref a_cutWeights, .ref a_isKept, .ref a_lanes, .ref a_lengths, .ref a_cells, .int f_torn])), (a_state, .inl (cA 0, 579, .inl f_state)), (a_readPage, .inl (cA 0, 193, .inl f_readPage)), (a_tape, .inl (cA 0, 160, .inl f_tape)), (a_cutRow, .inl (cA 0, 128, .inl f_cutRow)), (a_cutWeights, .inl (cA 0, 64, .inl f_cutWeights)), (a_isKept, .inl (cA 3, 2, .inl f_isKept)), (a_lanes, .inl (cA 0, 4, .inl f_lanes)), (a_lengths, .inl (cA 0, 4, .inl f_lengths)), (a_cells, .inl (cA 1, 160, .inr (.inl f_cells)))]) (vp_Si post) 0 0 (fun _ => False) := by
  refine z_ro (cc := cX6_select) (maxL := 5) (ret := (some .int)) (by decide) rfl (Nat.le_of_ble_eq_true rfl) ?_
  intro p e s m args below meth c ls hx hb hr hlk hml hown hts hK hP hl
  have hown : s.vm.findClass RX6 = some m.cls := hown
  have hl : lv_has ls 5 [(0, .ref a0), (1, .int p1), (2, .int p2)] := hl
  have hw := h
  unfold wX6_select at hw
  have kl109 := hts (.constantLong RX6 109 (2)) (by decide +kernel)
  refine lv_iload_n hx hb dX6_select_0 rfl (lv_at hl 1 rfl) ?_
  refine lv_if_lt (tgt := 16) hx hb dX6_select_1 (by decide) (fun c_1 => ?_) (fun c_1 => ?_)
  · have hw := hw.1 c_1
    refine lv_iconst (v := -1) hx hb dX6_select_16 (by decide) ?_
    exact z_iret hx hb hr hlk hw dX6_select_17
  · have hw := hw.2 c_1
    refine lv_iload_n hx hb dX6_select_4 rfl (lv_at hl 2 rfl) ?_
    refine lv_i2l (v := ((p2).toInt64)) hx hb dX6_select_5 rfl ?_
    refine lv_lconst (v := 0) hx hb dX6_select_6 (by decide) ?_
    refine lv_ldc2 (v := 2) hx hb hown kl109 dX6_select_7 ?_
    refine z_si [.long ((p2).toInt64), .long (0 : Int64), .long (2 : Int64)] [] ⟨hx, hb, hml, hown, hts⟩ (kX6_in l D cA ((p2).toInt64) (0 : Int64) (2 : Int64) _ hw) (va_cwS 3 hts gX6_select_X6_in rfl rfl rfl vX6_in ⟨Nat.le_of_ble_eq_true rfl, Nat.le_of_ble_eq_true rfl⟩) hK z_p0 rfl hl.1 rfl (Nat.le_of_ble_eq_true rfl) dX6_select_10 ⟨Nat.zero_le _, Nat.zero_le _⟩ (fun r_2 hw => ?_)
    refine lv_if_ne (tgt := 18) hx hb dX6_select_13 (by decide) (fun c_3 => ?_) (fun c_3 => ?_)
    · have hw := hw.1 c_3
      refine lv_iload_n hx hb dX6_select_18 rfl (lv_at hl 1 rfl) ?_
      refine lv_istore_n (lv' := [(3, .int p1), (0, .ref a0), (1, .int p1), (2, .int p2)]) hx hb dX6_select_19 rfl hl (by decide) rfl (fun ls hl => ?_)
      refine lv_iconst (v := 0) hx hb dX6_select_20 (by decide) ?_
      refine lv_istore (lv' := [(4, .int (0 : Int32)), (3, .int p1), (0, .ref a0), (1, .int p1), (2, .int p2)]) hx hb dX6_select_21 hl (by decide) rfl (fun ls hl => ?_)
      obtain ⟨I_4, mu_4, hI_4, hw⟩ := hw
      have lp_4 : ∀ (nn : Nat) (x_5 : Int32) (x_6 : Int32) (ls : Array Slot), mu_4 x_5 x_6 < nn → I_4 x_5 x_6 → lv_has ls 5 [(0, .ref a0), (2, .int p2), (3, .int x_5), (4, .int x_6)] → W p l e rX6_select s m args below meth c s.heap [] 0 0 (MQ below (vp_Si post) args s 0 0 (fun _ => False)) (F0 m 23 ls []) := by
        intro nn
        induction nn with
        | zero => exact fun _ _ _ h0 => absurd h0 (Nat.not_lt_zero _)
        | succ nn ih_4 =>
          intro x_5 x_6 ls hmu_4 hI_4 hl
          have hw := hw x_5 x_6 hI_4
          refine lv_iload hx hb dX6_select_23 (lv_at hl 3 rfl) ?_
          refine lv_aload_n hx hb dX6_select_25 rfl (lv_at hl 0 rfl) ?_
          refine z_ri [] [.int x_6] ⟨hx, hb, hml, hown, hts⟩ (kX6_places l D cA a0 a_state a_readPage a_tape a_cutRow a_cutWeights a_isKept a_lanes a_lengths a_cells f_taped f_fault f_broken f_brokenAt f_spot f_here f_token f_value f_torn f_state f_readPage f_tape f_cutRow f_cutWeights f_isKept f_lanes f_lengths f_cells _ hw) (cwV 0 hts gX6_select_X6_places rfl rfl rfl vX6_places ⟨Nat.le_of_ble_eq_true rfl, Nat.le_of_ble_eq_true rfl⟩) hK (hP.sub [0, 1, 2, 3, 4, 5, 6, 7, 8, 9] rfl) (va_recv hK.1 (hP.sub (ws' := [(a0, .inr (5, [.ref a_state, .ref a_readPage, .ref a_tape, .int f_taped, .int f_fault, .int f_broken, .int f_brokenAt, .int f_spot, .int f_here, .int f_token, .int f_value, .ref a_cutRow, .ref a_cutWeights, .ref a_isKept, .ref a_lanes, .ref a_lengths, .ref a_cells, .int f_torn]))]) [0] rfl) (ci := 5) (q0 := 0) rfl rfl) rfl hl.1 rfl (Nat.le_of_ble_eq_true rfl) dX6_select_26 ⟨Nat.zero_le _, Nat.zero_le _⟩ (fun r_7 hw => ?_)
          refine lv_icmp_ge (tgt := 58) hx hb dX6_select_29 (by decide) (fun c_8 => ?_) (fun c_8 => ?_)
          · have hw := hw.1 c_8
            refine lv_bipush (v := -4) hx hb dX6_select_58 (by decide) ?_
            exact z_iret hx hb hr hlk hw dX6_select_60
          · have hw := hw.2 c_8
            refine lv_aload_n hx hb dX6_select_32 rfl (lv_at hl 0 rfl) ?_
            refine lv_iload hx hb dX6_select_33 (lv_at hl 3 rfl) ?_
            refine lv_iload_n hx hb dX6_select_35 rfl (lv_at hl 1 rfl) ?_
            refine z_ri [.int x_6, .int p2] [] ⟨hx, hb, hml, hown, hts⟩ (kX6_isSort l D cA a0 a_state a_readPage a_tape a_cutRow a_cutWeights a_isKept a_lanes a_lengths a_cells f_taped f_fault f_broken f_brokenAt f_spot f_here f_token f_value f_torn f_state f_readPage f_tape f_cutRow f_cutWeights f_isKept f_lanes f_lengths f_cells x_6 p2 _ hw) (cwV 2 hts gX6_select_X6_isSort rfl rfl rfl vX6_isSort ⟨Nat.le_of_ble_eq_true rfl, Nat.le_of_ble_eq_true rfl⟩) hK (hP.sub [0, 1, 2, 3, 4, 5, 6, 7, 8, 9] rfl) (va_recv hK.1 (hP.sub (ws' := [(a0, .inr (5, [.ref a_state, .ref a_readPage, .ref a_tape, .int f_taped, .int f_fault, .int f_broken, .int f_brokenAt, .int f_spot, .int f_here, .int f_token, .int f_value, .ref a_cutRow, .ref a_cutWeights, .ref a_isKept, .ref a_lanes, .ref a_lengths, .ref a_cells, .int f_torn]))]) [0] rfl) (ci := 5) (q0 := 0) rfl rfl) rfl hl.1 rfl (Nat.le_of_ble_eq_true rfl) dX6_select_36 ⟨Nat.zero_le _, Nat.zero_le _⟩ (fun r_9 hw => ?_)
            refine lv_if_eq (tgt := 52) hx hb dX6_select_39 (by decide) (fun c_10 => ?_) (fun c_10 => ?_)
            · have hw := hw.1 c_10
              obtain ⟨x_11, ex_11⟩ : ∃ y : Int32, y = x_6 + (1) := ⟨_, rfl⟩
              have hw := hw x_11 ex_11
              refine lv_iinc (v := x_11) (lv' := [(4, .int x_11), (0, .ref a0), (2, .int p2), (3, .int x_5)]) hx hb dX6_select_52 hl (k := 3) rfl (by rw [ex_11]; rfl) (by decide) rfl (fun ls hl => ?_)
              refine lv_goto (tgt := 23) hx hb dX6_select_55 (by decide) ?_
              exact ih_4 x_5 x_11 ls (Nat.lt_of_lt_of_le hw.2 (Nat.le_of_lt_succ hmu_4)) hw.1 (lv_sub hl [1, 2, 3, 0] rfl)
            · have hw := hw.2 c_10
              refine lv_iload_n hx hb dX6_select_42 rfl (lv_at hl 2 rfl) ?_
              refine lv_if_ne (tgt := 49) hx hb dX6_select_43 (by decide) (fun c_12 => ?_) (fun c_12 => ?_)
              · have hw := hw.1 c_12
                obtain ⟨x_13, ex_13⟩ : ∃ y : Int32, y = x_5 + (-1) := ⟨_, rfl⟩
                have hw := hw x_13 ex_13
                refine lv_iinc (v := x_13) (lv' := [(3, .int x_13), (0, .ref a0), (2, .int p2), (4, .int x_6)]) hx hb dX6_select_49 hl (k := 2) rfl (by rw [ex_13]; rfl) (by decide) rfl (fun ls hl => ?_)
                obtain ⟨x_14, ex_14⟩ : ∃ y : Int32, y = x_6 + (1) := ⟨_, rfl⟩
                have hw := hw x_14 ex_14
                refine lv_iinc (v := x_14) (lv' := [(4, .int x_14), (3, .int x_13), (0, .ref a0), (2, .int p2)]) hx hb dX6_select_52 hl (k := 3) rfl (by rw [ex_14]; rfl) (by decide) rfl (fun ls hl => ?_)
                refine lv_goto (tgt := 23) hx hb dX6_select_55 (by decide) ?_
                exact ih_4 x_13 x_14 ls (Nat.lt_of_lt_of_le hw.2 (Nat.le_of_lt_succ hmu_4)) hw.1 (lv_sub hl [2, 3, 1, 0] rfl)
              · have hw := hw.2 c_12
                refine lv_iload hx hb dX6_select_46 (lv_at hl 3 rfl) ?_
                exact z_iret hx hb hr hlk hw dX6_select_48
      exact lp_4 (mu_4 p1 (0 : Int32) + 1) p1 (0 : Int32) ls (Nat.lt_succ_self _) hI_4 (lv_sub hl [2, 4, 1, 0] rfl)
    · have hw := hw.2 c_3
      refine lv_iconst (v := -1) hx hb dX6_select_16 (by decide) ?_
      exact z_iret hx hb hr hlk hw dX6_select_17
def wX6_forward (f_state : Nat → Int32) (p1 : Int32) (p2 : Int32) (post : Int32 → Prop) : Prop := (wX6_isMark f_state p1 (fun r_1 : Int32 => (((¬ r_1 = 0 → (∀ x_3 : Int32, x_3 = (p1 + (1 : Int32)) → (∃ (I_4 : Int32 → Prop) (mu_4 : Int32 → Nat), I_4 x_3 ∧ ∀ (x_5 : Int32), I_4 x_5 → (wX6_places f_state (fun r_6 : Int32 => (((r_6 < x_5 → post (-4 : Int32)) ∧ (¬ r_6 < x_5 → (wX6_excessAt f_state x_5 (fun r_8 : Int32 => (((¬ r_8 = p2 → (∀ x_10 : Int32, x_10 = x_5 + (1) → (I_4 x_10 ∧ mu_4 x_10 < mu_4 x_5))) ∧ (r_8 = p2 → post x_5))))))))))))) ∧ (r_1 = 0 → post (-1 : Int32))))))
abbrev rX6_forward : Room := { frames := 2, cells := 0, slots := 0, locals := 46 }
theorem vX6_forward : yX6_forward.cls = RX6 ∧ yX6_forward.cls ≠ "java/lang/invoke/MethodHandle" ∧ yX6_forward.cls ≠ "java/lang/invoke/VarHandle" ∧ (parseMethodDescriptor yX6_forward.desc).map (fun d => d.parameters.length) = some 2 := by decide +kernel
set_option maxHeartbeats 4000000 in
set_option maxRecDepth 100000 in
theorem kX6_forward (l : Launch) (D : va_G) (cA : Nat → ClassId) (a0 a_state a_readPage a_tape a_cutRow a_cutWeights a_isKept a_lanes a_lengths a_cells : Nat) (f_taped : Int32) (f_fault : Int32) (f_broken : Int32) (f_brokenAt : Int32) (f_spot : Int32) (f_here : Int32) (f_token : Int32) (f_value : Int32) (f_torn : Int32) (f_state : Nat → Int32) (f_readPage : Nat → Int32) (f_tape : Nat → Int32) (f_cutRow : Nat → Int32) (f_cutWeights : Nat → Int32) (f_isKept : Nat → Int32) (f_lanes : Nat → Int32) (f_lengths : Nat → Int32) (f_cells : Nat → Int64) (p1 : Int32) (p2 : Int32) (post : Int32 → Prop) (h : wX6_forward f_state p1 p2 post) : Met l yX6_forward wsX6_forward rX6_forward (zPr D cA [.ref a0, .int p1, .int p2] [(a0, .inr (5, [.ref a_state, .ref a_readPage, .ref a_tape, .int f_taped, .int f_fault, .int f_broken, .int f_brokenAt, .int f_spot, .int f_here, .int f_token, .int f_value, .ref a_cutRow, .ref a_cutWeights, .ref a_isKept, .ref a_lanes, .ref a_lengths, .ref a_cells, .int f_torn])), (a_state, .inl (cA 0, 579, .inl f_state)), (a_readPage, .inl (cA 0, 193, .inl f_readPage)), (a_tape, .inl (cA 0, 160, .inl f_tape)), (a_cutRow, .inl (cA 0, 128, .inl f_cutRow)), (a_cutWeights, .inl (cA 0, 64, .inl f_cutWeights)), (a_isKept, .inl (cA 3, 2, .inl f_isKept)), (a_lanes, .inl (cA 0, 4, .inl f_lanes)), (a_lengths, .inl (cA 0, 4, .inl f_lengths)), (a_cells, .inl (cA 1, 160, .inr (.inl f_cells)))]) (vp_Si post) 0 0 (fun _ => False) := by
  refine z_ro (cc := cX6_forward) (maxL := 4) (ret := (some .int)) (by decide) rfl (Nat.le_of_ble_eq_true rfl) ?_
  intro p e s m args below meth c ls hx hb hr hlk hml hown hts hK hP hl
  have hown : s.vm.findClass RX6 = some m.cls := hown
  have hl : lv_has ls 4 [(0, .ref a0), (1, .int p1), (2, .int p2)] := hl
  have hw := h
  unfold wX6_forward at hw
  refine lv_aload_n hx hb dX6_forward_0 rfl (lv_at hl 0 rfl) ?_
  refine lv_iload_n hx hb dX6_forward_1 rfl (lv_at hl 1 rfl) ?_
  refine z_ri [.int p1] [] ⟨hx, hb, hml, hown, hts⟩ (kX6_isMark l D cA a0 a_state a_readPage a_tape a_cutRow a_cutWeights a_isKept a_lanes a_lengths a_cells f_taped f_fault f_broken f_brokenAt f_spot f_here f_token f_value f_torn f_state f_readPage f_tape f_cutRow f_cutWeights f_isKept f_lanes f_lengths f_cells p1 _ hw) (cwV 1 hts gX6_forward_X6_isMark rfl rfl rfl vX6_isMark ⟨Nat.le_of_ble_eq_true rfl, Nat.le_of_ble_eq_true rfl⟩) hK (hP.sub [0, 1, 2, 3, 4, 5, 6, 7, 8, 9] rfl) (va_recv hK.1 (hP.sub (ws' := [(a0, .inr (5, [.ref a_state, .ref a_readPage, .ref a_tape, .int f_taped, .int f_fault, .int f_broken, .int f_brokenAt, .int f_spot, .int f_here, .int f_token, .int f_value, .ref a_cutRow, .ref a_cutWeights, .ref a_isKept, .ref a_lanes, .ref a_lengths, .ref a_cells, .int f_torn]))]) [0] rfl) (ci := 5) (q0 := 0) rfl rfl) rfl hl.1 rfl (Nat.le_of_ble_eq_true rfl) dX6_forward_2 ⟨Nat.zero_le _, Nat.zero_le _⟩ (fun r_1 hw => ?_)
  refine lv_if_ne (tgt := 10) hx hb dX6_forward_5 (by decide) (fun c_2 => ?_) (fun c_2 => ?_)
  · have hw := hw.1 c_2
    refine lv_iload_n hx hb dX6_forward_10 rfl (lv_at hl 1 rfl) ?_
    refine lv_iconst (v := 1) hx hb dX6_forward_11 (by decide) ?_
    refine lv_iadd hx hb dX6_forward_12 ?_
    refine lv_topi (fun x_3 ex_3 => ?_)
    have hw := hw x_3 ex_3
    refine lv_istore_n (lv' := [(3, .int x_3), (0, .ref a0), (1, .int p1), (2, .int p2)]) hx hb dX6_forward_13 rfl hl (by decide) rfl (fun ls hl => ?_)
    obtain ⟨I_4, mu_4, hI_4, hw⟩ := hw
    have lp_4 : ∀ (nn : Nat) (x_5 : Int32) (ls : Array Slot), mu_4 x_5 < nn → I_4 x_5 → lv_has ls 4 [(0, .ref a0), (2, .int p2), (3, .int x_5)] → W p l e rX6_forward s m args below meth c s.heap [] 0 0 (MQ below (vp_Si post) args s 0 0 (fun _ => False)) (F0 m 14 ls []) := by
      intro nn
      induction nn with
      | zero => exact fun _ _ h0 => absurd h0 (Nat.not_lt_zero _)
      | succ nn ih_4 =>
        intro x_5 ls hmu_4 hI_4 hl
        have hw := hw x_5 hI_4
        refine lv_iload_n hx hb dX6_forward_14 rfl (lv_at hl 2 rfl) ?_
        refine lv_aload_n hx hb dX6_forward_15 rfl (lv_at hl 0 rfl) ?_
        refine z_ri [] [.int x_5] ⟨hx, hb, hml, hown, hts⟩ (kX6_places l D cA a0 a_state a_readPage a_tape a_cutRow a_cutWeights a_isKept a_lanes a_lengths a_cells f_taped f_fault f_broken f_brokenAt f_spot f_here f_token f_value f_torn f_state f_readPage f_tape f_cutRow f_cutWeights f_isKept f_lanes f_lengths f_cells _ hw) (cwV 0 hts gX6_forward_X6_places rfl rfl rfl vX6_places ⟨Nat.le_of_ble_eq_true rfl, Nat.le_of_ble_eq_true rfl⟩) hK (hP.sub [0, 1, 2, 3, 4, 5, 6, 7, 8, 9] rfl) (va_recv hK.1 (hP.sub (ws' := [(a0, .inr (5, [.ref a_state, .ref a_readPage, .ref a_tape, .int f_taped, .int f_fault, .int f_broken, .int f_brokenAt, .int f_spot, .int f_here, .int f_token, .int f_value, .ref a_cutRow, .ref a_cutWeights, .ref a_isKept, .ref a_lanes, .ref a_lengths, .ref a_cells, .int f_torn]))]) [0] rfl) (ci := 5) (q0 := 0) rfl rfl) rfl hl.1 rfl (Nat.le_of_ble_eq_true rfl) dX6_forward_16 ⟨Nat.zero_le _, Nat.zero_le _⟩ (fun r_6 hw => ?_)
        refine lv_icmp_gt (tgt := 39) hx hb dX6_forward_19 (by decide) (fun c_7 => ?_) (fun c_7 => ?_)
        · have hw := hw.1 c_7
          refine lv_bipush (v := -4) hx hb dX6_forward_39 (by decide) ?_
          exact z_iret hx hb hr hlk hw dX6_forward_41
        · have hw := hw.2 c_7
          refine lv_aload_n hx hb dX6_forward_22 rfl (lv_at hl 0 rfl) ?_
          refine lv_iload_n hx hb dX6_forward_23 rfl (lv_at hl 2 rfl) ?_
          refine z_ri [.int x_5] [] ⟨hx, hb, hml, hown, hts⟩ (kX6_excessAt l D cA a0 a_state a_readPage a_tape a_cutRow a_cutWeights a_isKept a_lanes a_lengths a_cells f_taped f_fault f_broken f_brokenAt f_spot f_here f_token f_value f_torn f_state f_readPage f_tape f_cutRow f_cutWeights f_isKept f_lanes f_lengths f_cells x_5 _ hw) (cwV 1 hts gX6_forward_X6_excessAt rfl rfl rfl vX6_excessAt ⟨Nat.le_of_ble_eq_true rfl, Nat.le_of_ble_eq_true rfl⟩) hK (hP.sub [0, 1, 2, 3, 4, 5, 6, 7, 8, 9] rfl) (va_recv hK.1 (hP.sub (ws' := [(a0, .inr (5, [.ref a_state, .ref a_readPage, .ref a_tape, .int f_taped, .int f_fault, .int f_broken, .int f_brokenAt, .int f_spot, .int f_here, .int f_token, .int f_value, .ref a_cutRow, .ref a_cutWeights, .ref a_isKept, .ref a_lanes, .ref a_lengths, .ref a_cells, .int f_torn]))]) [0] rfl) (ci := 5) (q0 := 0) rfl rfl) rfl hl.1 rfl (Nat.le_of_ble_eq_true rfl) dX6_forward_24 ⟨Nat.zero_le _, Nat.zero_le _⟩ (fun r_8 hw => ?_)
          refine lv_iload_n hx hb dX6_forward_27 rfl (lv_at hl 1 rfl) ?_
          refine lv_icmp_ne (tgt := 33) hx hb dX6_forward_28 (by decide) (fun c_9 => ?_) (fun c_9 => ?_)
          · have hw := hw.1 c_9
            obtain ⟨x_10, ex_10⟩ : ∃ y : Int32, y = x_5 + (1) := ⟨_, rfl⟩
            have hw := hw x_10 ex_10
            refine lv_iinc (v := x_10) (lv' := [(3, .int x_10), (0, .ref a0), (2, .int p2)]) hx hb dX6_forward_33 hl (k := 2) rfl (by rw [ex_10]; rfl) (by decide) rfl (fun ls hl => ?_)
            refine lv_goto (tgt := 14) hx hb dX6_forward_36 (by decide) ?_
            exact ih_4 x_10 ls (Nat.lt_of_lt_of_le hw.2 (Nat.le_of_lt_succ hmu_4)) hw.1 (lv_sub hl [1, 2, 0] rfl)
          · have hw := hw.2 c_9
            refine lv_iload_n hx hb dX6_forward_31 rfl (lv_at hl 2 rfl) ?_
            exact z_iret hx hb hr hlk hw dX6_forward_32
    exact lp_4 (mu_4 x_3 + 1) x_3 ls (Nat.lt_succ_self _) hI_4 (lv_sub hl [1, 3, 0] rfl)
  · have hw := hw.2 c_2
    refine lv_iconst (v := -1) hx hb dX6_forward_8 (by decide) ?_
    exact z_iret hx hb hr hlk hw dX6_forward_9
def wX6_backward (f_state : Nat → Int32) (p1 : Int32) (p2 : Int32) (post : Int32 → Prop) : Prop := (wX6_isMark f_state p1 (fun r_1 : Int32 => (((¬ r_1 = 0 → (∀ x_3 : Int32, x_3 = (p1 - (1 : Int32)) → (∃ (I_4 : Int32 → Prop) (mu_4 : Int32 → Nat), I_4 x_3 ∧ ∀ (x_5 : Int32), I_4 x_5 → ((x_5 < 0 → post (-4 : Int32)) ∧ (¬ x_5 < 0 → (wX6_excessAt f_state x_5 (fun r_7 : Int32 => (((¬ r_7 = p2 → (∀ x_9 : Int32, x_9 = x_5 + (-1) → (I_4 x_9 ∧ mu_4 x_9 < mu_4 x_5))) ∧ (r_7 = p2 → post x_5)))))))))) ∧ (r_1 = 0 → post (-1 : Int32))))))
abbrev rX6_backward : Room := { frames := 2, cells := 0, slots := 0, locals := 46 }
theorem vX6_backward : yX6_backward.cls = RX6 ∧ yX6_backward.cls ≠ "java/lang/invoke/MethodHandle" ∧ yX6_backward.cls ≠ "java/lang/invoke/VarHandle" ∧ (parseMethodDescriptor yX6_backward.desc).map (fun d => d.parameters.length) = some 2 := by decide +kernel
set_option maxHeartbeats 4000000 in
set_option maxRecDepth 100000 in
theorem kX6_backward (l : Launch) (D : va_G) (cA : Nat → ClassId) (a0 a_state a_readPage a_tape a_cutRow a_cutWeights a_isKept a_lanes a_lengths a_cells : Nat) (f_taped : Int32) (f_fault : Int32) (f_broken : Int32) (f_brokenAt : Int32) (f_spot : Int32) (f_here : Int32) (f_token : Int32) (f_value : Int32) (f_torn : Int32) (f_state : Nat → Int32) (f_readPage : Nat → Int32) (f_tape : Nat → Int32) (f_cutRow : Nat → Int32) (f_cutWeights : Nat → Int32) (f_isKept : Nat → Int32) (f_lanes : Nat → Int32) (f_lengths : Nat → Int32) (f_cells : Nat → Int64) (p1 : Int32) (p2 : Int32) (post : Int32 → Prop) (h : wX6_backward f_state p1 p2 post) : Met l yX6_backward wsX6_backward rX6_backward (zPr D cA [.ref a0, .int p1, .int p2] [(a0, .inr (5, [.ref a_state, .ref a_readPage, .ref a_tape, .int f_taped, .int f_fault, .int f_broken, .int f_brokenAt, .int f_spot, .int f_here, .int f_token, .int f_value, .ref a_cutRow, .ref a_cutWeights, .ref a_isKept, .ref a_lanes, .ref a_lengths, .ref a_cells, .int f_torn])), (a_state, .inl (cA 0, 579, .inl f_state)), (a_readPage, .inl (cA 0, 193, .inl f_readPage)), (a_tape, .inl (cA 0, 160, .inl f_tape)), (a_cutRow, .inl (cA 0, 128, .inl f_cutRow)), (a_cutWeights, .inl (cA 0, 64, .inl f_cutWeights)), (a_isKept, .inl (cA 3, 2, .inl f_isKept)), (a_lanes, .inl (cA 0, 4, .inl f_lanes)), (a_lengths, .inl (cA 0, 4, .inl f_lengths)), (a_cells, .inl (cA 1, 160, .inr (.inl f_cells)))]) (vp_Si post) 0 0 (fun _ => False) := by
  refine z_ro (cc := cX6_backward) (maxL := 4) (ret := (some .int)) (by decide) rfl (Nat.le_of_ble_eq_true rfl) ?_
  intro p e s m args below meth c ls hx hb hr hlk hml hown hts hK hP hl
  have hown : s.vm.findClass RX6 = some m.cls := hown
  have hl : lv_has ls 4 [(0, .ref a0), (1, .int p1), (2, .int p2)] := hl
  have hw := h
  unfold wX6_backward at hw
  refine lv_aload_n hx hb dX6_backward_0 rfl (lv_at hl 0 rfl) ?_
  refine lv_iload_n hx hb dX6_backward_1 rfl (lv_at hl 1 rfl) ?_
  refine z_ri [.int p1] [] ⟨hx, hb, hml, hown, hts⟩ (kX6_isMark l D cA a0 a_state a_readPage a_tape a_cutRow a_cutWeights a_isKept a_lanes a_lengths a_cells f_taped f_fault f_broken f_brokenAt f_spot f_here f_token f_value f_torn f_state f_readPage f_tape f_cutRow f_cutWeights f_isKept f_lanes f_lengths f_cells p1 _ hw) (cwV 1 hts gX6_backward_X6_isMark rfl rfl rfl vX6_isMark ⟨Nat.le_of_ble_eq_true rfl, Nat.le_of_ble_eq_true rfl⟩) hK (hP.sub [0, 1, 2, 3, 4, 5, 6, 7, 8, 9] rfl) (va_recv hK.1 (hP.sub (ws' := [(a0, .inr (5, [.ref a_state, .ref a_readPage, .ref a_tape, .int f_taped, .int f_fault, .int f_broken, .int f_brokenAt, .int f_spot, .int f_here, .int f_token, .int f_value, .ref a_cutRow, .ref a_cutWeights, .ref a_isKept, .ref a_lanes, .ref a_lengths, .ref a_cells, .int f_torn]))]) [0] rfl) (ci := 5) (q0 := 0) rfl rfl) rfl hl.1 rfl (Nat.le_of_ble_eq_true rfl) dX6_backward_2 ⟨Nat.zero_le _, Nat.zero_le _⟩ (fun r_1 hw => ?_)
  refine lv_if_ne (tgt := 10) hx hb dX6_backward_5 (by decide) (fun c_2 => ?_) (fun c_2 => ?_)
  · have hw := hw.1 c_2
    refine lv_iload_n hx hb dX6_backward_10 rfl (lv_at hl 1 rfl) ?_
    refine lv_iconst (v := 1) hx hb dX6_backward_11 (by decide) ?_
    refine lv_isub hx hb dX6_backward_12 ?_
    refine lv_topi (fun x_3 ex_3 => ?_)
    have hw := hw x_3 ex_3
    refine lv_istore_n (lv' := [(3, .int x_3), (0, .ref a0), (1, .int p1), (2, .int p2)]) hx hb dX6_backward_13 rfl hl (by decide) rfl (fun ls hl => ?_)
    obtain ⟨I_4, mu_4, hI_4, hw⟩ := hw
    have lp_4 : ∀ (nn : Nat) (x_5 : Int32) (ls : Array Slot), mu_4 x_5 < nn → I_4 x_5 → lv_has ls 4 [(0, .ref a0), (2, .int p2), (3, .int x_5)] → W p l e rX6_backward s m args below meth c s.heap [] 0 0 (MQ below (vp_Si post) args s 0 0 (fun _ => False)) (F0 m 14 ls []) := by
      intro nn
      induction nn with
      | zero => exact fun _ _ h0 => absurd h0 (Nat.not_lt_zero _)
      | succ nn ih_4 =>
        intro x_5 ls hmu_4 hI_4 hl
        have hw := hw x_5 hI_4
        refine lv_iload_n hx hb dX6_backward_14 rfl (lv_at hl 2 rfl) ?_
        refine lv_if_lt (tgt := 35) hx hb dX6_backward_15 (by decide) (fun c_6 => ?_) (fun c_6 => ?_)
        · have hw := hw.1 c_6
          refine lv_bipush (v := -4) hx hb dX6_backward_35 (by decide) ?_
          exact z_iret hx hb hr hlk hw dX6_backward_37
        · have hw := hw.2 c_6
          refine lv_aload_n hx hb dX6_backward_18 rfl (lv_at hl 0 rfl) ?_
          refine lv_iload_n hx hb dX6_backward_19 rfl (lv_at hl 2 rfl) ?_
          refine z_ri [.int x_5] [] ⟨hx, hb, hml, hown, hts⟩ (kX6_excessAt l D cA a0 a_state a_readPage a_tape a_cutRow a_cutWeights a_isKept a_lanes a_lengths a_cells f_taped f_fault f_broken f_brokenAt f_spot f_here f_token f_value f_torn f_state f_readPage f_tape f_cutRow f_cutWeights f_isKept f_lanes f_lengths f_cells x_5 _ hw) (cwV 1 hts gX6_backward_X6_excessAt rfl rfl rfl vX6_excessAt ⟨Nat.le_of_ble_eq_true rfl, Nat.le_of_ble_eq_true rfl⟩) hK (hP.sub [0, 1, 2, 3, 4, 5, 6, 7, 8, 9] rfl) (va_recv hK.1 (hP.sub (ws' := [(a0, .inr (5, [.ref a_state, .ref a_readPage, .ref a_tape, .int f_taped, .int f_fault, .int f_broken, .int f_brokenAt, .int f_spot, .int f_here, .int f_token, .int f_value, .ref a_cutRow, .ref a_cutWeights, .ref a_isKept, .ref a_lanes, .ref a_lengths, .ref a_cells, .int f_torn]))]) [0] rfl) (ci := 5) (q0 := 0) rfl rfl) rfl hl.1 rfl (Nat.le_of_ble_eq_true rfl) dX6_backward_20 ⟨Nat.zero_le _, Nat.zero_le _⟩ (fun r_7 hw => ?_)
          refine lv_iload_n hx hb dX6_backward_23 rfl (lv_at hl 1 rfl) ?_
          refine lv_icmp_ne (tgt := 29) hx hb dX6_backward_24 (by decide) (fun c_8 => ?_) (fun c_8 => ?_)
          · have hw := hw.1 c_8
            obtain ⟨x_9, ex_9⟩ : ∃ y : Int32, y = x_5 + (-1) := ⟨_, rfl⟩
            have hw := hw x_9 ex_9
            refine lv_iinc (v := x_9) (lv' := [(3, .int x_9), (0, .ref a0), (2, .int p2)]) hx hb dX6_backward_29 hl (k := 2) rfl (by rw [ex_9]; rfl) (by decide) rfl (fun ls hl => ?_)
            refine lv_goto (tgt := 14) hx hb dX6_backward_32 (by decide) ?_
            exact ih_4 x_9 ls (Nat.lt_of_lt_of_le hw.2 (Nat.le_of_lt_succ hmu_4)) hw.1 (lv_sub hl [1, 2, 0] rfl)
          · have hw := hw.2 c_8
            refine lv_iload_n hx hb dX6_backward_27 rfl (lv_at hl 2 rfl) ?_
            exact z_iret hx hb hr hlk hw dX6_backward_28
    exact lp_4 (mu_4 x_3 + 1) x_3 ls (Nat.lt_succ_self _) hI_4 (lv_sub hl [1, 3, 0] rfl)
  · have hw := hw.2 c_2
    refine lv_iconst (v := -1) hx hb dX6_backward_8 (by decide) ?_
    exact z_iret hx hb hr hlk hw dX6_backward_9
def wX6_match (f_state : Nat → Int32) (p1 : Int32) (post : Int32 → Prop) : Prop := (wX6_places f_state (fun r_1 : Int32 => ((wX6_in ((p1).toInt64) (0 : Int64) (((r_1 - (1 : Int32))).toInt64) (fun r_2 : Int32 => (((¬ r_2 = 0 → (vp_in p1 579 ∧ ((¬ (f_state p1.toNatClampNeg) = (1 : Int32) → (∃ (I_5 : Int32 → Int32 → Prop) (mu_5 : Int32 → Int32 → Nat), I_5 p1 (1 : Int32) ∧ ∀ (x_6 : Int32) (x_7 : Int32), I_5 x_6 x_7 → ((x_7 ≤ 0 → post x_6) ∧ (¬ x_7 ≤ 0 → (∀ x_9 : Int32, x_9 = x_6 + (-1) → (vp_in x_9 579 ∧ ((¬ (f_state x_9.toNatClampNeg) = (1 : Int32) → (∀ x_11 : Int32, x_11 = (x_7 + (1 : Int32)) → (I_5 x_9 x_11 ∧ mu_5 x_9 x_11 < mu_5 x_6 x_7))) ∧ ((f_state x_9.toNatClampNeg) = (1 : Int32) → (∀ x_12 : Int32, x_12 = (x_7 + (-1 : Int32)) → (I_5 x_9 x_12 ∧ mu_5 x_9 x_12 < mu_5 x_6 x_7)))))))))) ∧ ((f_state p1.toNatClampNeg) = (1 : Int32) → (wX6_shutOf f_state p1 (fun r_13 : Int32 => (post r_13))))))) ∧ (r_2 = 0 → post (-1 : Int32)))))))))
abbrev rX6_match : Room := { frames := 1, cells := 0, slots := 0, locals := 25 }
theorem vX6_match : yX6_match.cls = RX6 ∧ yX6_match.cls ≠ "java/lang/invoke/MethodHandle" ∧ yX6_match.cls ≠ "java/lang/invoke/VarHandle" ∧ (parseMethodDescriptor yX6_match.desc).map (fun d => d.parameters.length) = some 1 := by decide +kernel
set_option maxHeartbeats 4000000 in
set_option maxRecDepth 100000 in
theorem kX6_match (l : Launch) (D : va_G) (cA : Nat → ClassId) (a0 a_state a_readPage a_tape a_cutRow a_cutWeights a_isKept a_lanes a_lengths a_cells : Nat) (f_taped : Int32) (f_fault : Int32) (f_broken : Int32) (f_brokenAt : Int32) (f_spot : Int32) (f_here : Int32) (f_token : Int32) (f_value : Int32) (f_torn : Int32) (f_state : Nat → Int32) (f_readPage : Nat → Int32) (f_tape : Nat → Int32) (f_cutRow : Nat → Int32) (f_cutWeights : Nat → Int32) (f_isKept : Nat → Int32) (f_lanes : Nat → Int32) (f_lengths : Nat → Int32) (f_cells : Nat → Int64) (p1 : Int32) (post : Int32 → Prop) (h : wX6_match f_state p1 post) : Met l yX6_match wsX6_match rX6_match (zPr D cA [.ref a0, .int p1] [(a0, .inr (5, [.ref a_state, .ref a_readPage, .ref a_tape, .int f_taped, .int f_fault, .int f_broken, .int f_brokenAt, .int f_spot, .int f_here, .int f_token, .int f_value, .ref a_cutRow, .ref a_cutWeights, .ref a_isKept, .ref a_lanes, .ref a_lengths, .ref a_cells, .int f_torn])), (a_state, .inl (cA 0, 579, .inl f_state)), (a_readPage, .inl (cA 0, 193, .inl f_readPage)), (a_tape, .inl (cA 0, 160, .inl f_tape)), (a_cutRow, .inl (cA 0, 128, .inl f_cutRow)), (a_cutWeights, .inl (cA 0, 64, .inl f_cutWeights)), (a_isKept, .inl (cA 3, 2, .inl f_isKept)), (a_lanes, .inl (cA 0, 4, .inl f_lanes)), (a_lengths, .inl (cA 0, 4, .inl f_lengths)), (a_cells, .inl (cA 1, 160, .inr (.inl f_cells)))]) (vp_Si post) 0 0 (fun _ => False) := by
  refine z_ro (cc := cX6_match) (maxL := 4) (ret := (some .int)) (by decide) rfl (Nat.le_of_ble_eq_true rfl) ?_
  intro p e s m args below meth c ls hx hb hr hlk hml hown hts hK hP hl
  have hown : s.vm.findClass RX6 = some m.cls := hown
  have hl : lv_has ls 4 [(0, .ref a0), (1, .int p1)] := hl
  have hw := h
  unfold wX6_match at hw
  have iwX6 : ∀ w ∈ wsX60, w ∈ wsX6_match := fun w h9 => List.mem_cons_of_mem _ (List.mem_append_right _ h9)
  have kf7 := hts (.fieldLink RX6 7 "ExcessTreeModel" "state" "[I") (by decide +kernel)
  refine lv_iload_n hx hb dX6_match_0 rfl (lv_at hl 1 rfl) ?_
  refine lv_i2l (v := ((p1).toInt64)) hx hb dX6_match_1 rfl ?_
  refine lv_lconst (v := 0) hx hb dX6_match_2 (by decide) ?_
  refine lv_aload_n hx hb dX6_match_3 rfl (lv_at hl 0 rfl) ?_
  refine z_ri [] [.long (0 : Int64), .long ((p1).toInt64)] ⟨hx, hb, hml, hown, hts⟩ (kX6_places l D cA a0 a_state a_readPage a_tape a_cutRow a_cutWeights a_isKept a_lanes a_lengths a_cells f_taped f_fault f_broken f_brokenAt f_spot f_here f_token f_value f_torn f_state f_readPage f_tape f_cutRow f_cutWeights f_isKept f_lanes f_lengths f_cells _ hw) (cwV 0 hts gX6_match_X6_places rfl rfl rfl vX6_places ⟨Nat.le_of_ble_eq_true rfl, Nat.le_of_ble_eq_true rfl⟩) hK (hP.sub [0, 1, 2, 3, 4, 5, 6, 7, 8, 9] rfl) (va_recv hK.1 (hP.sub (ws' := [(a0, .inr (5, [.ref a_state, .ref a_readPage, .ref a_tape, .int f_taped, .int f_fault, .int f_broken, .int f_brokenAt, .int f_spot, .int f_here, .int f_token, .int f_value, .ref a_cutRow, .ref a_cutWeights, .ref a_isKept, .ref a_lanes, .ref a_lengths, .ref a_cells, .int f_torn]))]) [0] rfl) (ci := 5) (q0 := 0) rfl rfl) rfl hl.1 rfl (Nat.le_of_ble_eq_true rfl) dX6_match_4 ⟨Nat.zero_le _, Nat.zero_le _⟩ (fun r_1 hw => ?_)
  refine lv_iconst (v := 1) hx hb dX6_match_7 (by decide) ?_
  refine lv_isub hx hb dX6_match_8 ?_
  refine lv_i2l (v := (((r_1 - (1 : Int32))).toInt64)) hx hb dX6_match_9 rfl ?_
  refine z_si [.long ((p1).toInt64), .long (0 : Int64), .long (((r_1 - (1 : Int32))).toInt64)] [] ⟨hx, hb, hml, hown, hts⟩ (kX6_in l D cA ((p1).toInt64) (0 : Int64) (((r_1 - (1 : Int32))).toInt64) _ hw) (va_cwS 3 hts gX6_match_X6_in rfl rfl rfl vX6_in ⟨Nat.le_of_ble_eq_true rfl, Nat.le_of_ble_eq_true rfl⟩) hK z_p0 rfl hl.1 rfl (Nat.le_of_ble_eq_true rfl) dX6_match_10 ⟨Nat.zero_le _, Nat.zero_le _⟩ (fun r_2 hw => ?_)
  refine lv_if_ne (tgt := 18) hx hb dX6_match_13 (by decide) (fun c_3 => ?_) (fun c_3 => ?_)
  · have hw := hw.1 c_3
    refine lv_aload_n hx hb dX6_match_18 rfl (lv_at hl 0 rfl) ?_
    refine va_get (D := D) (ci := 5) (v := .ref a_state) (C := RX6) (T := TX6) (N := 18) hx hb hts iwX6 hown hK.1 hP 0 rfl rfl 0 (by decide) kf7 (fun _ h9 => h9) rfl dX6_match_19 ?_
    refine lv_iload_n hx hb dX6_match_22 rfl (lv_at hl 1 rfl) ?_
    have hq := hw.1
    have hw := hw.2
    refine va_iald hx hb hK.1 hP 1 0 rfl rfl hq dX6_match_23 ?_
    refine lv_iconst (v := 1) hx hb dX6_match_24 (by decide) ?_
    refine lv_icmp_ne (tgt := 34) hx hb dX6_match_25 (by decide) (fun c_4 => ?_) (fun c_4 => ?_)
    · have hw := hw.1 c_4
      refine lv_iload_n hx hb dX6_match_34 rfl (lv_at hl 1 rfl) ?_
      refine lv_istore_n (lv' := [(2, .int p1), (0, .ref a0), (1, .int p1)]) hx hb dX6_match_35 rfl hl (by decide) rfl (fun ls hl => ?_)
      refine lv_iconst (v := 1) hx hb dX6_match_36 (by decide) ?_
      refine lv_istore_n (lv' := [(3, .int (1 : Int32)), (2, .int p1), (0, .ref a0), (1, .int p1)]) hx hb dX6_match_37 rfl hl (by decide) rfl (fun ls hl => ?_)
      obtain ⟨I_5, mu_5, hI_5, hw⟩ := hw
      have lp_5 : ∀ (nn : Nat) (x_6 : Int32) (x_7 : Int32) (ls : Array Slot), mu_5 x_6 x_7 < nn → I_5 x_6 x_7 → lv_has ls 4 [(0, .ref a0), (2, .int x_6), (3, .int x_7)] → W p l e rX6_match s m args below meth c s.heap [] 0 0 (MQ below (vp_Si post) args s 0 0 (fun _ => False)) (F0 m 38 ls []) := by
        intro nn
        induction nn with
        | zero => exact fun _ _ _ h0 => absurd h0 (Nat.not_lt_zero _)
        | succ nn ih_5 =>
          intro x_6 x_7 ls hmu_5 hI_5 hl
          have hw := hw x_6 x_7 hI_5
          refine lv_iload_n hx hb dX6_match_38 rfl (lv_at hl 2 rfl) ?_
          refine lv_if_le (tgt := 66) hx hb dX6_match_39 (by decide) (fun c_8 => ?_) (fun c_8 => ?_)
          · have hw := hw.1 c_8
            refine lv_iload_n hx hb dX6_match_66 rfl (lv_at hl 1 rfl) ?_
            exact z_iret hx hb hr hlk hw dX6_match_67
          · have hw := hw.2 c_8
            obtain ⟨x_9, ex_9⟩ : ∃ y : Int32, y = x_6 + (-1) := ⟨_, rfl⟩
            have hw := hw x_9 ex_9
            refine lv_iinc (v := x_9) (lv' := [(2, .int x_9), (0, .ref a0), (3, .int x_7)]) hx hb dX6_match_42 hl (k := 1) rfl (by rw [ex_9]; rfl) (by decide) rfl (fun ls hl => ?_)
            refine lv_iload_n hx hb dX6_match_45 rfl (lv_at hl 2 rfl) ?_
            refine lv_aload_n hx hb dX6_match_46 rfl (lv_at hl 1 rfl) ?_
            refine va_get (D := D) (ci := 5) (v := .ref a_state) (C := RX6) (T := TX6) (N := 18) hx hb hts iwX6 hown hK.1 hP 0 rfl rfl 0 (by decide) kf7 (fun _ h9 => h9) rfl dX6_match_47 ?_
            refine lv_iload_n hx hb dX6_match_50 rfl (lv_at hl 0 rfl) ?_
            have hq := hw.1
            have hw := hw.2
            refine va_iald hx hb hK.1 hP 1 0 rfl rfl hq dX6_match_51 ?_
            refine lv_iconst (v := 1) hx hb dX6_match_52 (by decide) ?_
            refine lv_icmp_ne (tgt := 60) hx hb dX6_match_53 (by decide) (fun c_10 => ?_) (fun c_10 => ?_)
            · have hw := hw.1 c_10
              refine lv_iconst (v := 1) hx hb dX6_match_60 (by decide) ?_
              refine lv_iadd hx hb dX6_match_61 ?_
              refine lv_topi (fun x_11 ex_11 => ?_)
              have hw := hw x_11 ex_11
              refine lv_istore_n (lv' := [(3, .int x_11), (2, .int x_9), (0, .ref a0)]) hx hb dX6_match_62 rfl hl (by decide) rfl (fun ls hl => ?_)
              refine lv_goto (tgt := 38) hx hb dX6_match_63 (by decide) ?_
              exact ih_5 x_9 x_11 ls (Nat.lt_of_lt_of_le hw.2 (Nat.le_of_lt_succ hmu_5)) hw.1 (lv_sub hl [2, 1, 0] rfl)
            · have hw := hw.2 c_10
              refine lv_iconst (v := -1) hx hb dX6_match_56 (by decide) ?_
              refine lv_goto (tgt := 61) hx hb dX6_match_57 (by decide) ?_
              refine lv_iadd hx hb dX6_match_61 ?_
              refine lv_topi (fun x_12 ex_12 => ?_)
              have hw := hw x_12 ex_12
              refine lv_istore_n (lv' := [(3, .int x_12), (2, .int x_9), (0, .ref a0)]) hx hb dX6_match_62 rfl hl (by decide) rfl (fun ls hl => ?_)
              refine lv_goto (tgt := 38) hx hb dX6_match_63 (by decide) ?_
              exact ih_5 x_9 x_12 ls (Nat.lt_of_lt_of_le hw.2 (Nat.le_of_lt_succ hmu_5)) hw.1 (lv_sub hl [2, 1, 0] rfl)
      exact lp_5 (mu_5 p1 (1 : Int32) + 1) p1 (1 : Int32) ls (Nat.lt_succ_self _) hI_5 (lv_sub hl [2, 1, 0] rfl)
    · have hw := hw.2 c_4
      refine lv_aload_n hx hb dX6_match_28 rfl (lv_at hl 0 rfl) ?_
      refine lv_iload_n hx hb dX6_match_29 rfl (lv_at hl 1 rfl) ?_
      refine z_ri [.int p1] [] ⟨hx, hb, hml, hown, hts⟩ (kX6_shutOf l D cA a0 a_state a_readPage a_tape a_cutRow a_cutWeights a_isKept a_lanes a_lengths a_cells f_taped f_fault f_broken f_brokenAt f_spot f_here f_token f_value f_torn f_state f_readPage f_tape f_cutRow f_cutWeights f_isKept f_lanes f_lengths f_cells p1 _ hw) (cwV 1 hts gX6_match_X6_shutOf rfl rfl rfl vX6_shutOf ⟨Nat.le_of_ble_eq_true rfl, Nat.le_of_ble_eq_true rfl⟩) hK (hP.sub [0, 1, 2, 3, 4, 5, 6, 7, 8, 9] rfl) (va_recv hK.1 (hP.sub (ws' := [(a0, .inr (5, [.ref a_state, .ref a_readPage, .ref a_tape, .int f_taped, .int f_fault, .int f_broken, .int f_brokenAt, .int f_spot, .int f_here, .int f_token, .int f_value, .ref a_cutRow, .ref a_cutWeights, .ref a_isKept, .ref a_lanes, .ref a_lengths, .ref a_cells, .int f_torn]))]) [0] rfl) (ci := 5) (q0 := 0) rfl rfl) rfl hl.1 rfl (Nat.le_of_ble_eq_true rfl) dX6_match_30 ⟨Nat.zero_le _, Nat.zero_le _⟩ (fun r_13 hw => ?_)
      exact z_iret hx hb hr hlk hw dX6_match_33
  · have hw := hw.2 c_3
    refine lv_iconst (v := -1) hx hb dX6_match_16 (by decide) ?_
    exact z_iret hx hb hr hlk hw dX6_match_17
