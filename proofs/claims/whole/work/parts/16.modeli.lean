/-! written by wip/whole/gen.py -/
def wX6_level (f_state : Nat → Int32) (p1 : Int32) (p2 : Int32) (post : Int32 → Prop) : Prop := ((p1 < 0 → post (-1 : Int32)) ∧ (¬ p1 < 0 → (wX6_in ((p2).toInt64) (0 : Int64) (2 : Int64) (fun r_2 : Int32 => (((¬ r_2 = 0 → (∃ (I_4 : Int32 → Int32 → Int32 → Int32 → Prop) (mu_4 : Int32 → Int32 → Int32 → Int32 → Nat), I_4 (-4 : Int32) (-4 : Int32) (0 : Int32) (0 : Int32) ∧ ∀ (x_5 : Int32) (x_6 : Int32) (x_7 : Int32) (x_8 : Int32), I_4 x_5 x_6 x_7 x_8 → (wX6_many f_state (fun r_9 : Int32 => (((r_9 ≤ x_8 → ((¬ p2 = 0 → ((¬ p2 = (1 : Int32) → post x_7) ∧ (p2 = (1 : Int32) → post x_6))) ∧ (p2 = 0 → post x_5))) ∧ (¬ r_9 ≤ x_8 → (wX6_depthOf f_state x_8 (fun r_13 : Int32 => (((¬ r_13 = p1 → (∀ x_15 : Int32, x_15 = x_8 + (1) → (I_4 x_5 x_6 x_7 x_15 ∧ mu_4 x_5 x_6 x_7 x_15 < mu_4 x_5 x_6 x_7 x_8))) ∧ (r_13 = p1 → ((¬ x_5 = (-4 : Int32) → (∀ x_17 : Int32, x_17 = x_7 + (1) → (∀ x_18 : Int32, x_18 = x_8 + (1) → (I_4 x_5 x_8 x_17 x_18 ∧ mu_4 x_5 x_8 x_17 x_18 < mu_4 x_5 x_6 x_7 x_8)))) ∧ (x_5 = (-4 : Int32) → (∀ x_19 : Int32, x_19 = x_7 + (1) → (∀ x_20 : Int32, x_20 = x_8 + (1) → (I_4 x_8 x_8 x_19 x_20 ∧ mu_4 x_8 x_8 x_19 x_20 < mu_4 x_5 x_6 x_7 x_8))))))))))))))))) ∧ (r_2 = 0 → post (-1 : Int32))))))))
abbrev rX6_level : Room := { frames := 2, cells := 0, slots := 0, locals := 44 }
theorem vX6_level : yX6_level.cls = RX6 ∧ yX6_level.cls ≠ "java/lang/invoke/MethodHandle" ∧ yX6_level.cls ≠ "java/lang/invoke/VarHandle" ∧ (parseMethodDescriptor yX6_level.desc).map (fun d => d.parameters.length) = some 2 := by decide +kernel
set_option maxHeartbeats 4000000 in
set_option maxRecDepth 100000 in
theorem kX6_level (l : Launch) (D : va_G) (cA : Nat → ClassId) (a0 a_state a_readPage a_tape a_cutRow a_cutWeights a_isKept a_lanes a_lengths a_cells : Nat) (f_taped : Int32) (f_fault : Int32) (f_broken : Int32) (f_brokenAt : Int32) (f_spot : Int32) (f_here : Int32) (f_token : Int32) (f_value : Int32) (f_torn : Int32) (f_state : Nat → Int32) (f_readPage : Nat → Int32) (f_tape : Nat → Int32) (f_cutRow : Nat → Int32) (f_cutWeights : Nat → Int32) (f_isKept : Nat → Int32) (f_lanes : Nat → Int32) (f_lengths : Nat → Int32) (f_cells : Nat → Int64) (p1 : Int32) (p2 : Int32) (post : Int32 → Prop) (h : wX6_level f_state p1 p2 post) : Met l yX6_level wsX6_level rX6_level (zPr D cA [.ref a0, .int p1, .int p2] [(a0, .inr (5, [.ref a_state, .ref a_readPage, .ref a_tape, .int f_taped, .int f_fault, .int f_broken, .int f_brokenAt, .int f_spot, .int f_here, .int f_token, .int f_value, .ref a_cutRow, .ref a_cutWeights, .ref a_isKept, .ref a_lanes, .ref a_lengths, .ref a_cells, .int f_torn])), (a_state, .inl (cA 0, 579, .inl f_state)), (a_readPage, .inl (cA 0, 193, .inl f_readPage)), (a_tape, .inl (cA 0, 160, .inl f_tape)), (a_cutRow, .inl (cA 0, 128, .inl f_cutRow)), (a_cutWeights, .inl (cA 0, 64, .inl f_cutWeights)), (a_isKept, .inl (cA 3, 2, .inl f_isKept)), (a_lanes, .inl (cA 0, 4, .inl f_lanes)), (a_lengths, .inl (cA 0, 4, .inl f_lengths)), (a_cells, .inl (cA 1, 160, .inr (.inl f_cells)))]) (vp_Si post) 0 0 (fun _ => False) := by
  refine z_ro (cc := cX6_level) (maxL := 7) (ret := (some .int)) (by decide) rfl (Nat.le_of_ble_eq_true rfl) ?_
  intro p e s m args below meth c ls hx hb hr hlk hml hown hts hK hP hl
  have hown : s.vm.findClass RX6 = some m.cls := hown
  have hl : lv_has ls 7 [(0, .ref a0), (1, .int p1), (2, .int p2)] := hl
  have hw := h
  unfold wX6_level at hw
  have kl109 := hts (.constantLong RX6 109 (2)) (by decide +kernel)
  refine lv_iload_n hx hb dX6_level_0 rfl (lv_at hl 1 rfl) ?_
  refine lv_if_lt (tgt := 16) hx hb dX6_level_1 (by decide) (fun c_1 => ?_) (fun c_1 => ?_)
  · have hw := hw.1 c_1
    refine lv_iconst (v := -1) hx hb dX6_level_16 (by decide) ?_
    exact z_iret hx hb hr hlk hw dX6_level_17
  · have hw := hw.2 c_1
    refine lv_iload_n hx hb dX6_level_4 rfl (lv_at hl 2 rfl) ?_
    refine lv_i2l (v := ((p2).toInt64)) hx hb dX6_level_5 rfl ?_
    refine lv_lconst (v := 0) hx hb dX6_level_6 (by decide) ?_
    refine lv_ldc2 (v := 2) hx hb hown kl109 dX6_level_7 ?_
    refine z_si [.long ((p2).toInt64), .long (0 : Int64), .long (2 : Int64)] [] ⟨hx, hb, hml, hown, hts⟩ (kX6_in l D cA ((p2).toInt64) (0 : Int64) (2 : Int64) _ hw) (va_cwS 3 hts gX6_level_X6_in rfl rfl rfl vX6_in ⟨Nat.le_of_ble_eq_true rfl, Nat.le_of_ble_eq_true rfl⟩) hK z_p0 rfl hl.1 rfl (Nat.le_of_ble_eq_true rfl) dX6_level_10 ⟨Nat.zero_le _, Nat.zero_le _⟩ (fun r_2 hw => ?_)
    refine lv_if_ne (tgt := 18) hx hb dX6_level_13 (by decide) (fun c_3 => ?_) (fun c_3 => ?_)
    · have hw := hw.1 c_3
      refine lv_bipush (v := -4) hx hb dX6_level_18 (by decide) ?_
      refine lv_istore_n (lv' := [(3, .int (-4 : Int32)), (0, .ref a0), (1, .int p1), (2, .int p2)]) hx hb dX6_level_20 rfl hl (by decide) rfl (fun ls hl => ?_)
      refine lv_bipush (v := -4) hx hb dX6_level_21 (by decide) ?_
      refine lv_istore (lv' := [(4, .int (-4 : Int32)), (3, .int (-4 : Int32)), (0, .ref a0), (1, .int p1), (2, .int p2)]) hx hb dX6_level_23 hl (by decide) rfl (fun ls hl => ?_)
      refine lv_iconst (v := 0) hx hb dX6_level_25 (by decide) ?_
      refine lv_istore (lv' := [(5, .int (0 : Int32)), (4, .int (-4 : Int32)), (3, .int (-4 : Int32)), (0, .ref a0), (1, .int p1), (2, .int p2)]) hx hb dX6_level_26 hl (by decide) rfl (fun ls hl => ?_)
      refine lv_iconst (v := 0) hx hb dX6_level_28 (by decide) ?_
      refine lv_istore (lv' := [(6, .int (0 : Int32)), (5, .int (0 : Int32)), (4, .int (-4 : Int32)), (3, .int (-4 : Int32)), (0, .ref a0), (1, .int p1), (2, .int p2)]) hx hb dX6_level_29 hl (by decide) rfl (fun ls hl => ?_)
      obtain ⟨I_4, mu_4, hI_4, hw⟩ := hw
      have lp_4 : ∀ (nn : Nat) (x_5 : Int32) (x_6 : Int32) (x_7 : Int32) (x_8 : Int32) (ls : Array Slot), mu_4 x_5 x_6 x_7 x_8 < nn → I_4 x_5 x_6 x_7 x_8 → lv_has ls 7 [(0, .ref a0), (1, .int p1), (2, .int p2), (3, .int x_5), (4, .int x_6), (5, .int x_7), (6, .int x_8)] → W p l e rX6_level s m args below meth c s.heap [] 0 0 (MQ below (vp_Si post) args s 0 0 (fun _ => False)) (F0 m 31 ls []) := by
        intro nn
        induction nn with
        | zero => exact fun _ _ _ _ _ h0 => absurd h0 (Nat.not_lt_zero _)
        | succ nn ih_4 =>
          intro x_5 x_6 x_7 x_8 ls hmu_4 hI_4 hl
          have hw := hw x_5 x_6 x_7 x_8 hI_4
          refine lv_iload hx hb dX6_level_31 (lv_at hl 6 rfl) ?_
          refine lv_aload_n hx hb dX6_level_33 rfl (lv_at hl 0 rfl) ?_
          refine z_ri [] [.int x_8] ⟨hx, hb, hml, hown, hts⟩ (kX6_many l D cA a0 a_state a_readPage a_tape a_cutRow a_cutWeights a_isKept a_lanes a_lengths a_cells f_taped f_fault f_broken f_brokenAt f_spot f_here f_token f_value f_torn f_state f_readPage f_tape f_cutRow f_cutWeights f_isKept f_lanes f_lengths f_cells _ hw) (cwV 0 hts gX6_level_X6_many rfl rfl rfl vX6_many ⟨Nat.le_of_ble_eq_true rfl, Nat.le_of_ble_eq_true rfl⟩) hK (hP.sub [0, 1, 2, 3, 4, 5, 6, 7, 8, 9] rfl) (va_recv hK.1 (hP.sub (ws' := [(a0, .inr (5, [.ref a_state, .ref a_readPage, .ref a_tape, .int f_taped, .int f_fault, .int f_broken, .int f_brokenAt, .int f_spot, .int f_here, .int f_token, .int f_value, .ref a_cutRow, .ref a_cutWeights, .ref a_isKept, .ref a_lanes, .ref a_lengths, .ref a_cells, .int f_torn]))]) [0] rfl) (ci := 5) (q0 := 0) rfl rfl) rfl hl.1 rfl (Nat.le_of_ble_eq_true rfl) dX6_level_34 ⟨Nat.zero_le _, Nat.zero_le _⟩ (fun r_9 hw => ?_)
          refine lv_icmp_ge (tgt := 76) hx hb dX6_level_37 (by decide) (fun c_10 => ?_) (fun c_10 => ?_)
          · have hw := hw.1 c_10
            refine lv_iload_n hx hb dX6_level_76 rfl (lv_at hl 2 rfl) ?_
            refine lv_if_ne (tgt := 84) hx hb dX6_level_77 (by decide) (fun c_11 => ?_) (fun c_11 => ?_)
            · have hw := hw.1 c_11
              refine lv_iload_n hx hb dX6_level_84 rfl (lv_at hl 2 rfl) ?_
              refine lv_iconst (v := 1) hx hb dX6_level_85 (by decide) ?_
              refine lv_icmp_ne (tgt := 94) hx hb dX6_level_86 (by decide) (fun c_12 => ?_) (fun c_12 => ?_)
              · have hw := hw.1 c_12
                refine lv_iload hx hb dX6_level_94 (lv_at hl 5 rfl) ?_
                exact z_iret hx hb hr hlk hw dX6_level_96
              · have hw := hw.2 c_12
                refine lv_iload hx hb dX6_level_89 (lv_at hl 4 rfl) ?_
                refine lv_goto (tgt := 96) hx hb dX6_level_91 (by decide) ?_
                exact z_iret hx hb hr hlk hw dX6_level_96
            · have hw := hw.2 c_11
              refine lv_iload_n hx hb dX6_level_80 rfl (lv_at hl 3 rfl) ?_
              refine lv_goto (tgt := 96) hx hb dX6_level_81 (by decide) ?_
              exact z_iret hx hb hr hlk hw dX6_level_96
          · have hw := hw.2 c_10
            refine lv_aload_n hx hb dX6_level_40 rfl (lv_at hl 0 rfl) ?_
            refine lv_iload hx hb dX6_level_41 (lv_at hl 6 rfl) ?_
            refine z_ri [.int x_8] [] ⟨hx, hb, hml, hown, hts⟩ (kX6_depthOf l D cA a0 a_state a_readPage a_tape a_cutRow a_cutWeights a_isKept a_lanes a_lengths a_cells f_taped f_fault f_broken f_brokenAt f_spot f_here f_token f_value f_torn f_state f_readPage f_tape f_cutRow f_cutWeights f_isKept f_lanes f_lengths f_cells x_8 _ hw) (cwV 1 hts gX6_level_X6_depthOf rfl rfl rfl vX6_depthOf ⟨Nat.le_of_ble_eq_true rfl, Nat.le_of_ble_eq_true rfl⟩) hK (hP.sub [0, 1, 2, 3, 4, 5, 6, 7, 8, 9] rfl) (va_recv hK.1 (hP.sub (ws' := [(a0, .inr (5, [.ref a_state, .ref a_readPage, .ref a_tape, .int f_taped, .int f_fault, .int f_broken, .int f_brokenAt, .int f_spot, .int f_here, .int f_token, .int f_value, .ref a_cutRow, .ref a_cutWeights, .ref a_isKept, .ref a_lanes, .ref a_lengths, .ref a_cells, .int f_torn]))]) [0] rfl) (ci := 5) (q0 := 0) rfl rfl) rfl hl.1 rfl (Nat.le_of_ble_eq_true rfl) dX6_level_43 ⟨Nat.zero_le _, Nat.zero_le _⟩ (fun r_13 hw => ?_)
            refine lv_iload_n hx hb dX6_level_46 rfl (lv_at hl 1 rfl) ?_
            refine lv_icmp_ne (tgt := 70) hx hb dX6_level_47 (by decide) (fun c_14 => ?_) (fun c_14 => ?_)
            · have hw := hw.1 c_14
              obtain ⟨x_15, ex_15⟩ : ∃ y : Int32, y = x_8 + (1) := ⟨_, rfl⟩
              have hw := hw x_15 ex_15
              refine lv_iinc (v := x_15) (lv' := [(6, .int x_15), (0, .ref a0), (1, .int p1), (2, .int p2), (3, .int x_5), (4, .int x_6), (5, .int x_7)]) hx hb dX6_level_70 hl (k := 6) rfl (by rw [ex_15]; rfl) (by decide) rfl (fun ls hl => ?_)
              refine lv_goto (tgt := 31) hx hb dX6_level_73 (by decide) ?_
              exact ih_4 x_5 x_6 x_7 x_15 ls (Nat.lt_of_lt_of_le hw.2 (Nat.le_of_lt_succ hmu_4)) hw.1 (lv_sub hl [1, 2, 3, 4, 5, 6, 0] rfl)
            · have hw := hw.2 c_14
              refine lv_iload_n hx hb dX6_level_50 rfl (lv_at hl 3 rfl) ?_
              refine lv_bipush (v := -4) hx hb dX6_level_51 (by decide) ?_
              refine lv_icmp_ne (tgt := 61) hx hb dX6_level_53 (by decide) (fun c_16 => ?_) (fun c_16 => ?_)
              · have hw := hw.1 c_16
                refine lv_iload_n hx hb dX6_level_61 rfl (lv_at hl 3 rfl) ?_
                refine lv_istore_n (lv' := [(3, .int x_5), (0, .ref a0), (1, .int p1), (2, .int p2), (4, .int x_6), (5, .int x_7), (6, .int x_8)]) hx hb dX6_level_62 rfl hl (by decide) rfl (fun ls hl => ?_)
                refine lv_iload hx hb dX6_level_63 (lv_at hl 6 rfl) ?_
                refine lv_istore (lv' := [(4, .int x_8), (3, .int x_5), (0, .ref a0), (1, .int p1), (2, .int p2), (5, .int x_7), (6, .int x_8)]) hx hb dX6_level_65 hl (by decide) rfl (fun ls hl => ?_)
                obtain ⟨x_17, ex_17⟩ : ∃ y : Int32, y = x_7 + (1) := ⟨_, rfl⟩
                have hw := hw x_17 ex_17
                refine lv_iinc (v := x_17) (lv' := [(5, .int x_17), (4, .int x_8), (3, .int x_5), (0, .ref a0), (1, .int p1), (2, .int p2), (6, .int x_8)]) hx hb dX6_level_67 hl (k := 5) rfl (by rw [ex_17]; rfl) (by decide) rfl (fun ls hl => ?_)
                obtain ⟨x_18, ex_18⟩ : ∃ y : Int32, y = x_8 + (1) := ⟨_, rfl⟩
                have hw := hw x_18 ex_18
                refine lv_iinc (v := x_18) (lv' := [(6, .int x_18), (5, .int x_17), (4, .int x_8), (3, .int x_5), (0, .ref a0), (1, .int p1), (2, .int p2)]) hx hb dX6_level_70 hl (k := 6) rfl (by rw [ex_18]; rfl) (by decide) rfl (fun ls hl => ?_)
                refine lv_goto (tgt := 31) hx hb dX6_level_73 (by decide) ?_
                exact ih_4 x_5 x_8 x_17 x_18 ls (Nat.lt_of_lt_of_le hw.2 (Nat.le_of_lt_succ hmu_4)) hw.1 (lv_sub hl [4, 5, 6, 3, 2, 1, 0] rfl)
              · have hw := hw.2 c_16
                refine lv_iload hx hb dX6_level_56 (lv_at hl 6 rfl) ?_
                refine lv_goto (tgt := 62) hx hb dX6_level_58 (by decide) ?_
                refine lv_istore_n (lv' := [(3, .int x_8), (0, .ref a0), (1, .int p1), (2, .int p2), (4, .int x_6), (5, .int x_7), (6, .int x_8)]) hx hb dX6_level_62 rfl hl (by decide) rfl (fun ls hl => ?_)
                refine lv_iload hx hb dX6_level_63 (lv_at hl 6 rfl) ?_
                refine lv_istore (lv' := [(4, .int x_8), (3, .int x_8), (0, .ref a0), (1, .int p1), (2, .int p2), (5, .int x_7), (6, .int x_8)]) hx hb dX6_level_65 hl (by decide) rfl (fun ls hl => ?_)
                obtain ⟨x_19, ex_19⟩ : ∃ y : Int32, y = x_7 + (1) := ⟨_, rfl⟩
                have hw := hw x_19 ex_19
                refine lv_iinc (v := x_19) (lv' := [(5, .int x_19), (4, .int x_8), (3, .int x_8), (0, .ref a0), (1, .int p1), (2, .int p2), (6, .int x_8)]) hx hb dX6_level_67 hl (k := 5) rfl (by rw [ex_19]; rfl) (by decide) rfl (fun ls hl => ?_)
                obtain ⟨x_20, ex_20⟩ : ∃ y : Int32, y = x_8 + (1) := ⟨_, rfl⟩
                have hw := hw x_20 ex_20
                refine lv_iinc (v := x_20) (lv' := [(6, .int x_20), (5, .int x_19), (4, .int x_8), (3, .int x_8), (0, .ref a0), (1, .int p1), (2, .int p2)]) hx hb dX6_level_70 hl (k := 6) rfl (by rw [ex_20]; rfl) (by decide) rfl (fun ls hl => ?_)
                refine lv_goto (tgt := 31) hx hb dX6_level_73 (by decide) ?_
                exact ih_4 x_8 x_8 x_19 x_20 ls (Nat.lt_of_lt_of_le hw.2 (Nat.le_of_lt_succ hmu_4)) hw.1 (lv_sub hl [4, 5, 6, 3, 2, 1, 0] rfl)
      exact lp_4 (mu_4 (-4 : Int32) (-4 : Int32) (0 : Int32) (0 : Int32) + 1) (-4 : Int32) (-4 : Int32) (0 : Int32) (0 : Int32) ls (Nat.lt_succ_self _) hI_4 (lv_sub hl [4, 5, 6, 3, 2, 1, 0] rfl)
    · have hw := hw.2 c_3
      refine lv_iconst (v := -1) hx hb dX6_level_16 (by decide) ?_
      exact z_iret hx hb hr hlk hw dX6_level_17
def wX6_beside (f_state : Nat → Int32) (p1 : Int32) (p2 : Int32) (post : Int32 → Prop) : Prop := (wX6_isNode f_state p1 (fun r_1 : Int32 => (((r_1 = 0 → post (-1 : Int32)) ∧ (¬ r_1 = 0 → (wX6_in ((p2).toInt64) (0 : Int64) (1 : Int64) (fun r_3 : Int32 => (((¬ r_3 = 0 → ((¬ p2 = 0 → (∀ x_6 : Int32, x_6 = (p1 + (-1 : Int32)) → (∃ (I_7 : Int32 → Prop) (mu_7 : Int32 → Nat), I_7 x_6 ∧ ∀ (x_8 : Int32), I_7 x_8 → (wX6_isNode f_state x_8 (fun r_9 : Int32 => (((r_9 = 0 → (wX6_isNode f_state x_8 (fun r_11 : Int32 => (((r_11 = 0 → post (-4 : Int32)) ∧ (¬ r_11 = 0 → post x_8)))))) ∧ (¬ r_9 = 0 → (wX6_depthOf f_state x_8 (fun r_13 : Int32 => ((wX6_depthOf f_state p1 (fun r_14 : Int32 => (((r_13 = r_14 → (wX6_isNode f_state x_8 (fun r_16 : Int32 => (((r_16 = 0 → post (-4 : Int32)) ∧ (¬ r_16 = 0 → post x_8)))))) ∧ (¬ r_13 = r_14 → (∀ x_18 : Int32, x_18 = (x_8 + (-1 : Int32)) → (I_7 x_18 ∧ mu_7 x_18 < mu_7 x_8)))))))))))))))))) ∧ (p2 = 0 → (∀ x_19 : Int32, x_19 = (p1 + (1 : Int32)) → (∃ (I_20 : Int32 → Prop) (mu_20 : Int32 → Nat), I_20 x_19 ∧ ∀ (x_21 : Int32), I_20 x_21 → (wX6_isNode f_state x_21 (fun r_22 : Int32 => (((r_22 = 0 → (wX6_isNode f_state x_21 (fun r_24 : Int32 => (((r_24 = 0 → post (-4 : Int32)) ∧ (¬ r_24 = 0 → post x_21)))))) ∧ (¬ r_22 = 0 → (wX6_depthOf f_state x_21 (fun r_26 : Int32 => ((wX6_depthOf f_state p1 (fun r_27 : Int32 => (((r_26 = r_27 → (wX6_isNode f_state x_21 (fun r_29 : Int32 => (((r_29 = 0 → post (-4 : Int32)) ∧ (¬ r_29 = 0 → post x_21)))))) ∧ (¬ r_26 = r_27 → (∀ x_31 : Int32, x_31 = (x_21 + (1 : Int32)) → (I_20 x_31 ∧ mu_20 x_31 < mu_20 x_21)))))))))))))))))))) ∧ (r_3 = 0 → post (-1 : Int32)))))))))))
abbrev rX6_beside : Room := { frames := 2, cells := 0, slots := 0, locals := 46 }
theorem vX6_beside : yX6_beside.cls = RX6 ∧ yX6_beside.cls ≠ "java/lang/invoke/MethodHandle" ∧ yX6_beside.cls ≠ "java/lang/invoke/VarHandle" ∧ (parseMethodDescriptor yX6_beside.desc).map (fun d => d.parameters.length) = some 2 := by decide +kernel
set_option maxHeartbeats 4000000 in
set_option maxRecDepth 100000 in
theorem kX6_beside (l : Launch) (D : va_G) (cA : Nat → ClassId) (a0 a_state a_readPage a_tape a_cutRow a_cutWeights a_isKept a_lanes a_lengths a_cells : Nat) (f_taped : Int32) (f_fault : Int32) (f_broken : Int32) (f_brokenAt : Int32) (f_spot : Int32) (f_here : Int32) (f_token : Int32) (f_value : Int32) (f_torn : Int32) (f_state : Nat → Int32) (f_readPage : Nat → Int32) (f_tape : Nat → Int32) (f_cutRow : Nat → Int32) (f_cutWeights : Nat → Int32) (f_isKept : Nat → Int32) (f_lanes : Nat → Int32) (f_lengths : Nat → Int32) (f_cells : Nat → Int64) (p1 : Int32) (p2 : Int32) (post : Int32 → Prop) (h : wX6_beside f_state p1 p2 post) : Met l yX6_beside wsX6_beside rX6_beside (zPr D cA [.ref a0, .int p1, .int p2] [(a0, .inr (5, [.ref a_state, .ref a_readPage, .ref a_tape, .int f_taped, .int f_fault, .int f_broken, .int f_brokenAt, .int f_spot, .int f_here, .int f_token, .int f_value, .ref a_cutRow, .ref a_cutWeights, .ref a_isKept, .ref a_lanes, .ref a_lengths, .ref a_cells, .int f_torn])), (a_state, .inl (cA 0, 579, .inl f_state)), (a_readPage, .inl (cA 0, 193, .inl f_readPage)), (a_tape, .inl (cA 0, 160, .inl f_tape)), (a_cutRow, .inl (cA 0, 128, .inl f_cutRow)), (a_cutWeights, .inl (cA 0, 64, .inl f_cutWeights)), (a_isKept, .inl (cA 3, 2, .inl f_isKept)), (a_lanes, .inl (cA 0, 4, .inl f_lanes)), (a_lengths, .inl (cA 0, 4, .inl f_lengths)), (a_cells, .inl (cA 1, 160, .inr (.inl f_cells)))]) (vp_Si post) 0 0 (fun _ => False) := by
  refine z_ro (cc := cX6_beside) (maxL := 5) (ret := (some .int)) (by decide) rfl (Nat.le_of_ble_eq_true rfl) ?_
  intro p e s m args below meth c ls hx hb hr hlk hml hown hts hK hP hl
  have hown : s.vm.findClass RX6 = some m.cls := hown
  have hl : lv_has ls 5 [(0, .ref a0), (1, .int p1), (2, .int p2)] := hl
  have hw := h
  unfold wX6_beside at hw
  refine lv_aload_n hx hb dX6_beside_0 rfl (lv_at hl 0 rfl) ?_
  refine lv_iload_n hx hb dX6_beside_1 rfl (lv_at hl 1 rfl) ?_
  refine z_ri [.int p1] [] ⟨hx, hb, hml, hown, hts⟩ (kX6_isNode l D cA a0 a_state a_readPage a_tape a_cutRow a_cutWeights a_isKept a_lanes a_lengths a_cells f_taped f_fault f_broken f_brokenAt f_spot f_here f_token f_value f_torn f_state f_readPage f_tape f_cutRow f_cutWeights f_isKept f_lanes f_lengths f_cells p1 _ hw) (cwV 1 hts gX6_beside_X6_isNode rfl rfl rfl vX6_isNode ⟨Nat.le_of_ble_eq_true rfl, Nat.le_of_ble_eq_true rfl⟩) hK (hP.sub [0, 1, 2, 3, 4, 5, 6, 7, 8, 9] rfl) (va_recv hK.1 (hP.sub (ws' := [(a0, .inr (5, [.ref a_state, .ref a_readPage, .ref a_tape, .int f_taped, .int f_fault, .int f_broken, .int f_brokenAt, .int f_spot, .int f_here, .int f_token, .int f_value, .ref a_cutRow, .ref a_cutWeights, .ref a_isKept, .ref a_lanes, .ref a_lengths, .ref a_cells, .int f_torn]))]) [0] rfl) (ci := 5) (q0 := 0) rfl rfl) rfl hl.1 rfl (Nat.le_of_ble_eq_true rfl) dX6_beside_2 ⟨Nat.zero_le _, Nat.zero_le _⟩ (fun r_1 hw => ?_)
  refine lv_if_eq (tgt := 18) hx hb dX6_beside_5 (by decide) (fun c_2 => ?_) (fun c_2 => ?_)
  · have hw := hw.1 c_2
    refine lv_iconst (v := -1) hx hb dX6_beside_18 (by decide) ?_
    exact z_iret hx hb hr hlk hw dX6_beside_19
  · have hw := hw.2 c_2
    refine lv_iload_n hx hb dX6_beside_8 rfl (lv_at hl 2 rfl) ?_
    refine lv_i2l (v := ((p2).toInt64)) hx hb dX6_beside_9 rfl ?_
    refine lv_lconst (v := 0) hx hb dX6_beside_10 (by decide) ?_
    refine lv_lconst (v := 1) hx hb dX6_beside_11 (by decide) ?_
    refine z_si [.long ((p2).toInt64), .long (0 : Int64), .long (1 : Int64)] [] ⟨hx, hb, hml, hown, hts⟩ (kX6_in l D cA ((p2).toInt64) (0 : Int64) (1 : Int64) _ hw) (va_cwS 3 hts gX6_beside_X6_in rfl rfl rfl vX6_in ⟨Nat.le_of_ble_eq_true rfl, Nat.le_of_ble_eq_true rfl⟩) hK z_p0 rfl hl.1 rfl (Nat.le_of_ble_eq_true rfl) dX6_beside_12 ⟨Nat.zero_le _, Nat.zero_le _⟩ (fun r_3 hw => ?_)
    refine lv_if_ne (tgt := 20) hx hb dX6_beside_15 (by decide) (fun c_4 => ?_) (fun c_4 => ?_)
    · have hw := hw.1 c_4
      refine lv_iload_n hx hb dX6_beside_20 rfl (lv_at hl 2 rfl) ?_
      refine lv_if_ne (tgt := 28) hx hb dX6_beside_21 (by decide) (fun c_5 => ?_) (fun c_5 => ?_)
      · have hw := hw.1 c_5
        refine lv_iconst (v := -1) hx hb dX6_beside_28 (by decide) ?_
        refine lv_istore_n (lv' := [(3, .int (-1 : Int32)), (0, .ref a0), (1, .int p1), (2, .int p2)]) hx hb dX6_beside_29 rfl hl (by decide) rfl (fun ls hl => ?_)
        refine lv_iload_n hx hb dX6_beside_30 rfl (lv_at hl 2 rfl) ?_
        refine lv_iload_n hx hb dX6_beside_31 rfl (lv_at hl 0 rfl) ?_
        refine lv_iadd hx hb dX6_beside_32 ?_
        refine lv_topi (fun x_6 ex_6 => ?_)
        have hw := hw x_6 ex_6
        refine lv_istore (lv' := [(4, .int x_6), (3, .int (-1 : Int32)), (0, .ref a0), (1, .int p1), (2, .int p2)]) hx hb dX6_beside_33 hl (by decide) rfl (fun ls hl => ?_)
        obtain ⟨I_7, mu_7, hI_7, hw⟩ := hw
        have lp_7 : ∀ (nn : Nat) (x_8 : Int32) (ls : Array Slot), mu_7 x_8 < nn → I_7 x_8 → lv_has ls 5 [(0, .ref a0), (1, .int p1), (3, .int (-1 : Int32)), (4, .int x_8)] → W p l e rX6_beside s m args below meth c s.heap [] 0 0 (MQ below (vp_Si post) args s 0 0 (fun _ => False)) (F0 m 35 ls []) := by
          intro nn
          induction nn with
          | zero => exact fun _ _ h0 => absurd h0 (Nat.not_lt_zero _)
          | succ nn ih_7 =>
            intro x_8 ls hmu_7 hI_7 hl
            have hw := hw x_8 hI_7
            refine lv_aload_n hx hb dX6_beside_35 rfl (lv_at hl 0 rfl) ?_
            refine lv_iload hx hb dX6_beside_36 (lv_at hl 3 rfl) ?_
            refine z_ri [.int x_8] [] ⟨hx, hb, hml, hown, hts⟩ (kX6_isNode l D cA a0 a_state a_readPage a_tape a_cutRow a_cutWeights a_isKept a_lanes a_lengths a_cells f_taped f_fault f_broken f_brokenAt f_spot f_here f_token f_value f_torn f_state f_readPage f_tape f_cutRow f_cutWeights f_isKept f_lanes f_lengths f_cells x_8 _ hw) (cwV 1 hts gX6_beside_X6_isNode rfl rfl rfl vX6_isNode ⟨Nat.le_of_ble_eq_true rfl, Nat.le_of_ble_eq_true rfl⟩) hK (hP.sub [0, 1, 2, 3, 4, 5, 6, 7, 8, 9] rfl) (va_recv hK.1 (hP.sub (ws' := [(a0, .inr (5, [.ref a_state, .ref a_readPage, .ref a_tape, .int f_taped, .int f_fault, .int f_broken, .int f_brokenAt, .int f_spot, .int f_here, .int f_token, .int f_value, .ref a_cutRow, .ref a_cutWeights, .ref a_isKept, .ref a_lanes, .ref a_lengths, .ref a_cells, .int f_torn]))]) [0] rfl) (ci := 5) (q0 := 0) rfl rfl) rfl hl.1 rfl (Nat.le_of_ble_eq_true rfl) dX6_beside_38 ⟨Nat.zero_le _, Nat.zero_le _⟩ (fun r_9 hw => ?_)
            refine lv_if_eq (tgt := 67) hx hb dX6_beside_41 (by decide) (fun c_10 => ?_) (fun c_10 => ?_)
            · have hw := hw.1 c_10
              refine lv_aload_n hx hb dX6_beside_67 rfl (lv_at hl 0 rfl) ?_
              refine lv_iload hx hb dX6_beside_68 (lv_at hl 3 rfl) ?_
              refine z_ri [.int x_8] [] ⟨hx, hb, hml, hown, hts⟩ (kX6_isNode l D cA a0 a_state a_readPage a_tape a_cutRow a_cutWeights a_isKept a_lanes a_lengths a_cells f_taped f_fault f_broken f_brokenAt f_spot f_here f_token f_value f_torn f_state f_readPage f_tape f_cutRow f_cutWeights f_isKept f_lanes f_lengths f_cells x_8 _ hw) (cwV 1 hts gX6_beside_X6_isNode rfl rfl rfl vX6_isNode ⟨Nat.le_of_ble_eq_true rfl, Nat.le_of_ble_eq_true rfl⟩) hK (hP.sub [0, 1, 2, 3, 4, 5, 6, 7, 8, 9] rfl) (va_recv hK.1 (hP.sub (ws' := [(a0, .inr (5, [.ref a_state, .ref a_readPage, .ref a_tape, .int f_taped, .int f_fault, .int f_broken, .int f_brokenAt, .int f_spot, .int f_here, .int f_token, .int f_value, .ref a_cutRow, .ref a_cutWeights, .ref a_isKept, .ref a_lanes, .ref a_lengths, .ref a_cells, .int f_torn]))]) [0] rfl) (ci := 5) (q0 := 0) rfl rfl) rfl hl.1 rfl (Nat.le_of_ble_eq_true rfl) dX6_beside_70 ⟨Nat.zero_le _, Nat.zero_le _⟩ (fun r_11 hw => ?_)
              refine lv_if_eq (tgt := 81) hx hb dX6_beside_73 (by decide) (fun c_12 => ?_) (fun c_12 => ?_)
              · have hw := hw.1 c_12
                refine lv_bipush (v := -4) hx hb dX6_beside_81 (by decide) ?_
                exact z_iret hx hb hr hlk hw dX6_beside_83
              · have hw := hw.2 c_12
                refine lv_iload hx hb dX6_beside_76 (lv_at hl 3 rfl) ?_
                refine lv_goto (tgt := 83) hx hb dX6_beside_78 (by decide) ?_
                exact z_iret hx hb hr hlk hw dX6_beside_83
            · have hw := hw.2 c_10
              refine lv_aload_n hx hb dX6_beside_44 rfl (lv_at hl 0 rfl) ?_
              refine lv_iload hx hb dX6_beside_45 (lv_at hl 3 rfl) ?_
              refine z_ri [.int x_8] [] ⟨hx, hb, hml, hown, hts⟩ (kX6_depthOf l D cA a0 a_state a_readPage a_tape a_cutRow a_cutWeights a_isKept a_lanes a_lengths a_cells f_taped f_fault f_broken f_brokenAt f_spot f_here f_token f_value f_torn f_state f_readPage f_tape f_cutRow f_cutWeights f_isKept f_lanes f_lengths f_cells x_8 _ hw) (cwV 1 hts gX6_beside_X6_depthOf rfl rfl rfl vX6_depthOf ⟨Nat.le_of_ble_eq_true rfl, Nat.le_of_ble_eq_true rfl⟩) hK (hP.sub [0, 1, 2, 3, 4, 5, 6, 7, 8, 9] rfl) (va_recv hK.1 (hP.sub (ws' := [(a0, .inr (5, [.ref a_state, .ref a_readPage, .ref a_tape, .int f_taped, .int f_fault, .int f_broken, .int f_brokenAt, .int f_spot, .int f_here, .int f_token, .int f_value, .ref a_cutRow, .ref a_cutWeights, .ref a_isKept, .ref a_lanes, .ref a_lengths, .ref a_cells, .int f_torn]))]) [0] rfl) (ci := 5) (q0 := 0) rfl rfl) rfl hl.1 rfl (Nat.le_of_ble_eq_true rfl) dX6_beside_47 ⟨Nat.zero_le _, Nat.zero_le _⟩ (fun r_13 hw => ?_)
              refine lv_aload_n hx hb dX6_beside_50 rfl (lv_at hl 0 rfl) ?_
              refine lv_iload_n hx hb dX6_beside_51 rfl (lv_at hl 1 rfl) ?_
              refine z_ri [.int p1] [.int r_13] ⟨hx, hb, hml, hown, hts⟩ (kX6_depthOf l D cA a0 a_state a_readPage a_tape a_cutRow a_cutWeights a_isKept a_lanes a_lengths a_cells f_taped f_fault f_broken f_brokenAt f_spot f_here f_token f_value f_torn f_state f_readPage f_tape f_cutRow f_cutWeights f_isKept f_lanes f_lengths f_cells p1 _ hw) (cwV 1 hts gX6_beside_X6_depthOf rfl rfl rfl vX6_depthOf ⟨Nat.le_of_ble_eq_true rfl, Nat.le_of_ble_eq_true rfl⟩) hK (hP.sub [0, 1, 2, 3, 4, 5, 6, 7, 8, 9] rfl) (va_recv hK.1 (hP.sub (ws' := [(a0, .inr (5, [.ref a_state, .ref a_readPage, .ref a_tape, .int f_taped, .int f_fault, .int f_broken, .int f_brokenAt, .int f_spot, .int f_here, .int f_token, .int f_value, .ref a_cutRow, .ref a_cutWeights, .ref a_isKept, .ref a_lanes, .ref a_lengths, .ref a_cells, .int f_torn]))]) [0] rfl) (ci := 5) (q0 := 0) rfl rfl) rfl hl.1 rfl (Nat.le_of_ble_eq_true rfl) dX6_beside_52 ⟨Nat.zero_le _, Nat.zero_le _⟩ (fun r_14 hw => ?_)
              refine lv_icmp_eq (tgt := 67) hx hb dX6_beside_55 (by decide) (fun c_15 => ?_) (fun c_15 => ?_)
              · have hw := hw.1 c_15
                refine lv_aload_n hx hb dX6_beside_67 rfl (lv_at hl 0 rfl) ?_
                refine lv_iload hx hb dX6_beside_68 (lv_at hl 3 rfl) ?_
                refine z_ri [.int x_8] [] ⟨hx, hb, hml, hown, hts⟩ (kX6_isNode l D cA a0 a_state a_readPage a_tape a_cutRow a_cutWeights a_isKept a_lanes a_lengths a_cells f_taped f_fault f_broken f_brokenAt f_spot f_here f_token f_value f_torn f_state f_readPage f_tape f_cutRow f_cutWeights f_isKept f_lanes f_lengths f_cells x_8 _ hw) (cwV 1 hts gX6_beside_X6_isNode rfl rfl rfl vX6_isNode ⟨Nat.le_of_ble_eq_true rfl, Nat.le_of_ble_eq_true rfl⟩) hK (hP.sub [0, 1, 2, 3, 4, 5, 6, 7, 8, 9] rfl) (va_recv hK.1 (hP.sub (ws' := [(a0, .inr (5, [.ref a_state, .ref a_readPage, .ref a_tape, .int f_taped, .int f_fault, .int f_broken, .int f_brokenAt, .int f_spot, .int f_here, .int f_token, .int f_value, .ref a_cutRow, .ref a_cutWeights, .ref a_isKept, .ref a_lanes, .ref a_lengths, .ref a_cells, .int f_torn]))]) [0] rfl) (ci := 5) (q0 := 0) rfl rfl) rfl hl.1 rfl (Nat.le_of_ble_eq_true rfl) dX6_beside_70 ⟨Nat.zero_le _, Nat.zero_le _⟩ (fun r_16 hw => ?_)
                refine lv_if_eq (tgt := 81) hx hb dX6_beside_73 (by decide) (fun c_17 => ?_) (fun c_17 => ?_)
                · have hw := hw.1 c_17
                  refine lv_bipush (v := -4) hx hb dX6_beside_81 (by decide) ?_
                  exact z_iret hx hb hr hlk hw dX6_beside_83
                · have hw := hw.2 c_17
                  refine lv_iload hx hb dX6_beside_76 (lv_at hl 3 rfl) ?_
                  refine lv_goto (tgt := 83) hx hb dX6_beside_78 (by decide) ?_
                  exact z_iret hx hb hr hlk hw dX6_beside_83
              · have hw := hw.2 c_15
                refine lv_iload hx hb dX6_beside_58 (lv_at hl 3 rfl) ?_
                refine lv_iload_n hx hb dX6_beside_60 rfl (lv_at hl 2 rfl) ?_
                refine lv_iadd hx hb dX6_beside_61 ?_
                refine lv_topi (fun x_18 ex_18 => ?_)
                have hw := hw x_18 ex_18
                refine lv_istore (lv' := [(4, .int x_18), (0, .ref a0), (1, .int p1), (3, .int (-1 : Int32))]) hx hb dX6_beside_62 hl (by decide) rfl (fun ls hl => ?_)
                refine lv_goto (tgt := 35) hx hb dX6_beside_64 (by decide) ?_
                exact ih_7 x_18 ls (Nat.lt_of_lt_of_le hw.2 (Nat.le_of_lt_succ hmu_7)) hw.1 (lv_sub hl [1, 2, 3, 0] rfl)
        exact lp_7 (mu_7 x_6 + 1) x_6 ls (Nat.lt_succ_self _) hI_7 (lv_sub hl [2, 3, 1, 0] rfl)
      · have hw := hw.2 c_5
        refine lv_iconst (v := 1) hx hb dX6_beside_24 (by decide) ?_
        refine lv_goto (tgt := 29) hx hb dX6_beside_25 (by decide) ?_
        refine lv_istore_n (lv' := [(3, .int (1 : Int32)), (0, .ref a0), (1, .int p1), (2, .int p2)]) hx hb dX6_beside_29 rfl hl (by decide) rfl (fun ls hl => ?_)
        refine lv_iload_n hx hb dX6_beside_30 rfl (lv_at hl 2 rfl) ?_
        refine lv_iload_n hx hb dX6_beside_31 rfl (lv_at hl 0 rfl) ?_
        refine lv_iadd hx hb dX6_beside_32 ?_
        refine lv_topi (fun x_19 ex_19 => ?_)
        have hw := hw x_19 ex_19
        refine lv_istore (lv' := [(4, .int x_19), (3, .int (1 : Int32)), (0, .ref a0), (1, .int p1), (2, .int p2)]) hx hb dX6_beside_33 hl (by decide) rfl (fun ls hl => ?_)
        obtain ⟨I_20, mu_20, hI_20, hw⟩ := hw
        have lp_20 : ∀ (nn : Nat) (x_21 : Int32) (ls : Array Slot), mu_20 x_21 < nn → I_20 x_21 → lv_has ls 5 [(0, .ref a0), (1, .int p1), (3, .int (1 : Int32)), (4, .int x_21)] → W p l e rX6_beside s m args below meth c s.heap [] 0 0 (MQ below (vp_Si post) args s 0 0 (fun _ => False)) (F0 m 35 ls []) := by
          intro nn
          induction nn with
          | zero => exact fun _ _ h0 => absurd h0 (Nat.not_lt_zero _)
          | succ nn ih_20 =>
            intro x_21 ls hmu_20 hI_20 hl
            have hw := hw x_21 hI_20
            refine lv_aload_n hx hb dX6_beside_35 rfl (lv_at hl 0 rfl) ?_
            refine lv_iload hx hb dX6_beside_36 (lv_at hl 3 rfl) ?_
            refine z_ri [.int x_21] [] ⟨hx, hb, hml, hown, hts⟩ (kX6_isNode l D cA a0 a_state a_readPage a_tape a_cutRow a_cutWeights a_isKept a_lanes a_lengths a_cells f_taped f_fault f_broken f_brokenAt f_spot f_here f_token f_value f_torn f_state f_readPage f_tape f_cutRow f_cutWeights f_isKept f_lanes f_lengths f_cells x_21 _ hw) (cwV 1 hts gX6_beside_X6_isNode rfl rfl rfl vX6_isNode ⟨Nat.le_of_ble_eq_true rfl, Nat.le_of_ble_eq_true rfl⟩) hK (hP.sub [0, 1, 2, 3, 4, 5, 6, 7, 8, 9] rfl) (va_recv hK.1 (hP.sub (ws' := [(a0, .inr (5, [.ref a_state, .ref a_readPage, .ref a_tape, .int f_taped, .int f_fault, .int f_broken, .int f_brokenAt, .int f_spot, .int f_here, .int f_token, .int f_value, .ref a_cutRow, .ref a_cutWeights, .ref a_isKept, .ref a_lanes, .ref a_lengths, .ref a_cells, .int f_torn]))]) [0] rfl) (ci := 5) (q0 := 0) rfl rfl) rfl hl.1 rfl (Nat.le_of_ble_eq_true rfl) dX6_beside_38 ⟨Nat.zero_le _, Nat.zero_le _⟩ (fun r_22 hw => ?_)
            refine lv_if_eq (tgt := 67) hx hb dX6_beside_41 (by decide) (fun c_23 => ?_) (fun c_23 => ?_)
            · have hw := hw.1 c_23
              refine lv_aload_n hx hb dX6_beside_67 rfl (lv_at hl 0 rfl) ?_
              refine lv_iload hx hb dX6_beside_68 (lv_at hl 3 rfl) ?_
              refine z_ri [.int x_21] [] ⟨hx, hb, hml, hown, hts⟩ (kX6_isNode l D cA a0 a_state a_readPage a_tape a_cutRow a_cutWeights a_isKept a_lanes a_lengths a_cells f_taped f_fault f_broken f_brokenAt f_spot f_here f_token f_value f_torn f_state f_readPage f_tape f_cutRow f_cutWeights f_isKept f_lanes f_lengths f_cells x_21 _ hw) (cwV 1 hts gX6_beside_X6_isNode rfl rfl rfl vX6_isNode ⟨Nat.le_of_ble_eq_true rfl, Nat.le_of_ble_eq_true rfl⟩) hK (hP.sub [0, 1, 2, 3, 4, 5, 6, 7, 8, 9] rfl) (va_recv hK.1 (hP.sub (ws' := [(a0, .inr (5, [.ref a_state, .ref a_readPage, .ref a_tape, .int f_taped, .int f_fault, .int f_broken, .int f_brokenAt, .int f_spot, .int f_here, .int f_token, .int f_value, .ref a_cutRow, .ref a_cutWeights, .ref a_isKept, .ref a_lanes, .ref a_lengths, .ref a_cells, .int f_torn]))]) [0] rfl) (ci := 5) (q0 := 0) rfl rfl) rfl hl.1 rfl (Nat.le_of_ble_eq_true rfl) dX6_beside_70 ⟨Nat.zero_le _, Nat.zero_le _⟩ (fun r_24 hw => ?_)
              refine lv_if_eq (tgt := 81) hx hb dX6_beside_73 (by decide) (fun c_25 => ?_) (fun c_25 => ?_)
              · have hw := hw.1 c_25
                refine lv_bipush (v := -4) hx hb dX6_beside_81 (by decide) ?_
                exact z_iret hx hb hr hlk hw dX6_beside_83
              · have hw := hw.2 c_25
                refine lv_iload hx hb dX6_beside_76 (lv_at hl 3 rfl) ?_
                refine lv_goto (tgt := 83) hx hb dX6_beside_78 (by decide) ?_
                exact z_iret hx hb hr hlk hw dX6_beside_83
            · have hw := hw.2 c_23
              refine lv_aload_n hx hb dX6_beside_44 rfl (lv_at hl 0 rfl) ?_
              refine lv_iload hx hb dX6_beside_45 (lv_at hl 3 rfl) ?_
              refine z_ri [.int x_21] [] ⟨hx, hb, hml, hown, hts⟩ (kX6_depthOf l D cA a0 a_state a_readPage a_tape a_cutRow a_cutWeights a_isKept a_lanes a_lengths a_cells f_taped f_fault f_broken f_brokenAt f_spot f_here f_token f_value f_torn f_state f_readPage f_tape f_cutRow f_cutWeights f_isKept f_lanes f_lengths f_cells x_21 _ hw) (cwV 1 hts gX6_beside_X6_depthOf rfl rfl rfl vX6_depthOf ⟨Nat.le_of_ble_eq_true rfl, Nat.le_of_ble_eq_true rfl⟩) hK (hP.sub [0, 1, 2, 3, 4, 5, 6, 7, 8, 9] rfl) (va_recv hK.1 (hP.sub (ws' := [(a0, .inr (5, [.ref a_state, .ref a_readPage, .ref a_tape, .int f_taped, .int f_fault, .int f_broken, .int f_brokenAt, .int f_spot, .int f_here, .int f_token, .int f_value, .ref a_cutRow, .ref a_cutWeights, .ref a_isKept, .ref a_lanes, .ref a_lengths, .ref a_cells, .int f_torn]))]) [0] rfl) (ci := 5) (q0 := 0) rfl rfl) rfl hl.1 rfl (Nat.le_of_ble_eq_true rfl) dX6_beside_47 ⟨Nat.zero_le _, Nat.zero_le _⟩ (fun r_26 hw => ?_)
              refine lv_aload_n hx hb dX6_beside_50 rfl (lv_at hl 0 rfl) ?_
              refine lv_iload_n hx hb dX6_beside_51 rfl (lv_at hl 1 rfl) ?_
              refine z_ri [.int p1] [.int r_26] ⟨hx, hb, hml, hown, hts⟩ (kX6_depthOf l D cA a0 a_state a_readPage a_tape a_cutRow a_cutWeights a_isKept a_lanes a_lengths a_cells f_taped f_fault f_broken f_brokenAt f_spot f_here f_token f_value f_torn f_state f_readPage f_tape f_cutRow f_cutWeights f_isKept f_lanes f_lengths f_cells p1 _ hw) (cwV 1 hts gX6_beside_X6_depthOf rfl rfl rfl vX6_depthOf ⟨Nat.le_of_ble_eq_true rfl, Nat.le_of_ble_eq_true rfl⟩) hK (hP.sub [0, 1, 2, 3, 4, 5, 6, 7, 8, 9] rfl) (va_recv hK.1 (hP.sub (ws' := [(a0, .inr (5, [.ref a_state, .ref a_readPage, .ref a_tape, .int f_taped, .int f_fault, .int f_broken, .int f_brokenAt, .int f_spot, .int f_here, .int f_token, .int f_value, .ref a_cutRow, .ref a_cutWeights, .ref a_isKept, .ref a_lanes, .ref a_lengths, .ref a_cells, .int f_torn]))]) [0] rfl) (ci := 5) (q0 := 0) rfl rfl) rfl hl.1 rfl (Nat.le_of_ble_eq_true rfl) dX6_beside_52 ⟨Nat.zero_le _, Nat.zero_le _⟩ (fun r_27 hw => ?_)
              refine lv_icmp_eq (tgt := 67) hx hb dX6_beside_55 (by decide) (fun c_28 => ?_) (fun c_28 => ?_)
              · have hw := hw.1 c_28
                refine lv_aload_n hx hb dX6_beside_67 rfl (lv_at hl 0 rfl) ?_
                refine lv_iload hx hb dX6_beside_68 (lv_at hl 3 rfl) ?_
                refine z_ri [.int x_21] [] ⟨hx, hb, hml, hown, hts⟩ (kX6_isNode l D cA a0 a_state a_readPage a_tape a_cutRow a_cutWeights a_isKept a_lanes a_lengths a_cells f_taped f_fault f_broken f_brokenAt f_spot f_here f_token f_value f_torn f_state f_readPage f_tape f_cutRow f_cutWeights f_isKept f_lanes f_lengths f_cells x_21 _ hw) (cwV 1 hts gX6_beside_X6_isNode rfl rfl rfl vX6_isNode ⟨Nat.le_of_ble_eq_true rfl, Nat.le_of_ble_eq_true rfl⟩) hK (hP.sub [0, 1, 2, 3, 4, 5, 6, 7, 8, 9] rfl) (va_recv hK.1 (hP.sub (ws' := [(a0, .inr (5, [.ref a_state, .ref a_readPage, .ref a_tape, .int f_taped, .int f_fault, .int f_broken, .int f_brokenAt, .int f_spot, .int f_here, .int f_token, .int f_value, .ref a_cutRow, .ref a_cutWeights, .ref a_isKept, .ref a_lanes, .ref a_lengths, .ref a_cells, .int f_torn]))]) [0] rfl) (ci := 5) (q0 := 0) rfl rfl) rfl hl.1 rfl (Nat.le_of_ble_eq_true rfl) dX6_beside_70 ⟨Nat.zero_le _, Nat.zero_le _⟩ (fun r_29 hw => ?_)
                refine lv_if_eq (tgt := 81) hx hb dX6_beside_73 (by decide) (fun c_30 => ?_) (fun c_30 => ?_)
                · have hw := hw.1 c_30
                  refine lv_bipush (v := -4) hx hb dX6_beside_81 (by decide) ?_
                  exact z_iret hx hb hr hlk hw dX6_beside_83
                · have hw := hw.2 c_30
                  refine lv_iload hx hb dX6_beside_76 (lv_at hl 3 rfl) ?_
                  refine lv_goto (tgt := 83) hx hb dX6_beside_78 (by decide) ?_
                  exact z_iret hx hb hr hlk hw dX6_beside_83
              · have hw := hw.2 c_28
                refine lv_iload hx hb dX6_beside_58 (lv_at hl 3 rfl) ?_
                refine lv_iload_n hx hb dX6_beside_60 rfl (lv_at hl 2 rfl) ?_
                refine lv_iadd hx hb dX6_beside_61 ?_
                refine lv_topi (fun x_31 ex_31 => ?_)
                have hw := hw x_31 ex_31
                refine lv_istore (lv' := [(4, .int x_31), (0, .ref a0), (1, .int p1), (3, .int (1 : Int32))]) hx hb dX6_beside_62 hl (by decide) rfl (fun ls hl => ?_)
                refine lv_goto (tgt := 35) hx hb dX6_beside_64 (by decide) ?_
                exact ih_20 x_31 ls (Nat.lt_of_lt_of_le hw.2 (Nat.le_of_lt_succ hmu_20)) hw.1 (lv_sub hl [1, 2, 3, 0] rfl)
        exact lp_20 (mu_20 x_19 + 1) x_19 ls (Nat.lt_succ_self _) hI_20 (lv_sub hl [2, 3, 1, 0] rfl)
    · have hw := hw.2 c_4
      refine lv_iconst (v := -1) hx hb dX6_beside_18 (by decide) ?_
      exact z_iret hx hb hr hlk hw dX6_beside_19
def wX6_deepest (f_state : Nat → Int32) (p1 : Int32) (post : Int32 → Prop) : Prop := (wX6_isNode f_state p1 (fun r_1 : Int32 => (((r_1 = 0 → post (-1 : Int32)) ∧ (¬ r_1 = 0 → (wX6_deepestOf f_state p1 (fun r_3 : Int32 => (post r_3))))))))
abbrev rX6_deepest : Room := { frames := 3, cells := 0, slots := 0, locals := 68 }
theorem vX6_deepest : yX6_deepest.cls = RX6 ∧ yX6_deepest.cls ≠ "java/lang/invoke/MethodHandle" ∧ yX6_deepest.cls ≠ "java/lang/invoke/VarHandle" ∧ (parseMethodDescriptor yX6_deepest.desc).map (fun d => d.parameters.length) = some 1 := by decide +kernel
set_option maxHeartbeats 4000000 in
set_option maxRecDepth 100000 in
theorem kX6_deepest (l : Launch) (D : va_G) (cA : Nat → ClassId) (a0 a_state a_readPage a_tape a_cutRow a_cutWeights a_isKept a_lanes a_lengths a_cells : Nat) (f_taped : Int32) (f_fault : Int32) (f_broken : Int32) (f_brokenAt : Int32) (f_spot : Int32) (f_here : Int32) (f_token : Int32) (f_value : Int32) (f_torn : Int32) (f_state : Nat → Int32) (f_readPage : Nat → Int32) (f_tape : Nat → Int32) (f_cutRow : Nat → Int32) (f_cutWeights : Nat → Int32) (f_isKept : Nat → Int32) (f_lanes : Nat → Int32) (f_lengths : Nat → Int32) (f_cells : Nat → Int64) (p1 : Int32) (post : Int32 → Prop) (h : wX6_deepest f_state p1 post) : Met l yX6_deepest wsX6_deepest rX6_deepest (zPr D cA [.ref a0, .int p1] [(a0, .inr (5, [.ref a_state, .ref a_readPage, .ref a_tape, .int f_taped, .int f_fault, .int f_broken, .int f_brokenAt, .int f_spot, .int f_here, .int f_token, .int f_value, .ref a_cutRow, .ref a_cutWeights, .ref a_isKept, .ref a_lanes, .ref a_lengths, .ref a_cells, .int f_torn])), (a_state, .inl (cA 0, 579, .inl f_state)), (a_readPage, .inl (cA 0, 193, .inl f_readPage)), (a_tape, .inl (cA 0, 160, .inl f_tape)), (a_cutRow, .inl (cA 0, 128, .inl f_cutRow)), (a_cutWeights, .inl (cA 0, 64, .inl f_cutWeights)), (a_isKept, .inl (cA 3, 2, .inl f_isKept)), (a_lanes, .inl (cA 0, 4, .inl f_lanes)), (a_lengths, .inl (cA 0, 4, .inl f_lengths)), (a_cells, .inl (cA 1, 160, .inr (.inl f_cells)))]) (vp_Si post) 0 0 (fun _ => False) := by
  refine z_ro (cc := cX6_deepest) (maxL := 2) (ret := (some .int)) (by decide) rfl (Nat.le_of_ble_eq_true rfl) ?_
  intro p e s m args below meth c ls hx hb hr hlk hml hown hts hK hP hl
  have hown : s.vm.findClass RX6 = some m.cls := hown
  have hl : lv_has ls 2 [(0, .ref a0), (1, .int p1)] := hl
  have hw := h
  unfold wX6_deepest at hw
  refine lv_aload_n hx hb dX6_deepest_0 rfl (lv_at hl 0 rfl) ?_
  refine lv_iload_n hx hb dX6_deepest_1 rfl (lv_at hl 1 rfl) ?_
  refine z_ri [.int p1] [] ⟨hx, hb, hml, hown, hts⟩ (kX6_isNode l D cA a0 a_state a_readPage a_tape a_cutRow a_cutWeights a_isKept a_lanes a_lengths a_cells f_taped f_fault f_broken f_brokenAt f_spot f_here f_token f_value f_torn f_state f_readPage f_tape f_cutRow f_cutWeights f_isKept f_lanes f_lengths f_cells p1 _ hw) (cwV 1 hts gX6_deepest_X6_isNode rfl rfl rfl vX6_isNode ⟨Nat.le_of_ble_eq_true rfl, Nat.le_of_ble_eq_true rfl⟩) hK (hP.sub [0, 1, 2, 3, 4, 5, 6, 7, 8, 9] rfl) (va_recv hK.1 (hP.sub (ws' := [(a0, .inr (5, [.ref a_state, .ref a_readPage, .ref a_tape, .int f_taped, .int f_fault, .int f_broken, .int f_brokenAt, .int f_spot, .int f_here, .int f_token, .int f_value, .ref a_cutRow, .ref a_cutWeights, .ref a_isKept, .ref a_lanes, .ref a_lengths, .ref a_cells, .int f_torn]))]) [0] rfl) (ci := 5) (q0 := 0) rfl rfl) rfl hl.1 rfl (Nat.le_of_ble_eq_true rfl) dX6_deepest_2 ⟨Nat.zero_le _, Nat.zero_le _⟩ (fun r_1 hw => ?_)
  refine lv_if_eq (tgt := 16) hx hb dX6_deepest_5 (by decide) (fun c_2 => ?_) (fun c_2 => ?_)
  · have hw := hw.1 c_2
    refine lv_iconst (v := -1) hx hb dX6_deepest_16 (by decide) ?_
    exact z_iret hx hb hr hlk hw dX6_deepest_17
  · have hw := hw.2 c_2
    refine lv_aload_n hx hb dX6_deepest_8 rfl (lv_at hl 0 rfl) ?_
    refine lv_iload_n hx hb dX6_deepest_9 rfl (lv_at hl 1 rfl) ?_
    refine z_ri [.int p1] [] ⟨hx, hb, hml, hown, hts⟩ (kX6_deepestOf l D cA a0 a_state a_readPage a_tape a_cutRow a_cutWeights a_isKept a_lanes a_lengths a_cells f_taped f_fault f_broken f_brokenAt f_spot f_here f_token f_value f_torn f_state f_readPage f_tape f_cutRow f_cutWeights f_isKept f_lanes f_lengths f_cells p1 _ hw) (cwV 1 hts gX6_deepest_X6_deepestOf rfl rfl rfl vX6_deepestOf ⟨Nat.le_of_ble_eq_true rfl, Nat.le_of_ble_eq_true rfl⟩) hK (hP.sub [0, 1, 2, 3, 4, 5, 6, 7, 8, 9] rfl) (va_recv hK.1 (hP.sub (ws' := [(a0, .inr (5, [.ref a_state, .ref a_readPage, .ref a_tape, .int f_taped, .int f_fault, .int f_broken, .int f_brokenAt, .int f_spot, .int f_here, .int f_token, .int f_value, .ref a_cutRow, .ref a_cutWeights, .ref a_isKept, .ref a_lanes, .ref a_lengths, .ref a_cells, .int f_torn]))]) [0] rfl) (ci := 5) (q0 := 0) rfl rfl) rfl hl.1 rfl (Nat.le_of_ble_eq_true rfl) dX6_deepest_10 ⟨Nat.zero_le _, Nat.zero_le _⟩ (fun r_3 hw => ?_)
    refine lv_goto (tgt := 17) hx hb dX6_deepest_13 (by decide) ?_
    exact z_iret hx hb hr hlk hw dX6_deepest_17
def wX6_alike (f_state : Nat → Int32) (p1 : Int32) (p2 : Int32) (post : Int32 → Prop) : Prop := (wX6_isNode f_state p1 (fun r_1 : Int32 => (((r_1 = 0 → post (-1 : Int32)) ∧ (¬ r_1 = 0 → (wX6_isNode f_state p2 (fun r_3 : Int32 => (((¬ r_3 = 0 → (wX6_sizeOf f_state p1 (fun r_5 : Int32 => ((wX6_sizeOf f_state p2 (fun r_6 : Int32 => ((∃ J_7 : Int32 → Prop, ((¬ r_5 = r_6 → (J_7 (0 : Int32))) ∧ (r_5 = r_6 → (J_7 (1 : Int32)))) ∧ ∀ (x_8 : Int32), J_7 x_8 → (wX6_openOf f_state p1 (fun r_9 : Int32 => ((wX6_openOf f_state p2 (fun r_10 : Int32 => ((∃ (I_11 : Int32 → Int32 → Prop) (mu_11 : Int32 → Int32 → Nat), I_11 x_8 (0 : Int32) ∧ ∀ (x_12 : Int32) (x_13 : Int32), I_11 x_12 x_13 → ((x_12 = 0 → ((x_12 = 0 → post (0 : Int32)) ∧ (¬ x_12 = 0 → post (1 : Int32)))) ∧ (¬ x_12 = 0 → (wX6_sizeOf f_state p1 (fun r_16 : Int32 => (((((2 : Int32) * r_16) ≤ x_13 → ((x_12 = 0 → post (0 : Int32)) ∧ (¬ x_12 = 0 → post (1 : Int32)))) ∧ (¬ ((2 : Int32) * r_16) ≤ x_13 → (vp_in (r_9 + x_13) 579 ∧ (vp_in (r_10 + x_13) 579 ∧ ((¬ (f_state (r_9 + x_13).toNatClampNeg) = (f_state (r_10 + x_13).toNatClampNeg) → (∀ x_20 : Int32, x_20 = x_13 + (1) → (I_11 (0 : Int32) x_20 ∧ mu_11 (0 : Int32) x_20 < mu_11 x_12 x_13))) ∧ ((f_state (r_9 + x_13).toNatClampNeg) = (f_state (r_10 + x_13).toNatClampNeg) → (∀ x_21 : Int32, x_21 = x_13 + (1) → (I_11 (1 : Int32) x_21 ∧ mu_11 (1 : Int32) x_21 < mu_11 x_12 x_13)))))))))))))))))))))))))))) ∧ (r_3 = 0 → post (-1 : Int32)))))))))))
abbrev rX6_alike : Room := { frames := 2, cells := 0, slots := 0, locals := 46 }
theorem vX6_alike : yX6_alike.cls = RX6 ∧ yX6_alike.cls ≠ "java/lang/invoke/MethodHandle" ∧ yX6_alike.cls ≠ "java/lang/invoke/VarHandle" ∧ (parseMethodDescriptor yX6_alike.desc).map (fun d => d.parameters.length) = some 2 := by decide +kernel
set_option maxHeartbeats 4000000 in
set_option maxRecDepth 100000 in
theorem kX6_alike (l : Launch) (D : va_G) (cA : Nat → ClassId) (a0 a_state a_readPage a_tape a_cutRow a_cutWeights a_isKept a_lanes a_lengths a_cells : Nat) (f_taped : Int32) (f_fault : Int32) (f_broken : Int32) (f_brokenAt : Int32) (f_spot : Int32) (f_here : Int32) (f_token : Int32) (f_value : Int32) (f_torn : Int32) (f_state : Nat → Int32) (f_readPage : Nat → Int32) (f_tape : Nat → Int32) (f_cutRow : Nat → Int32) (f_cutWeights : Nat → Int32) (f_isKept : Nat → Int32) (f_lanes : Nat → Int32) (f_lengths : Nat → Int32) (f_cells : Nat → Int64) (p1 : Int32) (p2 : Int32) (post : Int32 → Prop) (h : wX6_alike f_state p1 p2 post) : Met l yX6_alike wsX6_alike rX6_alike (zPr D cA [.ref a0, .int p1, .int p2] [(a0, .inr (5, [.ref a_state, .ref a_readPage, .ref a_tape, .int f_taped, .int f_fault, .int f_broken, .int f_brokenAt, .int f_spot, .int f_here, .int f_token, .int f_value, .ref a_cutRow, .ref a_cutWeights, .ref a_isKept, .ref a_lanes, .ref a_lengths, .ref a_cells, .int f_torn])), (a_state, .inl (cA 0, 579, .inl f_state)), (a_readPage, .inl (cA 0, 193, .inl f_readPage)), (a_tape, .inl (cA 0, 160, .inl f_tape)), (a_cutRow, .inl (cA 0, 128, .inl f_cutRow)), (a_cutWeights, .inl (cA 0, 64, .inl f_cutWeights)), (a_isKept, .inl (cA 3, 2, .inl f_isKept)), (a_lanes, .inl (cA 0, 4, .inl f_lanes)), (a_lengths, .inl (cA 0, 4, .inl f_lengths)), (a_cells, .inl (cA 1, 160, .inr (.inl f_cells)))]) (vp_Si post) 0 0 (fun _ => False) := by
  refine z_ro (cc := cX6_alike) (maxL := 7) (ret := (some .int)) (by decide) rfl (Nat.le_of_ble_eq_true rfl) ?_
  intro p e s m args below meth c ls hx hb hr hlk hml hown hts hK hP hl
  have hown : s.vm.findClass RX6 = some m.cls := hown
  have hl : lv_has ls 7 [(0, .ref a0), (1, .int p1), (2, .int p2)] := hl
  have hw := h
  unfold wX6_alike at hw
  have iwX6 : ∀ w ∈ wsX60, w ∈ wsX6_alike := fun w h9 => List.mem_cons_of_mem _ (List.mem_append_right _ h9)
  have kf7 := hts (.fieldLink RX6 7 "ExcessTreeModel" "state" "[I") (by decide +kernel)
  refine lv_aload_n hx hb dX6_alike_0 rfl (lv_at hl 0 rfl) ?_
  refine lv_iload_n hx hb dX6_alike_1 rfl (lv_at hl 1 rfl) ?_
  refine z_ri [.int p1] [] ⟨hx, hb, hml, hown, hts⟩ (kX6_isNode l D cA a0 a_state a_readPage a_tape a_cutRow a_cutWeights a_isKept a_lanes a_lengths a_cells f_taped f_fault f_broken f_brokenAt f_spot f_here f_token f_value f_torn f_state f_readPage f_tape f_cutRow f_cutWeights f_isKept f_lanes f_lengths f_cells p1 _ hw) (cwV 1 hts gX6_alike_X6_isNode rfl rfl rfl vX6_isNode ⟨Nat.le_of_ble_eq_true rfl, Nat.le_of_ble_eq_true rfl⟩) hK (hP.sub [0, 1, 2, 3, 4, 5, 6, 7, 8, 9] rfl) (va_recv hK.1 (hP.sub (ws' := [(a0, .inr (5, [.ref a_state, .ref a_readPage, .ref a_tape, .int f_taped, .int f_fault, .int f_broken, .int f_brokenAt, .int f_spot, .int f_here, .int f_token, .int f_value, .ref a_cutRow, .ref a_cutWeights, .ref a_isKept, .ref a_lanes, .ref a_lengths, .ref a_cells, .int f_torn]))]) [0] rfl) (ci := 5) (q0 := 0) rfl rfl) rfl hl.1 rfl (Nat.le_of_ble_eq_true rfl) dX6_alike_2 ⟨Nat.zero_le _, Nat.zero_le _⟩ (fun r_1 hw => ?_)
  refine lv_if_eq (tgt := 16) hx hb dX6_alike_5 (by decide) (fun c_2 => ?_) (fun c_2 => ?_)
  · have hw := hw.1 c_2
    refine lv_iconst (v := -1) hx hb dX6_alike_16 (by decide) ?_
    exact z_iret hx hb hr hlk hw dX6_alike_17
  · have hw := hw.2 c_2
    refine lv_aload_n hx hb dX6_alike_8 rfl (lv_at hl 0 rfl) ?_
    refine lv_iload_n hx hb dX6_alike_9 rfl (lv_at hl 2 rfl) ?_
    refine z_ri [.int p2] [] ⟨hx, hb, hml, hown, hts⟩ (kX6_isNode l D cA a0 a_state a_readPage a_tape a_cutRow a_cutWeights a_isKept a_lanes a_lengths a_cells f_taped f_fault f_broken f_brokenAt f_spot f_here f_token f_value f_torn f_state f_readPage f_tape f_cutRow f_cutWeights f_isKept f_lanes f_lengths f_cells p2 _ hw) (cwV 1 hts gX6_alike_X6_isNode rfl rfl rfl vX6_isNode ⟨Nat.le_of_ble_eq_true rfl, Nat.le_of_ble_eq_true rfl⟩) hK (hP.sub [0, 1, 2, 3, 4, 5, 6, 7, 8, 9] rfl) (va_recv hK.1 (hP.sub (ws' := [(a0, .inr (5, [.ref a_state, .ref a_readPage, .ref a_tape, .int f_taped, .int f_fault, .int f_broken, .int f_brokenAt, .int f_spot, .int f_here, .int f_token, .int f_value, .ref a_cutRow, .ref a_cutWeights, .ref a_isKept, .ref a_lanes, .ref a_lengths, .ref a_cells, .int f_torn]))]) [0] rfl) (ci := 5) (q0 := 0) rfl rfl) rfl hl.1 rfl (Nat.le_of_ble_eq_true rfl) dX6_alike_10 ⟨Nat.zero_le _, Nat.zero_le _⟩ (fun r_3 hw => ?_)
    refine lv_if_ne (tgt := 18) hx hb dX6_alike_13 (by decide) (fun c_4 => ?_) (fun c_4 => ?_)
    · have hw := hw.1 c_4
      refine lv_aload_n hx hb dX6_alike_18 rfl (lv_at hl 0 rfl) ?_
      refine lv_iload_n hx hb dX6_alike_19 rfl (lv_at hl 1 rfl) ?_
      refine z_ri [.int p1] [] ⟨hx, hb, hml, hown, hts⟩ (kX6_sizeOf l D cA a0 a_state a_readPage a_tape a_cutRow a_cutWeights a_isKept a_lanes a_lengths a_cells f_taped f_fault f_broken f_brokenAt f_spot f_here f_token f_value f_torn f_state f_readPage f_tape f_cutRow f_cutWeights f_isKept f_lanes f_lengths f_cells p1 _ hw) (cwV 1 hts gX6_alike_X6_sizeOf rfl rfl rfl vX6_sizeOf ⟨Nat.le_of_ble_eq_true rfl, Nat.le_of_ble_eq_true rfl⟩) hK (hP.sub [0, 1, 2, 3, 4, 5, 6, 7, 8, 9] rfl) (va_recv hK.1 (hP.sub (ws' := [(a0, .inr (5, [.ref a_state, .ref a_readPage, .ref a_tape, .int f_taped, .int f_fault, .int f_broken, .int f_brokenAt, .int f_spot, .int f_here, .int f_token, .int f_value, .ref a_cutRow, .ref a_cutWeights, .ref a_isKept, .ref a_lanes, .ref a_lengths, .ref a_cells, .int f_torn]))]) [0] rfl) (ci := 5) (q0 := 0) rfl rfl) rfl hl.1 rfl (Nat.le_of_ble_eq_true rfl) dX6_alike_20 ⟨Nat.zero_le _, Nat.zero_le _⟩ (fun r_5 hw => ?_)
      refine lv_aload_n hx hb dX6_alike_23 rfl (lv_at hl 0 rfl) ?_
      refine lv_iload_n hx hb dX6_alike_24 rfl (lv_at hl 2 rfl) ?_
      refine z_ri [.int p2] [.int r_5] ⟨hx, hb, hml, hown, hts⟩ (kX6_sizeOf l D cA a0 a_state a_readPage a_tape a_cutRow a_cutWeights a_isKept a_lanes a_lengths a_cells f_taped f_fault f_broken f_brokenAt f_spot f_here f_token f_value f_torn f_state f_readPage f_tape f_cutRow f_cutWeights f_isKept f_lanes f_lengths f_cells p2 _ hw) (cwV 1 hts gX6_alike_X6_sizeOf rfl rfl rfl vX6_sizeOf ⟨Nat.le_of_ble_eq_true rfl, Nat.le_of_ble_eq_true rfl⟩) hK (hP.sub [0, 1, 2, 3, 4, 5, 6, 7, 8, 9] rfl) (va_recv hK.1 (hP.sub (ws' := [(a0, .inr (5, [.ref a_state, .ref a_readPage, .ref a_tape, .int f_taped, .int f_fault, .int f_broken, .int f_brokenAt, .int f_spot, .int f_here, .int f_token, .int f_value, .ref a_cutRow, .ref a_cutWeights, .ref a_isKept, .ref a_lanes, .ref a_lengths, .ref a_cells, .int f_torn]))]) [0] rfl) (ci := 5) (q0 := 0) rfl rfl) rfl hl.1 rfl (Nat.le_of_ble_eq_true rfl) dX6_alike_25 ⟨Nat.zero_le _, Nat.zero_le _⟩ (fun r_6 hw => ?_)
      obtain ⟨J_7, hw, hj_7⟩ := hw
      have jn_7 : ∀ (x_8 : Int32) (ls : Array Slot), J_7 x_8 → lv_has ls 7 [(0, .ref a0), (1, .int p1), (2, .int p2)] → W p l e rX6_alike s m args below meth c s.heap [] 0 0 (MQ below (vp_Si post) args s 0 0 (fun _ => False)) (F0 m 36 ls [.int x_8]) := by
        intro x_8 ls hw hl
        have hw := hj_7 x_8 hw
        refine lv_istore_n (lv' := [(3, .int x_8), (0, .ref a0), (1, .int p1), (2, .int p2)]) hx hb dX6_alike_36 rfl hl (by decide) rfl (fun ls hl => ?_)
        refine lv_aload_n hx hb dX6_alike_37 rfl (lv_at hl 1 rfl) ?_
        refine lv_iload_n hx hb dX6_alike_38 rfl (lv_at hl 2 rfl) ?_
        refine z_ri [.int p1] [] ⟨hx, hb, hml, hown, hts⟩ (kX6_openOf l D cA a0 a_state a_readPage a_tape a_cutRow a_cutWeights a_isKept a_lanes a_lengths a_cells f_taped f_fault f_broken f_brokenAt f_spot f_here f_token f_value f_torn f_state f_readPage f_tape f_cutRow f_cutWeights f_isKept f_lanes f_lengths f_cells p1 _ hw) (cwV 1 hts gX6_alike_X6_openOf rfl rfl rfl vX6_openOf ⟨Nat.le_of_ble_eq_true rfl, Nat.le_of_ble_eq_true rfl⟩) hK (hP.sub [0, 1, 2, 3, 4, 5, 6, 7, 8, 9] rfl) (va_recv hK.1 (hP.sub (ws' := [(a0, .inr (5, [.ref a_state, .ref a_readPage, .ref a_tape, .int f_taped, .int f_fault, .int f_broken, .int f_brokenAt, .int f_spot, .int f_here, .int f_token, .int f_value, .ref a_cutRow, .ref a_cutWeights, .ref a_isKept, .ref a_lanes, .ref a_lengths, .ref a_cells, .int f_torn]))]) [0] rfl) (ci := 5) (q0 := 0) rfl rfl) rfl hl.1 rfl (Nat.le_of_ble_eq_true rfl) dX6_alike_39 ⟨Nat.zero_le _, Nat.zero_le _⟩ (fun r_9 hw => ?_)
        refine lv_istore (lv' := [(4, .int r_9), (3, .int x_8), (0, .ref a0), (1, .int p1), (2, .int p2)]) hx hb dX6_alike_42 hl (by decide) rfl (fun ls hl => ?_)
        refine lv_aload_n hx hb dX6_alike_44 rfl (lv_at hl 2 rfl) ?_
        refine lv_iload_n hx hb dX6_alike_45 rfl (lv_at hl 4 rfl) ?_
        refine z_ri [.int p2] [] ⟨hx, hb, hml, hown, hts⟩ (kX6_openOf l D cA a0 a_state a_readPage a_tape a_cutRow a_cutWeights a_isKept a_lanes a_lengths a_cells f_taped f_fault f_broken f_brokenAt f_spot f_here f_token f_value f_torn f_state f_readPage f_tape f_cutRow f_cutWeights f_isKept f_lanes f_lengths f_cells p2 _ hw) (cwV 1 hts gX6_alike_X6_openOf rfl rfl rfl vX6_openOf ⟨Nat.le_of_ble_eq_true rfl, Nat.le_of_ble_eq_true rfl⟩) hK (hP.sub [0, 1, 2, 3, 4, 5, 6, 7, 8, 9] rfl) (va_recv hK.1 (hP.sub (ws' := [(a0, .inr (5, [.ref a_state, .ref a_readPage, .ref a_tape, .int f_taped, .int f_fault, .int f_broken, .int f_brokenAt, .int f_spot, .int f_here, .int f_token, .int f_value, .ref a_cutRow, .ref a_cutWeights, .ref a_isKept, .ref a_lanes, .ref a_lengths, .ref a_cells, .int f_torn]))]) [0] rfl) (ci := 5) (q0 := 0) rfl rfl) rfl hl.1 rfl (Nat.le_of_ble_eq_true rfl) dX6_alike_46 ⟨Nat.zero_le _, Nat.zero_le _⟩ (fun r_10 hw => ?_)
        refine lv_istore (lv' := [(5, .int r_10), (4, .int r_9), (3, .int x_8), (0, .ref a0), (1, .int p1), (2, .int p2)]) hx hb dX6_alike_49 hl (by decide) rfl (fun ls hl => ?_)
        refine lv_iconst (v := 0) hx hb dX6_alike_51 (by decide) ?_
        refine lv_istore (lv' := [(6, .int (0 : Int32)), (5, .int r_10), (4, .int r_9), (3, .int x_8), (0, .ref a0), (1, .int p1), (2, .int p2)]) hx hb dX6_alike_52 hl (by decide) rfl (fun ls hl => ?_)
        obtain ⟨I_11, mu_11, hI_11, hw⟩ := hw
        have lp_11 : ∀ (nn : Nat) (x_12 : Int32) (x_13 : Int32) (ls : Array Slot), mu_11 x_12 x_13 < nn → I_11 x_12 x_13 → lv_has ls 7 [(0, .ref a0), (1, .int p1), (3, .int x_12), (4, .int r_9), (5, .int r_10), (6, .int x_13)] → W p l e rX6_alike s m args below meth c s.heap [] 0 0 (MQ below (vp_Si post) args s 0 0 (fun _ => False)) (F0 m 54 ls []) := by
          intro nn
          induction nn with
          | zero => exact fun _ _ _ h0 => absurd h0 (Nat.not_lt_zero _)
          | succ nn ih_11 =>
            intro x_12 x_13 ls hmu_11 hI_11 hl
            have hw := hw x_12 x_13 hI_11
            refine lv_iload_n hx hb dX6_alike_54 rfl (lv_at hl 2 rfl) ?_
            refine lv_if_eq (tgt := 105) hx hb dX6_alike_55 (by decide) (fun c_14 => ?_) (fun c_14 => ?_)
            · have hw := hw.1 c_14
              refine lv_iload_n hx hb dX6_alike_105 rfl (lv_at hl 2 rfl) ?_
              refine lv_if_eq (tgt := 113) hx hb dX6_alike_106 (by decide) (fun c_15 => ?_) (fun c_15 => ?_)
              · have hw := hw.1 c_15
                refine lv_iconst (v := 0) hx hb dX6_alike_113 (by decide) ?_
                exact z_iret hx hb hr hlk hw dX6_alike_114
              · have hw := hw.2 c_15
                refine lv_iconst (v := 1) hx hb dX6_alike_109 (by decide) ?_
                refine lv_goto (tgt := 114) hx hb dX6_alike_110 (by decide) ?_
                exact z_iret hx hb hr hlk hw dX6_alike_114
            · have hw := hw.2 c_14
              refine lv_iload hx hb dX6_alike_58 (lv_at hl 5 rfl) ?_
              refine lv_iconst (v := 2) hx hb dX6_alike_60 (by decide) ?_
              refine lv_aload_n hx hb dX6_alike_61 rfl (lv_at hl 0 rfl) ?_
              refine lv_iload_n hx hb dX6_alike_62 rfl (lv_at hl 1 rfl) ?_
              refine z_ri [.int p1] [.int (2 : Int32), .int x_13] ⟨hx, hb, hml, hown, hts⟩ (kX6_sizeOf l D cA a0 a_state a_readPage a_tape a_cutRow a_cutWeights a_isKept a_lanes a_lengths a_cells f_taped f_fault f_broken f_brokenAt f_spot f_here f_token f_value f_torn f_state f_readPage f_tape f_cutRow f_cutWeights f_isKept f_lanes f_lengths f_cells p1 _ hw) (cwV 1 hts gX6_alike_X6_sizeOf rfl rfl rfl vX6_sizeOf ⟨Nat.le_of_ble_eq_true rfl, Nat.le_of_ble_eq_true rfl⟩) hK (hP.sub [0, 1, 2, 3, 4, 5, 6, 7, 8, 9] rfl) (va_recv hK.1 (hP.sub (ws' := [(a0, .inr (5, [.ref a_state, .ref a_readPage, .ref a_tape, .int f_taped, .int f_fault, .int f_broken, .int f_brokenAt, .int f_spot, .int f_here, .int f_token, .int f_value, .ref a_cutRow, .ref a_cutWeights, .ref a_isKept, .ref a_lanes, .ref a_lengths, .ref a_cells, .int f_torn]))]) [0] rfl) (ci := 5) (q0 := 0) rfl rfl) rfl hl.1 rfl (Nat.le_of_ble_eq_true rfl) dX6_alike_63 ⟨Nat.zero_le _, Nat.zero_le _⟩ (fun r_16 hw => ?_)
              refine lv_imul hx hb dX6_alike_66 ?_
              refine lv_icmp_ge (tgt := 105) hx hb dX6_alike_67 (by decide) (fun c_17 => ?_) (fun c_17 => ?_)
              · have hw := hw.1 c_17
                refine lv_iload_n hx hb dX6_alike_105 rfl (lv_at hl 2 rfl) ?_
                refine lv_if_eq (tgt := 113) hx hb dX6_alike_106 (by decide) (fun c_18 => ?_) (fun c_18 => ?_)
                · have hw := hw.1 c_18
                  refine lv_iconst (v := 0) hx hb dX6_alike_113 (by decide) ?_
                  exact z_iret hx hb hr hlk hw dX6_alike_114
                · have hw := hw.2 c_18
                  refine lv_iconst (v := 1) hx hb dX6_alike_109 (by decide) ?_
                  refine lv_goto (tgt := 114) hx hb dX6_alike_110 (by decide) ?_
                  exact z_iret hx hb hr hlk hw dX6_alike_114
              · have hw := hw.2 c_17
                refine lv_aload_n hx hb dX6_alike_70 rfl (lv_at hl 0 rfl) ?_
                refine va_get (D := D) (ci := 5) (v := .ref a_state) (C := RX6) (T := TX6) (N := 18) hx hb hts iwX6 hown hK.1 hP 0 rfl rfl 0 (by decide) kf7 (fun _ h9 => h9) rfl dX6_alike_71 ?_
                refine lv_iload hx hb dX6_alike_74 (lv_at hl 3 rfl) ?_
                refine lv_iload hx hb dX6_alike_76 (lv_at hl 5 rfl) ?_
                refine lv_iadd hx hb dX6_alike_78 ?_
                have hq := hw.1
                have hw := hw.2
                refine va_iald hx hb hK.1 hP 1 0 rfl rfl hq dX6_alike_79 ?_
                refine lv_aload_n hx hb dX6_alike_80 rfl (lv_at hl 0 rfl) ?_
                refine va_get (D := D) (ci := 5) (v := .ref a_state) (C := RX6) (T := TX6) (N := 18) hx hb hts iwX6 hown hK.1 hP 0 rfl rfl 0 (by decide) kf7 (fun _ h9 => h9) rfl dX6_alike_81 ?_
                refine lv_iload hx hb dX6_alike_84 (lv_at hl 4 rfl) ?_
                refine lv_iload hx hb dX6_alike_86 (lv_at hl 5 rfl) ?_
                refine lv_iadd hx hb dX6_alike_88 ?_
                have hq := hw.1
                have hw := hw.2
                refine va_iald hx hb hK.1 hP 1 0 rfl rfl hq dX6_alike_89 ?_
                refine lv_icmp_ne (tgt := 97) hx hb dX6_alike_90 (by decide) (fun c_19 => ?_) (fun c_19 => ?_)
                · have hw := hw.1 c_19
                  refine lv_iconst (v := 0) hx hb dX6_alike_97 (by decide) ?_
                  refine lv_istore_n (lv' := [(3, .int (0 : Int32)), (0, .ref a0), (1, .int p1), (4, .int r_9), (5, .int r_10), (6, .int x_13)]) hx hb dX6_alike_98 rfl hl (by decide) rfl (fun ls hl => ?_)
                  obtain ⟨x_20, ex_20⟩ : ∃ y : Int32, y = x_13 + (1) := ⟨_, rfl⟩
                  have hw := hw x_20 ex_20
                  refine lv_iinc (v := x_20) (lv' := [(6, .int x_20), (3, .int (0 : Int32)), (0, .ref a0), (1, .int p1), (4, .int r_9), (5, .int r_10)]) hx hb dX6_alike_99 hl (k := 5) rfl (by rw [ex_20]; rfl) (by decide) rfl (fun ls hl => ?_)
                  refine lv_goto (tgt := 54) hx hb dX6_alike_102 (by decide) ?_
                  exact ih_11 (0 : Int32) x_20 ls (Nat.lt_of_lt_of_le hw.2 (Nat.le_of_lt_succ hmu_11)) hw.1 (lv_sub hl [2, 3, 1, 4, 5, 0] rfl)
                · have hw := hw.2 c_19
                  refine lv_iconst (v := 1) hx hb dX6_alike_93 (by decide) ?_
                  refine lv_goto (tgt := 98) hx hb dX6_alike_94 (by decide) ?_
                  refine lv_istore_n (lv' := [(3, .int (1 : Int32)), (0, .ref a0), (1, .int p1), (4, .int r_9), (5, .int r_10), (6, .int x_13)]) hx hb dX6_alike_98 rfl hl (by decide) rfl (fun ls hl => ?_)
                  obtain ⟨x_21, ex_21⟩ : ∃ y : Int32, y = x_13 + (1) := ⟨_, rfl⟩
                  have hw := hw x_21 ex_21
                  refine lv_iinc (v := x_21) (lv' := [(6, .int x_21), (3, .int (1 : Int32)), (0, .ref a0), (1, .int p1), (4, .int r_9), (5, .int r_10)]) hx hb dX6_alike_99 hl (k := 5) rfl (by rw [ex_21]; rfl) (by decide) rfl (fun ls hl => ?_)
                  refine lv_goto (tgt := 54) hx hb dX6_alike_102 (by decide) ?_
                  exact ih_11 (1 : Int32) x_21 ls (Nat.lt_of_lt_of_le hw.2 (Nat.le_of_lt_succ hmu_11)) hw.1 (lv_sub hl [2, 3, 1, 4, 5, 0] rfl)
        exact lp_11 (mu_11 x_8 (0 : Int32) + 1) x_8 (0 : Int32) ls (Nat.lt_succ_self _) hI_11 (lv_sub hl [4, 5, 3, 2, 1, 0] rfl)
      refine lv_icmp_ne (tgt := 35) hx hb dX6_alike_28 (by decide) (fun c_22 => ?_) (fun c_22 => ?_)
      · have hw := hw.1 c_22
        refine lv_iconst (v := 0) hx hb dX6_alike_35 (by decide) ?_
        exact jn_7 (0 : Int32) ls hw (lv_sub hl [0, 1, 2] rfl)
      · have hw := hw.2 c_22
        refine lv_iconst (v := 1) hx hb dX6_alike_31 (by decide) ?_
        refine lv_goto (tgt := 36) hx hb dX6_alike_32 (by decide) ?_
        exact jn_7 (1 : Int32) ls hw (lv_sub hl [0, 1, 2] rfl)
    · have hw := hw.2 c_4
      refine lv_iconst (v := -1) hx hb dX6_alike_16 (by decide) ?_
      exact z_iret hx hb hr hlk hw dX6_alike_17
def wX6_weight (f_state : Nat → Int32) (p1 : Int32) (post : Int32 → Prop) : Prop := (wX6_isNode f_state p1 (fun r_1 : Int32 => (((r_1 = 0 → post (-1 : Int32)) ∧ (¬ r_1 = 0 → (vp_in ((128 : Int32) + p1) 579 ∧ post (f_state ((128 : Int32) + p1).toNatClampNeg)))))))
abbrev rX6_weight : Room := { frames := 2, cells := 0, slots := 0, locals := 46 }
theorem vX6_weight : yX6_weight.cls = RX6 ∧ yX6_weight.cls ≠ "java/lang/invoke/MethodHandle" ∧ yX6_weight.cls ≠ "java/lang/invoke/VarHandle" ∧ (parseMethodDescriptor yX6_weight.desc).map (fun d => d.parameters.length) = some 1 := by decide +kernel
set_option maxHeartbeats 4000000 in
set_option maxRecDepth 100000 in
theorem kX6_weight (l : Launch) (D : va_G) (cA : Nat → ClassId) (a0 a_state a_readPage a_tape a_cutRow a_cutWeights a_isKept a_lanes a_lengths a_cells : Nat) (f_taped : Int32) (f_fault : Int32) (f_broken : Int32) (f_brokenAt : Int32) (f_spot : Int32) (f_here : Int32) (f_token : Int32) (f_value : Int32) (f_torn : Int32) (f_state : Nat → Int32) (f_readPage : Nat → Int32) (f_tape : Nat → Int32) (f_cutRow : Nat → Int32) (f_cutWeights : Nat → Int32) (f_isKept : Nat → Int32) (f_lanes : Nat → Int32) (f_lengths : Nat → Int32) (f_cells : Nat → Int64) (p1 : Int32) (post : Int32 → Prop) (h : wX6_weight f_state p1 post) : Met l yX6_weight wsX6_weight rX6_weight (zPr D cA [.ref a0, .int p1] [(a0, .inr (5, [.ref a_state, .ref a_readPage, .ref a_tape, .int f_taped, .int f_fault, .int f_broken, .int f_brokenAt, .int f_spot, .int f_here, .int f_token, .int f_value, .ref a_cutRow, .ref a_cutWeights, .ref a_isKept, .ref a_lanes, .ref a_lengths, .ref a_cells, .int f_torn])), (a_state, .inl (cA 0, 579, .inl f_state)), (a_readPage, .inl (cA 0, 193, .inl f_readPage)), (a_tape, .inl (cA 0, 160, .inl f_tape)), (a_cutRow, .inl (cA 0, 128, .inl f_cutRow)), (a_cutWeights, .inl (cA 0, 64, .inl f_cutWeights)), (a_isKept, .inl (cA 3, 2, .inl f_isKept)), (a_lanes, .inl (cA 0, 4, .inl f_lanes)), (a_lengths, .inl (cA 0, 4, .inl f_lengths)), (a_cells, .inl (cA 1, 160, .inr (.inl f_cells)))]) (vp_Si post) 0 0 (fun _ => False) := by
  refine z_ro (cc := cX6_weight) (maxL := 2) (ret := (some .int)) (by decide) rfl (Nat.le_of_ble_eq_true rfl) ?_
  intro p e s m args below meth c ls hx hb hr hlk hml hown hts hK hP hl
  have hown : s.vm.findClass RX6 = some m.cls := hown
  have hl : lv_has ls 2 [(0, .ref a0), (1, .int p1)] := hl
  have hw := h
  unfold wX6_weight at hw
  have iwX6 : ∀ w ∈ wsX60, w ∈ wsX6_weight := fun w h9 => List.mem_cons_of_mem _ (List.mem_append_right _ h9)
  have kf7 := hts (.fieldLink RX6 7 "ExcessTreeModel" "state" "[I") (by decide +kernel)
  refine lv_aload_n hx hb dX6_weight_0 rfl (lv_at hl 0 rfl) ?_
  refine lv_iload_n hx hb dX6_weight_1 rfl (lv_at hl 1 rfl) ?_
  refine z_ri [.int p1] [] ⟨hx, hb, hml, hown, hts⟩ (kX6_isNode l D cA a0 a_state a_readPage a_tape a_cutRow a_cutWeights a_isKept a_lanes a_lengths a_cells f_taped f_fault f_broken f_brokenAt f_spot f_here f_token f_value f_torn f_state f_readPage f_tape f_cutRow f_cutWeights f_isKept f_lanes f_lengths f_cells p1 _ hw) (cwV 1 hts gX6_weight_X6_isNode rfl rfl rfl vX6_isNode ⟨Nat.le_of_ble_eq_true rfl, Nat.le_of_ble_eq_true rfl⟩) hK (hP.sub [0, 1, 2, 3, 4, 5, 6, 7, 8, 9] rfl) (va_recv hK.1 (hP.sub (ws' := [(a0, .inr (5, [.ref a_state, .ref a_readPage, .ref a_tape, .int f_taped, .int f_fault, .int f_broken, .int f_brokenAt, .int f_spot, .int f_here, .int f_token, .int f_value, .ref a_cutRow, .ref a_cutWeights, .ref a_isKept, .ref a_lanes, .ref a_lengths, .ref a_cells, .int f_torn]))]) [0] rfl) (ci := 5) (q0 := 0) rfl rfl) rfl hl.1 rfl (Nat.le_of_ble_eq_true rfl) dX6_weight_2 ⟨Nat.zero_le _, Nat.zero_le _⟩ (fun r_1 hw => ?_)
  refine lv_if_eq (tgt := 21) hx hb dX6_weight_5 (by decide) (fun c_2 => ?_) (fun c_2 => ?_)
  · have hw := hw.1 c_2
    refine lv_iconst (v := -1) hx hb dX6_weight_21 (by decide) ?_
    exact z_iret hx hb hr hlk hw dX6_weight_22
  · have hw := hw.2 c_2
    refine lv_aload_n hx hb dX6_weight_8 rfl (lv_at hl 0 rfl) ?_
    refine va_get (D := D) (ci := 5) (v := .ref a_state) (C := RX6) (T := TX6) (N := 18) hx hb hts iwX6 hown hK.1 hP 0 rfl rfl 0 (by decide) kf7 (fun _ h9 => h9) rfl dX6_weight_9 ?_
    refine lv_sipush (v := 128) hx hb dX6_weight_12 (by decide) ?_
    refine lv_iload_n hx hb dX6_weight_15 rfl (lv_at hl 1 rfl) ?_
    refine lv_iadd hx hb dX6_weight_16 ?_
    have hq := hw.1
    have hw := hw.2
    refine va_iald hx hb hK.1 hP 1 0 rfl rfl hq dX6_weight_17 ?_
    refine lv_goto (tgt := 22) hx hb dX6_weight_18 (by decide) ?_
    exact z_iret hx hb hr hlk hw dX6_weight_22
def wX6_set (f_state : Nat → Int32) (p1 : Int32) (p2 : Int32) (post : Int32 → (Nat → Int32) → Prop) : Prop := (wX6_isNode f_state p1 (fun r_1 : Int32 => (((r_1 = 0 → post (-1 : Int32) f_state) ∧ (¬ r_1 = 0 → ((0 ≤ p2 → (vp_in ((128 : Int32) + p1) 579 ∧ (∀ x_4 : Int32, x_4 = (f_state ((128 : Int32) + p1).toNatClampNeg) → (vp_in ((128 : Int32) + p1) 579 ∧ post x_4 (upd f_state ((128 : Int32) + p1).toNatClampNeg p2))))) ∧ (¬ 0 ≤ p2 → post (-1 : Int32) f_state)))))))
abbrev rX6_set : Room := { frames := 2, cells := 0, slots := 0, locals := 46 }
theorem vX6_set : yX6_set.cls = RX6 ∧ yX6_set.cls ≠ "java/lang/invoke/MethodHandle" ∧ yX6_set.cls ≠ "java/lang/invoke/VarHandle" ∧ (parseMethodDescriptor yX6_set.desc).map (fun d => d.parameters.length) = some 2 := by decide +kernel
set_option maxHeartbeats 4000000 in
set_option maxRecDepth 100000 in
theorem kX6_set (l : Launch) (D : va_G) (cA : Nat → ClassId) (a0 a_state a_readPage a_tape a_cutRow a_cutWeights a_isKept a_lanes a_lengths a_cells : Nat) (f_taped : Int32) (f_fault : Int32) (f_broken : Int32) (f_brokenAt : Int32) (f_spot : Int32) (f_here : Int32) (f_token : Int32) (f_value : Int32) (f_torn : Int32) (f_state : Nat → Int32) (f_readPage : Nat → Int32) (f_tape : Nat → Int32) (f_cutRow : Nat → Int32) (f_cutWeights : Nat → Int32) (f_isKept : Nat → Int32) (f_lanes : Nat → Int32) (f_lengths : Nat → Int32) (f_cells : Nat → Int64) (sz : Nat) (p1 : Int32) (p2 : Int32) (post : Int32 → (Nat → Int32) → Prop) (h : wX6_set f_state p1 p2 post) : Met l yX6_set wsX6_set rX6_set (zPw D cA [.ref a0, .int p1, .int p2] [(a0, .inr (5, [.ref a_state, .ref a_readPage, .ref a_tape, .int f_taped, .int f_fault, .int f_broken, .int f_brokenAt, .int f_spot, .int f_here, .int f_token, .int f_value, .ref a_cutRow, .ref a_cutWeights, .ref a_isKept, .ref a_lanes, .ref a_lengths, .ref a_cells, .int f_torn])), (a_state, .inl (cA 0, 579, .inl f_state)), (a_readPage, .inl (cA 0, 193, .inl f_readPage)), (a_tape, .inl (cA 0, 160, .inl f_tape)), (a_cutRow, .inl (cA 0, 128, .inl f_cutRow)), (a_cutWeights, .inl (cA 0, 64, .inl f_cutWeights)), (a_isKept, .inl (cA 3, 2, .inl f_isKept)), (a_lanes, .inl (cA 0, 4, .inl f_lanes)), (a_lengths, .inl (cA 0, 4, .inl f_lengths)), (a_cells, .inl (cA 1, 160, .inr (.inl f_cells)))] sz) (va_Qi post (zB D (va_A [(a0, .inr (5, [.ref a_state, .ref a_readPage, .ref a_tape, .int f_taped, .int f_fault, .int f_broken, .int f_brokenAt, .int f_spot, .int f_here, .int f_token, .int f_value, .ref a_cutRow, .ref a_cutWeights, .ref a_isKept, .ref a_lanes, .ref a_lengths, .ref a_cells, .int f_torn])), (a_state, .inl (cA 0, 579, .inl f_state)), (a_readPage, .inl (cA 0, 193, .inl f_readPage)), (a_tape, .inl (cA 0, 160, .inl f_tape)), (a_cutRow, .inl (cA 0, 128, .inl f_cutRow)), (a_cutWeights, .inl (cA 0, 64, .inl f_cutWeights)), (a_isKept, .inl (cA 3, 2, .inl f_isKept)), (a_lanes, .inl (cA 0, 4, .inl f_lanes)), (a_lengths, .inl (cA 0, 4, .inl f_lengths)), (a_cells, .inl (cA 1, 160, .inr (.inl f_cells)))] sz) (fun u : (Nat → Int32) => [(a0, .inr (5, [.ref a_state, .ref a_readPage, .ref a_tape, .int f_taped, .int f_fault, .int f_broken, .int f_brokenAt, .int f_spot, .int f_here, .int f_token, .int f_value, .ref a_cutRow, .ref a_cutWeights, .ref a_isKept, .ref a_lanes, .ref a_lengths, .ref a_cells, .int f_torn])), (a_state, .inl (cA 0, 579, .inl u)), (a_readPage, .inl (cA 0, 193, .inl f_readPage)), (a_tape, .inl (cA 0, 160, .inl f_tape)), (a_cutRow, .inl (cA 0, 128, .inl f_cutRow)), (a_cutWeights, .inl (cA 0, 64, .inl f_cutWeights)), (a_isKept, .inl (cA 3, 2, .inl f_isKept)), (a_lanes, .inl (cA 0, 4, .inl f_lanes)), (a_lengths, .inl (cA 0, 4, .inl f_lengths)), (a_cells, .inl (cA 1, 160, .inr (.inl f_cells)))])) (va_A [(a0, .inr (5, [.ref a_state, .ref a_readPage, .ref a_tape, .int f_taped, .int f_fault, .int f_broken, .int f_brokenAt, .int f_spot, .int f_here, .int f_token, .int f_value, .ref a_cutRow, .ref a_cutWeights, .ref a_isKept, .ref a_lanes, .ref a_lengths, .ref a_cells, .int f_torn])), (a_state, .inl (cA 0, 579, .inl f_state)), (a_readPage, .inl (cA 0, 193, .inl f_readPage)), (a_tape, .inl (cA 0, 160, .inl f_tape)), (a_cutRow, .inl (cA 0, 128, .inl f_cutRow)), (a_cutWeights, .inl (cA 0, 64, .inl f_cutWeights)), (a_isKept, .inl (cA 3, 2, .inl f_isKept)), (a_lanes, .inl (cA 0, 4, .inl f_lanes)), (a_lengths, .inl (cA 0, 4, .inl f_lengths)), (a_cells, .inl (cA 1, 160, .inr (.inl f_cells)))] sz)) 0 0 (va_A [(a0, .inr (5, [.ref a_state, .ref a_readPage, .ref a_tape, .int f_taped, .int f_fault, .int f_broken, .int f_brokenAt, .int f_spot, .int f_here, .int f_token, .int f_value, .ref a_cutRow, .ref a_cutWeights, .ref a_isKept, .ref a_lanes, .ref a_lengths, .ref a_cells, .int f_torn])), (a_state, .inl (cA 0, 579, .inl f_state)), (a_readPage, .inl (cA 0, 193, .inl f_readPage)), (a_tape, .inl (cA 0, 160, .inl f_tape)), (a_cutRow, .inl (cA 0, 128, .inl f_cutRow)), (a_cutWeights, .inl (cA 0, 64, .inl f_cutWeights)), (a_isKept, .inl (cA 3, 2, .inl f_isKept)), (a_lanes, .inl (cA 0, 4, .inl f_lanes)), (a_lengths, .inl (cA 0, 4, .inl f_lengths)), (a_cells, .inl (cA 1, 160, .inr (.inl f_cells)))] sz) := by
  refine z_rw (Qc := fun A => va_Qi post (zB D A (fun u : (Nat → Int32) => [(a0, .inr (5, [.ref a_state, .ref a_readPage, .ref a_tape, .int f_taped, .int f_fault, .int f_broken, .int f_brokenAt, .int f_spot, .int f_here, .int f_token, .int f_value, .ref a_cutRow, .ref a_cutWeights, .ref a_isKept, .ref a_lanes, .ref a_lengths, .ref a_cells, .int f_torn])), (a_state, .inl (cA 0, 579, .inl u)), (a_readPage, .inl (cA 0, 193, .inl f_readPage)), (a_tape, .inl (cA 0, 160, .inl f_tape)), (a_cutRow, .inl (cA 0, 128, .inl f_cutRow)), (a_cutWeights, .inl (cA 0, 64, .inl f_cutWeights)), (a_isKept, .inl (cA 3, 2, .inl f_isKept)), (a_lanes, .inl (cA 0, 4, .inl f_lanes)), (a_lengths, .inl (cA 0, 4, .inl f_lengths)), (a_cells, .inl (cA 1, 160, .inr (.inl f_cells)))])) A) (cc := cX6_set) (maxL := 4) (ret := (some .int)) (by decide) rfl (Nat.le_of_ble_eq_true rfl) ?_
  intro p e s m args below meth c ls A hx hb hr hlk hml hown hts hK hP hD hS hA hl
  have hown : s.vm.findClass RX6 = some m.cls := hown
  have hl : lv_has ls 4 [(0, .ref a0), (1, .int p1), (2, .int p2)] := hl
  have hw := h
  unfold wX6_set at hw
  have iwX6 : ∀ w ∈ wsX60, w ∈ wsX6_set := fun w h9 => List.mem_cons_of_mem _ (List.mem_append_right _ h9)
  have kf7 := hts (.fieldLink RX6 7 "ExcessTreeModel" "state" "[I") (by decide +kernel)
  refine lv_aload_n hx hb dX6_set_0 rfl (lv_at hl 0 rfl) ?_
  refine lv_iload_n hx hb dX6_set_1 rfl (lv_at hl 1 rfl) ?_
  refine z_ri [.int p1] [] ⟨hx, hb, hml, hown, hts⟩ (kX6_isNode l D cA a0 a_state a_readPage a_tape a_cutRow a_cutWeights a_isKept a_lanes a_lengths a_cells f_taped f_fault f_broken f_brokenAt f_spot f_here f_token f_value f_torn f_state f_readPage f_tape f_cutRow f_cutWeights f_isKept f_lanes f_lengths f_cells p1 _ hw) (cwV 1 hts gX6_set_X6_isNode rfl rfl rfl vX6_isNode ⟨Nat.le_of_ble_eq_true rfl, Nat.le_of_ble_eq_true rfl⟩) hK (hP.sub [0, 1, 2, 3, 4, 5, 6, 7, 8, 9] rfl) (va_recv hK.1 (hP.sub (ws' := [(a0, .inr (5, [.ref a_state, .ref a_readPage, .ref a_tape, .int f_taped, .int f_fault, .int f_broken, .int f_brokenAt, .int f_spot, .int f_here, .int f_token, .int f_value, .ref a_cutRow, .ref a_cutWeights, .ref a_isKept, .ref a_lanes, .ref a_lengths, .ref a_cells, .int f_torn]))]) [0] rfl) (ci := 5) (q0 := 0) rfl rfl) rfl hl.1 rfl (Nat.le_of_ble_eq_true rfl) dX6_set_2 ⟨Nat.zero_le _, Nat.zero_le _⟩ (fun r_1 hw => ?_)
  refine lv_if_eq (tgt := 12) hx hb dX6_set_5 (by decide) (fun c_2 => ?_) (fun c_2 => ?_)
  · have hw := hw.1 c_2
    refine lv_iconst (v := -1) hx hb dX6_set_12 (by decide) ?_
    exact z_iretw f_state hx hb hr hlk hw hP hD hS dX6_set_13
  · have hw := hw.2 c_2
    refine lv_iload_n hx hb dX6_set_8 rfl (lv_at hl 2 rfl) ?_
    refine lv_if_ge (tgt := 14) hx hb dX6_set_9 (by decide) (fun c_3 => ?_) (fun c_3 => ?_)
    · have hw := hw.1 c_3
      refine lv_aload_n hx hb dX6_set_14 rfl (lv_at hl 0 rfl) ?_
      refine va_get (D := D) (ci := 5) (v := .ref a_state) (C := RX6) (T := TX6) (N := 18) hx hb hts iwX6 hown hK.1 hP 0 rfl rfl 0 (by decide) kf7 (fun _ h9 => h9) rfl dX6_set_15 ?_
      refine lv_sipush (v := 128) hx hb dX6_set_18 (by decide) ?_
      refine lv_iload_n hx hb dX6_set_21 rfl (lv_at hl 1 rfl) ?_
      refine lv_iadd hx hb dX6_set_22 ?_
      have hq := hw.1
      have hw := hw.2
      refine va_iald hx hb hK.1 hP 1 0 rfl rfl hq dX6_set_23 ?_
      refine lv_topi (fun x_4 ex_4 => ?_)
      have hw := hw x_4 ex_4
      refine lv_istore_n (lv' := [(3, .int x_4), (0, .ref a0), (1, .int p1), (2, .int p2)]) hx hb dX6_set_24 rfl hl (by decide) rfl (fun ls hl => ?_)
      refine lv_aload_n hx hb dX6_set_25 rfl (lv_at hl 1 rfl) ?_
      refine va_get (D := D) (ci := 5) (v := .ref a_state) (C := RX6) (T := TX6) (N := 18) hx hb hts iwX6 hown hK.1 hP 0 rfl rfl 0 (by decide) kf7 (fun _ h9 => h9) rfl dX6_set_26 ?_
      refine lv_sipush (v := 128) hx hb dX6_set_29 (by decide) ?_
      refine lv_iload_n hx hb dX6_set_32 rfl (lv_at hl 2 rfl) ?_
      refine lv_iadd hx hb dX6_set_33 ?_
      refine lv_iload_n hx hb dX6_set_34 rfl (lv_at hl 3 rfl) ?_
      have hq := hw.1
      have hw := hw.2
      refine va_iast hx hb hK.1 hP hD hS 1 0 rfl rfl hq dX6_set_35 (fun H locs hP hD hS => ?_)
      have hP : va_P D vwCl [(a0, .inr (5, [.ref a_state, .ref a_readPage, .ref a_tape, .int f_taped, .int f_fault, .int f_broken, .int f_brokenAt, .int f_spot, .int f_here, .int f_token, .int f_value, .ref a_cutRow, .ref a_cutWeights, .ref a_isKept, .ref a_lanes, .ref a_lengths, .ref a_cells, .int f_torn])), (a_state, .inl (cA 0, 579, .inl (upd f_state ((128 : Int32) + p1).toNatClampNeg p2))), (a_readPage, .inl (cA 0, 193, .inl f_readPage)), (a_tape, .inl (cA 0, 160, .inl f_tape)), (a_cutRow, .inl (cA 0, 128, .inl f_cutRow)), (a_cutWeights, .inl (cA 0, 64, .inl f_cutWeights)), (a_isKept, .inl (cA 3, 2, .inl f_isKept)), (a_lanes, .inl (cA 0, 4, .inl f_lanes)), (a_lengths, .inl (cA 0, 4, .inl f_lengths)), (a_cells, .inl (cA 1, 160, .inr (.inl f_cells)))] H := hP
      have hD : va_D A [(a0, .inr (5, [.ref a_state, .ref a_readPage, .ref a_tape, .int f_taped, .int f_fault, .int f_broken, .int f_brokenAt, .int f_spot, .int f_here, .int f_token, .int f_value, .ref a_cutRow, .ref a_cutWeights, .ref a_isKept, .ref a_lanes, .ref a_lengths, .ref a_cells, .int f_torn])), (a_state, .inl (cA 0, 579, .inl (upd f_state ((128 : Int32) + p1).toNatClampNeg p2))), (a_readPage, .inl (cA 0, 193, .inl f_readPage)), (a_tape, .inl (cA 0, 160, .inl f_tape)), (a_cutRow, .inl (cA 0, 128, .inl f_cutRow)), (a_cutWeights, .inl (cA 0, 64, .inl f_cutWeights)), (a_isKept, .inl (cA 3, 2, .inl f_isKept)), (a_lanes, .inl (cA 0, 4, .inl f_lanes)), (a_lengths, .inl (cA 0, 4, .inl f_lengths)), (a_cells, .inl (cA 1, 160, .inr (.inl f_cells)))] := hD
      refine lv_iload_n hx hb dX6_set_36 rfl (lv_at hl 0 rfl) ?_
      exact z_iretw (upd f_state ((128 : Int32) + p1).toNatClampNeg p2) hx hb hr hlk hw hP hD hS dX6_set_37
    · have hw := hw.2 c_3
      refine lv_iconst (v := -1) hx hb dX6_set_12 (by decide) ?_
      exact z_iretw f_state hx hb hr hlk hw hP hD hS dX6_set_13
