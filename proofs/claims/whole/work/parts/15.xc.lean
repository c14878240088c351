/-! written by wip/whole/gen.py -/
def wX5_node (f_tree_row_low : Int64) (f_tree_row_high : Int64) (f_tree_row_places : Int32) (f_tree_row_gains : Nat → Int32) (f_tree_row_lows : Nat → Int32) (f_tree_row_highs : Nat → Int32) (p1 : Int32) (p2 : Int32) (post : Int32 → Prop) : Prop := (wX4_has f_tree_row_places p1 (fun r_1 : Int32 => (((¬ r_1 = 0 → ((p2 = 0 → (wX4_openOf f_tree_row_low f_tree_row_high f_tree_row_places p1 (fun r_4 : Int32 => (post r_4)))) ∧ (p2 = 1 → (wX4_closeOf f_tree_row_low f_tree_row_high f_tree_row_places f_tree_row_gains f_tree_row_lows f_tree_row_highs p1 (fun r_6 : Int32 => (post r_6)))) ∧ (p2 = 2 → (wX4_depthOf f_tree_row_low f_tree_row_high f_tree_row_places p1 (fun r_8 : Int32 => (post r_8)))) ∧ (p2 = 3 → (wX4_aboveBy f_tree_row_low f_tree_row_high f_tree_row_places f_tree_row_gains f_tree_row_lows f_tree_row_highs p1 (1 : Int32) (fun r_10 : Int32 => (post r_10)))) ∧ (p2 = 4 → (wX4_firstChildOf f_tree_row_low f_tree_row_high f_tree_row_places p1 (fun r_12 : Int32 => (post r_12)))) ∧ (p2 = 5 → (wX4_lastChildOf f_tree_row_low f_tree_row_high f_tree_row_places f_tree_row_gains f_tree_row_lows f_tree_row_highs p1 (fun r_14 : Int32 => (post r_14)))) ∧ (p2 = 6 → (wX4_nextChildAfter f_tree_row_low f_tree_row_high f_tree_row_places f_tree_row_gains f_tree_row_lows f_tree_row_highs p1 (fun r_16 : Int32 => (post r_16)))) ∧ (p2 = 7 → (wX4_childBefore f_tree_row_low f_tree_row_high f_tree_row_places f_tree_row_gains f_tree_row_lows f_tree_row_highs p1 (fun r_18 : Int32 => (post r_18)))) ∧ (p2 = 8 → (wX4_childrenOf f_tree_row_low f_tree_row_high f_tree_row_places f_tree_row_gains f_tree_row_lows f_tree_row_highs p1 (fun r_20 : Int32 => (post r_20)))) ∧ (p2 = 9 → (wX4_nodesOf f_tree_row_low f_tree_row_high f_tree_row_places f_tree_row_gains f_tree_row_lows f_tree_row_highs p1 (fun r_22 : Int32 => (post r_22)))) ∧ (p2 = 10 → (wX4_leavesOf f_tree_row_low f_tree_row_high f_tree_row_places f_tree_row_gains f_tree_row_lows f_tree_row_highs p1 (fun r_24 : Int32 => (post r_24)))) ∧ (p2 = 11 → (wX4_heightOf f_tree_row_low f_tree_row_high f_tree_row_places f_tree_row_gains f_tree_row_lows f_tree_row_highs p1 (fun r_26 : Int32 => (post r_26)))) ∧ (p2 = 12 → (wX4_closeOf f_tree_row_low f_tree_row_high f_tree_row_places f_tree_row_gains f_tree_row_lows f_tree_row_highs p1 (fun r_28 : Int32 => ((wX1_signsAhead f_tree_row_low f_tree_row_high f_tree_row_places r_28 (1 : Int32) (fun r_29 : Int32 => (post r_29))))))) ∧ (p2 = 13 → (wX4_orderOf f_tree_row_low f_tree_row_high f_tree_row_places f_tree_row_gains f_tree_row_lows f_tree_row_highs p1 (fun r_31 : Int32 => (post r_31)))) ∧ (¬ p2 = 0 → ¬ p2 = 1 → ¬ p2 = 2 → ¬ p2 = 3 → ¬ p2 = 4 → ¬ p2 = 5 → ¬ p2 = 6 → ¬ p2 = 7 → ¬ p2 = 8 → ¬ p2 = 9 → ¬ p2 = 10 → ¬ p2 = 11 → ¬ p2 = 12 → ¬ p2 = 13 → post (-1 : Int32)))) ∧ (r_1 = 0 → post (-1 : Int32))))))
abbrev rX5_node : Room := { frames := 6, cells := 0, slots := 0, locals := 141 }
theorem vX5_node : yX5_node.cls = RX5 ∧ yX5_node.cls ≠ "java/lang/invoke/MethodHandle" ∧ yX5_node.cls ≠ "java/lang/invoke/VarHandle" ∧ (parseMethodDescriptor yX5_node.desc).map (fun d => d.parameters.length) = some 2 := by decide +kernel
set_option maxHeartbeats 4000000 in
set_option maxRecDepth 100000 in
theorem kX5_node (l : Launch) (D : va_G) (cA : Nat → ClassId) (a0 a_tree a_draft a_images a_kept a_tape a_sheets a_tree_row a_tree_weights a_tree_carried a_tree_row_gains a_tree_row_lows a_tree_row_highs : Nat) (f_latestTorn : Int32) (f_tree_row_low : Int64) (f_tree_row_high : Int64) (f_tree_row_places : Int32) (f_tree_row_gains : Nat → Int32) (f_tree_row_lows : Nat → Int32) (f_tree_row_highs : Nat → Int32) (f_tree_weights : Nat → Int32) (f_tree_carried : Nat → Int32) (p1 : Int32) (p2 : Int32) (post : Int32 → Prop) (h : wX5_node f_tree_row_low f_tree_row_high f_tree_row_places f_tree_row_gains f_tree_row_lows f_tree_row_highs p1 p2 post) : Met l yX5_node wsX5_node rX5_node (zPr D cA [.ref a0, .int p1, .int p2] [(a0, .inr (4, [.ref a_tree, .ref a_draft, .ref a_images, .ref a_kept, .ref a_tape, .ref a_sheets, .int f_latestTorn])), (a_tree, .inr (3, [.ref a_tree_row, .ref a_tree_weights, .ref a_tree_carried])), (a_tree_row, .inr (0, [.long f_tree_row_low, .long f_tree_row_high, .int f_tree_row_places, .ref a_tree_row_gains, .ref a_tree_row_lows, .ref a_tree_row_highs])), (a_tree_row_gains, .inl (cA 0, 8, .inl f_tree_row_gains)), (a_tree_row_lows, .inl (cA 0, 8, .inl f_tree_row_lows)), (a_tree_row_highs, .inl (cA 0, 8, .inl f_tree_row_highs)), (a_tree_weights, .inl (cA 0, 64, .inl f_tree_weights)), (a_tree_carried, .inl (cA 0, 64, .inl f_tree_carried))]) (vp_Si post) 0 0 (fun _ => False) := by
  refine z_ro (cc := cX5_node) (maxL := 3) (ret := (some .int)) (by decide) rfl (Nat.le_of_ble_eq_true rfl) ?_
  intro p e s m args below meth c ls hx hb hr hlk hml hown hts hK hP hl
  have hown : s.vm.findClass RX5 = some m.cls := hown
  have hl : lv_has ls 3 [(0, .ref a0), (1, .int p1), (2, .int p2)] := hl
  have hw := h
  unfold wX5_node at hw
  have iwX5 : ∀ w ∈ wsX50, w ∈ wsX5_node := fun w h9 => List.mem_cons_of_mem _ (List.mem_append_left _ (List.mem_append_left _ (List.mem_append_right _ h9)))
  have kf12 := hts (.fieldLink RX5 12 "ExcessTree" "tree" "LExcessTree$Tree;") (by decide +kernel)
  have iwX4 : ∀ w ∈ wsX40, w ∈ wsX5_node := fun w h9 => List.mem_cons_of_mem _ (List.mem_append_left _ (List.mem_append_right _ h9))
  have kn70 := hK.nest (A := args) 5 rfl
  refine lv_aload_n hx hb dX5_node_0 rfl (lv_at hl 0 rfl) ?_
  refine va_get (D := D) (ci := 4) (v := .ref a_tree) (C := RX5) (T := TX5) (N := 7) hx hb hts iwX5 hown hK.1 hP 0 rfl rfl 0 (by decide) kf12 (fun _ h9 => h9) rfl dX5_node_1 ?_
  refine lv_iload_n hx hb dX5_node_4 rfl (lv_at hl 1 rfl) ?_
  refine z_ri [.int p1] [] ⟨hx, hb, hml, hown, hts⟩ (kX4_has l D cA a_tree a_tree_row a_tree_weights a_tree_carried a_tree_row_gains a_tree_row_lows a_tree_row_highs f_tree_row_low f_tree_row_high f_tree_row_places f_tree_row_gains f_tree_row_lows f_tree_row_highs f_tree_weights f_tree_carried p1 _ hw) (cwV 1 hts gX5_node_X4_has rfl rfl rfl vX4_has ⟨Nat.le_of_ble_eq_true rfl, Nat.le_of_ble_eq_true rfl⟩) hK (hP.sub [1, 2, 3, 4, 5, 6, 7] rfl) (va_recv hK.1 (hP.sub (ws' := [(a_tree, .inr (3, [.ref a_tree_row, .ref a_tree_weights, .ref a_tree_carried]))]) [1] rfl) (ci := 3) (q0 := 0) rfl rfl) rfl hl.1 rfl (Nat.le_of_ble_eq_true rfl) dX5_node_5 ⟨Nat.zero_le _, Nat.zero_le _⟩ (fun r_1 hw => ?_)
  refine lv_if_ne (tgt := 13) hx hb dX5_node_8 (by decide) (fun c_2 => ?_) (fun c_2 => ?_)
  · have hw := hw.1 c_2
    refine lv_iload_n hx hb dX5_node_13 rfl (lv_at hl 2 rfl) ?_
    by_cases c_3 : p2 = 0
    · have hw := hw.1 c_3
      refine lv_tableIn (tgt := 84) (off := 70) hx hb dX5_node_14 (by rw [c_3]; decide) (by rw [c_3]; decide) (by rw [c_3]; decide) (by decide) ?_
      refine lv_aload_n hx hb dX5_node_84 rfl (lv_at hl 0 rfl) ?_
      refine va_get (D := D) (ci := 4) (v := .ref a_tree) (C := RX5) (T := TX5) (N := 7) hx hb hts iwX5 hown hK.1 hP 0 rfl rfl 0 (by decide) kf12 (fun _ h9 => h9) rfl dX5_node_85 ?_
      refine lv_iload_n hx hb dX5_node_88 rfl (lv_at hl 1 rfl) ?_
      refine z_ri [.int p1] [] ⟨hx, hb, hml, hown, hts⟩ (kX4_openOf l D cA a_tree a_tree_row a_tree_weights a_tree_carried a_tree_row_gains a_tree_row_lows a_tree_row_highs f_tree_row_low f_tree_row_high f_tree_row_places f_tree_row_gains f_tree_row_lows f_tree_row_highs f_tree_weights f_tree_carried p1 _ hw) (cwV 1 hts gX5_node_X4_openOf rfl rfl rfl vX4_openOf ⟨Nat.le_of_ble_eq_true rfl, Nat.le_of_ble_eq_true rfl⟩) hK (hP.sub [1, 2, 3, 4, 5, 6, 7] rfl) (va_recv hK.1 (hP.sub (ws' := [(a_tree, .inr (3, [.ref a_tree_row, .ref a_tree_weights, .ref a_tree_carried]))]) [1] rfl) (ci := 3) (q0 := 0) rfl rfl) rfl hl.1 rfl (Nat.le_of_ble_eq_true rfl) dX5_node_89 ⟨Nat.zero_le _, Nat.zero_le _⟩ (fun r_4 hw => ?_)
      exact z_iret hx hb hr hlk hw dX5_node_92
    by_cases c_5 : p2 = 1
    · have hw := hw.2.1 c_5
      refine lv_tableIn (tgt := 93) (off := 79) hx hb dX5_node_14 (by rw [c_5]; decide) (by rw [c_5]; decide) (by rw [c_5]; decide) (by decide) ?_
      refine lv_aload_n hx hb dX5_node_93 rfl (lv_at hl 0 rfl) ?_
      refine va_get (D := D) (ci := 4) (v := .ref a_tree) (C := RX5) (T := TX5) (N := 7) hx hb hts iwX5 hown hK.1 hP 0 rfl rfl 0 (by decide) kf12 (fun _ h9 => h9) rfl dX5_node_94 ?_
      refine lv_iload_n hx hb dX5_node_97 rfl (lv_at hl 1 rfl) ?_
      refine z_ri [.int p1] [] ⟨hx, hb, hml, hown, hts⟩ (kX4_closeOf l D cA a_tree a_tree_row a_tree_weights a_tree_carried a_tree_row_gains a_tree_row_lows a_tree_row_highs f_tree_row_low f_tree_row_high f_tree_row_places f_tree_row_gains f_tree_row_lows f_tree_row_highs f_tree_weights f_tree_carried p1 _ hw) (cwV 1 hts gX5_node_X4_closeOf rfl rfl rfl vX4_closeOf ⟨Nat.le_of_ble_eq_true rfl, Nat.le_of_ble_eq_true rfl⟩) hK (hP.sub [1, 2, 3, 4, 5, 6, 7] rfl) (va_recv hK.1 (hP.sub (ws' := [(a_tree, .inr (3, [.ref a_tree_row, .ref a_tree_weights, .ref a_tree_carried]))]) [1] rfl) (ci := 3) (q0 := 0) rfl rfl) rfl hl.1 rfl (Nat.le_of_ble_eq_true rfl) dX5_node_98 ⟨Nat.zero_le _, Nat.zero_le _⟩ (fun r_6 hw => ?_)
      exact z_iret hx hb hr hlk hw dX5_node_101
    by_cases c_7 : p2 = 2
    · have hw := hw.2.2.1 c_7
      refine lv_tableIn (tgt := 102) (off := 88) hx hb dX5_node_14 (by rw [c_7]; decide) (by rw [c_7]; decide) (by rw [c_7]; decide) (by decide) ?_
      refine lv_aload_n hx hb dX5_node_102 rfl (lv_at hl 0 rfl) ?_
      refine va_get (D := D) (ci := 4) (v := .ref a_tree) (C := RX5) (T := TX5) (N := 7) hx hb hts iwX5 hown hK.1 hP 0 rfl rfl 0 (by decide) kf12 (fun _ h9 => h9) rfl dX5_node_103 ?_
      refine lv_iload_n hx hb dX5_node_106 rfl (lv_at hl 1 rfl) ?_
      refine z_ri [.int p1] [] ⟨hx, hb, hml, hown, hts⟩ (kX4_depthOf l D cA a_tree a_tree_row a_tree_weights a_tree_carried a_tree_row_gains a_tree_row_lows a_tree_row_highs f_tree_row_low f_tree_row_high f_tree_row_places f_tree_row_gains f_tree_row_lows f_tree_row_highs f_tree_weights f_tree_carried p1 _ hw) (cwV 1 hts gX5_node_X4_depthOf rfl rfl rfl vX4_depthOf ⟨Nat.le_of_ble_eq_true rfl, Nat.le_of_ble_eq_true rfl⟩) hK (hP.sub [1, 2, 3, 4, 5, 6, 7] rfl) (va_recv hK.1 (hP.sub (ws' := [(a_tree, .inr (3, [.ref a_tree_row, .ref a_tree_weights, .ref a_tree_carried]))]) [1] rfl) (ci := 3) (q0 := 0) rfl rfl) rfl hl.1 rfl (Nat.le_of_ble_eq_true rfl) dX5_node_107 ⟨Nat.zero_le _, Nat.zero_le _⟩ (fun r_8 hw => ?_)
      exact z_iret hx hb hr hlk hw dX5_node_110
    by_cases c_9 : p2 = 3
    · have hw := hw.2.2.2.1 c_9
      refine lv_tableIn (tgt := 111) (off := 97) hx hb dX5_node_14 (by rw [c_9]; decide) (by rw [c_9]; decide) (by rw [c_9]; decide) (by decide) ?_
      refine lv_aload_n hx hb dX5_node_111 rfl (lv_at hl 0 rfl) ?_
      refine va_get (D := D) (ci := 4) (v := .ref a_tree) (C := RX5) (T := TX5) (N := 7) hx hb hts iwX5 hown hK.1 hP 0 rfl rfl 0 (by decide) kf12 (fun _ h9 => h9) rfl dX5_node_112 ?_
      refine lv_iload_n hx hb dX5_node_115 rfl (lv_at hl 1 rfl) ?_
      refine lv_iconst (v := 1) hx hb dX5_node_116 (by decide) ?_
      refine z_ri [.int p1, .int (1 : Int32)] [] ⟨hx, hb, hml, hown, hts⟩ (kX4_aboveBy l D cA a_tree a_tree_row a_tree_weights a_tree_carried a_tree_row_gains a_tree_row_lows a_tree_row_highs f_tree_row_low f_tree_row_high f_tree_row_places f_tree_row_gains f_tree_row_lows f_tree_row_highs f_tree_weights f_tree_carried p1 (1 : Int32) _ hw) (cwV 2 hts gX5_node_X4_aboveBy rfl rfl rfl vX4_aboveBy ⟨Nat.le_of_ble_eq_true rfl, Nat.le_of_ble_eq_true rfl⟩) hK (hP.sub [1, 2, 3, 4, 5, 6, 7] rfl) (va_recv hK.1 (hP.sub (ws' := [(a_tree, .inr (3, [.ref a_tree_row, .ref a_tree_weights, .ref a_tree_carried]))]) [1] rfl) (ci := 3) (q0 := 0) rfl rfl) rfl hl.1 rfl (Nat.le_of_ble_eq_true rfl) dX5_node_117 ⟨Nat.zero_le _, Nat.zero_le _⟩ (fun r_10 hw => ?_)
      exact z_iret hx hb hr hlk hw dX5_node_120
    by_cases c_11 : p2 = 4
    · have hw := hw.2.2.2.2.1 c_11
      refine lv_tableIn (tgt := 121) (off := 107) hx hb dX5_node_14 (by rw [c_11]; decide) (by rw [c_11]; decide) (by rw [c_11]; decide) (by decide) ?_
      refine lv_aload_n hx hb dX5_node_121 rfl (lv_at hl 0 rfl) ?_
      refine va_get (D := D) (ci := 4) (v := .ref a_tree) (C := RX5) (T := TX5) (N := 7) hx hb hts iwX5 hown hK.1 hP 0 rfl rfl 0 (by decide) kf12 (fun _ h9 => h9) rfl dX5_node_122 ?_
      refine lv_iload_n hx hb dX5_node_125 rfl (lv_at hl 1 rfl) ?_
      refine z_ri [.int p1] [] ⟨hx, hb, hml, hown, hts⟩ (kX4_firstChildOf l D cA a_tree a_tree_row a_tree_weights a_tree_carried a_tree_row_gains a_tree_row_lows a_tree_row_highs f_tree_row_low f_tree_row_high f_tree_row_places f_tree_row_gains f_tree_row_lows f_tree_row_highs f_tree_weights f_tree_carried p1 _ hw) (cwV 1 hts gX5_node_X4_firstChildOf rfl rfl rfl vX4_firstChildOf ⟨Nat.le_of_ble_eq_true rfl, Nat.le_of_ble_eq_true rfl⟩) hK (hP.sub [1, 2, 3, 4, 5, 6, 7] rfl) (va_recv hK.1 (hP.sub (ws' := [(a_tree, .inr (3, [.ref a_tree_row, .ref a_tree_weights, .ref a_tree_carried]))]) [1] rfl) (ci := 3) (q0 := 0) rfl rfl) rfl hl.1 rfl (Nat.le_of_ble_eq_true rfl) dX5_node_126 ⟨Nat.zero_le _, Nat.zero_le _⟩ (fun r_12 hw => ?_)
      exact z_iret hx hb hr hlk hw dX5_node_129
    by_cases c_13 : p2 = 5
    · have hw := hw.2.2.2.2.2.1 c_13
      refine lv_tableIn (tgt := 130) (off := 116) hx hb dX5_node_14 (by rw [c_13]; decide) (by rw [c_13]; decide) (by rw [c_13]; decide) (by decide) ?_
      refine lv_aload_n hx hb dX5_node_130 rfl (lv_at hl 0 rfl) ?_
      refine va_get (D := D) (ci := 4) (v := .ref a_tree) (C := RX5) (T := TX5) (N := 7) hx hb hts iwX5 hown hK.1 hP 0 rfl rfl 0 (by decide) kf12 (fun _ h9 => h9) rfl dX5_node_131 ?_
      refine lv_iload_n hx hb dX5_node_134 rfl (lv_at hl 1 rfl) ?_
      refine z_ri [.int p1] [] ⟨hx, hb, hml, hown, hts⟩ (kX4_lastChildOf l D cA a_tree a_tree_row a_tree_weights a_tree_carried a_tree_row_gains a_tree_row_lows a_tree_row_highs f_tree_row_low f_tree_row_high f_tree_row_places f_tree_row_gains f_tree_row_lows f_tree_row_highs f_tree_weights f_tree_carried p1 _ hw) (cwV 1 hts gX5_node_X4_lastChildOf rfl rfl rfl vX4_lastChildOf ⟨Nat.le_of_ble_eq_true rfl, Nat.le_of_ble_eq_true rfl⟩) hK (hP.sub [1, 2, 3, 4, 5, 6, 7] rfl) (va_recv hK.1 (hP.sub (ws' := [(a_tree, .inr (3, [.ref a_tree_row, .ref a_tree_weights, .ref a_tree_carried]))]) [1] rfl) (ci := 3) (q0 := 0) rfl rfl) rfl hl.1 rfl (Nat.le_of_ble_eq_true rfl) dX5_node_135 ⟨Nat.zero_le _, Nat.zero_le _⟩ (fun r_14 hw => ?_)
      exact z_iret hx hb hr hlk hw dX5_node_138
    by_cases c_15 : p2 = 6
    · have hw := hw.2.2.2.2.2.2.1 c_15
      refine lv_tableIn (tgt := 139) (off := 125) hx hb dX5_node_14 (by rw [c_15]; decide) (by rw [c_15]; decide) (by rw [c_15]; decide) (by decide) ?_
      refine lv_aload_n hx hb dX5_node_139 rfl (lv_at hl 0 rfl) ?_
      refine va_get (D := D) (ci := 4) (v := .ref a_tree) (C := RX5) (T := TX5) (N := 7) hx hb hts iwX5 hown hK.1 hP 0 rfl rfl 0 (by decide) kf12 (fun _ h9 => h9) rfl dX5_node_140 ?_
      refine lv_iload_n hx hb dX5_node_143 rfl (lv_at hl 1 rfl) ?_
      refine z_ri [.int p1] [] ⟨hx, hb, hml, hown, hts⟩ (kX4_nextChildAfter l D cA a_tree a_tree_row a_tree_weights a_tree_carried a_tree_row_gains a_tree_row_lows a_tree_row_highs f_tree_row_low f_tree_row_high f_tree_row_places f_tree_row_gains f_tree_row_lows f_tree_row_highs f_tree_weights f_tree_carried p1 _ hw) (cwV 1 hts gX5_node_X4_nextChildAfter rfl rfl rfl vX4_nextChildAfter ⟨Nat.le_of_ble_eq_true rfl, Nat.le_of_ble_eq_true rfl⟩) hK (hP.sub [1, 2, 3, 4, 5, 6, 7] rfl) (va_recv hK.1 (hP.sub (ws' := [(a_tree, .inr (3, [.ref a_tree_row, .ref a_tree_weights, .ref a_tree_carried]))]) [1] rfl) (ci := 3) (q0 := 0) rfl rfl) rfl hl.1 rfl (Nat.le_of_ble_eq_true rfl) dX5_node_144 ⟨Nat.zero_le _, Nat.zero_le _⟩ (fun r_16 hw => ?_)
      exact z_iret hx hb hr hlk hw dX5_node_147
    by_cases c_17 : p2 = 7
    · have hw := hw.2.2.2.2.2.2.2.1 c_17
      refine lv_tableIn (tgt := 148) (off := 134) hx hb dX5_node_14 (by rw [c_17]; decide) (by rw [c_17]; decide) (by rw [c_17]; decide) (by decide) ?_
      refine lv_aload_n hx hb dX5_node_148 rfl (lv_at hl 0 rfl) ?_
      refine va_get (D := D) (ci := 4) (v := .ref a_tree) (C := RX5) (T := TX5) (N := 7) hx hb hts iwX5 hown hK.1 hP 0 rfl rfl 0 (by decide) kf12 (fun _ h9 => h9) rfl dX5_node_149 ?_
      refine lv_iload_n hx hb dX5_node_152 rfl (lv_at hl 1 rfl) ?_
      refine z_ri [.int p1] [] ⟨hx, hb, hml, hown, hts⟩ (kX4_childBefore l D cA a_tree a_tree_row a_tree_weights a_tree_carried a_tree_row_gains a_tree_row_lows a_tree_row_highs f_tree_row_low f_tree_row_high f_tree_row_places f_tree_row_gains f_tree_row_lows f_tree_row_highs f_tree_weights f_tree_carried p1 _ hw) (cwV 1 hts gX5_node_X4_childBefore rfl rfl rfl vX4_childBefore ⟨Nat.le_of_ble_eq_true rfl, Nat.le_of_ble_eq_true rfl⟩) hK (hP.sub [1, 2, 3, 4, 5, 6, 7] rfl) (va_recv hK.1 (hP.sub (ws' := [(a_tree, .inr (3, [.ref a_tree_row, .ref a_tree_weights, .ref a_tree_carried]))]) [1] rfl) (ci := 3) (q0 := 0) rfl rfl) rfl hl.1 rfl (Nat.le_of_ble_eq_true rfl) dX5_node_153 ⟨Nat.zero_le _, Nat.zero_le _⟩ (fun r_18 hw => ?_)
      exact z_iret hx hb hr hlk hw dX5_node_156
    by_cases c_19 : p2 = 8
    · have hw := hw.2.2.2.2.2.2.2.2.1 c_19
      refine lv_tableIn (tgt := 157) (off := 143) hx hb dX5_node_14 (by rw [c_19]; decide) (by rw [c_19]; decide) (by rw [c_19]; decide) (by decide) ?_
      refine lv_aload_n hx hb dX5_node_157 rfl (lv_at hl 0 rfl) ?_
      refine va_get (D := D) (ci := 4) (v := .ref a_tree) (C := RX5) (T := TX5) (N := 7) hx hb hts iwX5 hown hK.1 hP 0 rfl rfl 0 (by decide) kf12 (fun _ h9 => h9) rfl dX5_node_158 ?_
      refine lv_iload_n hx hb dX5_node_161 rfl (lv_at hl 1 rfl) ?_
      refine z_ri [.int p1] [] ⟨hx, hb, hml, hown, hts⟩ (kX4_childrenOf l D cA a_tree a_tree_row a_tree_weights a_tree_carried a_tree_row_gains a_tree_row_lows a_tree_row_highs f_tree_row_low f_tree_row_high f_tree_row_places f_tree_row_gains f_tree_row_lows f_tree_row_highs f_tree_weights f_tree_carried p1 _ hw) (cwV 1 hts gX5_node_X4_childrenOf rfl rfl rfl vX4_childrenOf ⟨Nat.le_of_ble_eq_true rfl, Nat.le_of_ble_eq_true rfl⟩) hK (hP.sub [1, 2, 3, 4, 5, 6, 7] rfl) (va_recv hK.1 (hP.sub (ws' := [(a_tree, .inr (3, [.ref a_tree_row, .ref a_tree_weights, .ref a_tree_carried]))]) [1] rfl) (ci := 3) (q0 := 0) rfl rfl) rfl hl.1 rfl (Nat.le_of_ble_eq_true rfl) dX5_node_162 ⟨Nat.zero_le _, Nat.zero_le _⟩ (fun r_20 hw => ?_)
      exact z_iret hx hb hr hlk hw dX5_node_165
    by_cases c_21 : p2 = 9
    · have hw := hw.2.2.2.2.2.2.2.2.2.1 c_21
      refine lv_tableIn (tgt := 166) (off := 152) hx hb dX5_node_14 (by rw [c_21]; decide) (by rw [c_21]; decide) (by rw [c_21]; decide) (by decide) ?_
      refine lv_aload_n hx hb dX5_node_166 rfl (lv_at hl 0 rfl) ?_
      refine va_get (D := D) (ci := 4) (v := .ref a_tree) (C := RX5) (T := TX5) (N := 7) hx hb hts iwX5 hown hK.1 hP 0 rfl rfl 0 (by decide) kf12 (fun _ h9 => h9) rfl dX5_node_167 ?_
      refine lv_iload_n hx hb dX5_node_170 rfl (lv_at hl 1 rfl) ?_
      refine z_ri [.int p1] [] ⟨hx, hb, hml, hown, hts⟩ (kX4_nodesOf l D cA a_tree a_tree_row a_tree_weights a_tree_carried a_tree_row_gains a_tree_row_lows a_tree_row_highs f_tree_row_low f_tree_row_high f_tree_row_places f_tree_row_gains f_tree_row_lows f_tree_row_highs f_tree_weights f_tree_carried p1 _ hw) (cwV 1 hts gX5_node_X4_nodesOf rfl rfl rfl vX4_nodesOf ⟨Nat.le_of_ble_eq_true rfl, Nat.le_of_ble_eq_true rfl⟩) hK (hP.sub [1, 2, 3, 4, 5, 6, 7] rfl) (va_recv hK.1 (hP.sub (ws' := [(a_tree, .inr (3, [.ref a_tree_row, .ref a_tree_weights, .ref a_tree_carried]))]) [1] rfl) (ci := 3) (q0 := 0) rfl rfl) rfl hl.1 rfl (Nat.le_of_ble_eq_true rfl) dX5_node_171 ⟨Nat.zero_le _, Nat.zero_le _⟩ (fun r_22 hw => ?_)
      exact z_iret hx hb hr hlk hw dX5_node_174
    by_cases c_23 : p2 = 10
    · have hw := hw.2.2.2.2.2.2.2.2.2.2.1 c_23
      refine lv_tableIn (tgt := 175) (off := 161) hx hb dX5_node_14 (by rw [c_23]; decide) (by rw [c_23]; decide) (by rw [c_23]; decide) (by decide) ?_
      refine lv_aload_n hx hb dX5_node_175 rfl (lv_at hl 0 rfl) ?_
      refine va_get (D := D) (ci := 4) (v := .ref a_tree) (C := RX5) (T := TX5) (N := 7) hx hb hts iwX5 hown hK.1 hP 0 rfl rfl 0 (by decide) kf12 (fun _ h9 => h9) rfl dX5_node_176 ?_
      refine lv_iload_n hx hb dX5_node_179 rfl (lv_at hl 1 rfl) ?_
      refine z_ri [.int p1] [] ⟨hx, hb, hml, hown, hts⟩ (kX4_leavesOf l D cA a_tree a_tree_row a_tree_weights a_tree_carried a_tree_row_gains a_tree_row_lows a_tree_row_highs f_tree_row_low f_tree_row_high f_tree_row_places f_tree_row_gains f_tree_row_lows f_tree_row_highs f_tree_weights f_tree_carried p1 _ hw) (cwV 1 hts gX5_node_X4_leavesOf rfl rfl rfl vX4_leavesOf ⟨Nat.le_of_ble_eq_true rfl, Nat.le_of_ble_eq_true rfl⟩) hK (hP.sub [1, 2, 3, 4, 5, 6, 7] rfl) (va_recv hK.1 (hP.sub (ws' := [(a_tree, .inr (3, [.ref a_tree_row, .ref a_tree_weights, .ref a_tree_carried]))]) [1] rfl) (ci := 3) (q0 := 0) rfl rfl) rfl hl.1 rfl (Nat.le_of_ble_eq_true rfl) dX5_node_180 ⟨Nat.zero_le _, Nat.zero_le _⟩ (fun r_24 hw => ?_)
      exact z_iret hx hb hr hlk hw dX5_node_183
    by_cases c_25 : p2 = 11
    · have hw := hw.2.2.2.2.2.2.2.2.2.2.2.1 c_25
      refine lv_tableIn (tgt := 184) (off := 170) hx hb dX5_node_14 (by rw [c_25]; decide) (by rw [c_25]; decide) (by rw [c_25]; decide) (by decide) ?_
      refine lv_aload_n hx hb dX5_node_184 rfl (lv_at hl 0 rfl) ?_
      refine va_get (D := D) (ci := 4) (v := .ref a_tree) (C := RX5) (T := TX5) (N := 7) hx hb hts iwX5 hown hK.1 hP 0 rfl rfl 0 (by decide) kf12 (fun _ h9 => h9) rfl dX5_node_185 ?_
      refine lv_iload_n hx hb dX5_node_188 rfl (lv_at hl 1 rfl) ?_
      refine z_ri [.int p1] [] ⟨hx, hb, hml, hown, hts⟩ (kX4_heightOf l D cA a_tree a_tree_row a_tree_weights a_tree_carried a_tree_row_gains a_tree_row_lows a_tree_row_highs f_tree_row_low f_tree_row_high f_tree_row_places f_tree_row_gains f_tree_row_lows f_tree_row_highs f_tree_weights f_tree_carried p1 _ hw) (cwV 1 hts gX5_node_X4_heightOf rfl rfl rfl vX4_heightOf ⟨Nat.le_of_ble_eq_true rfl, Nat.le_of_ble_eq_true rfl⟩) hK (hP.sub [1, 2, 3, 4, 5, 6, 7] rfl) (va_recv hK.1 (hP.sub (ws' := [(a_tree, .inr (3, [.ref a_tree_row, .ref a_tree_weights, .ref a_tree_carried]))]) [1] rfl) (ci := 3) (q0 := 0) rfl rfl) rfl hl.1 rfl (Nat.le_of_ble_eq_true rfl) dX5_node_189 ⟨Nat.zero_le _, Nat.zero_le _⟩ (fun r_26 hw => ?_)
      exact z_iret hx hb hr hlk hw dX5_node_192
    by_cases c_27 : p2 = 12
    · have hw := hw.2.2.2.2.2.2.2.2.2.2.2.2.1 c_27
      refine lv_tableIn (tgt := 193) (off := 179) hx hb dX5_node_14 (by rw [c_27]; decide) (by rw [c_27]; decide) (by rw [c_27]; decide) (by decide) ?_
      refine lv_aload_n hx hb dX5_node_193 rfl (lv_at hl 0 rfl) ?_
      refine va_get (D := D) (ci := 4) (v := .ref a_tree) (C := RX5) (T := TX5) (N := 7) hx hb hts iwX5 hown hK.1 hP 0 rfl rfl 0 (by decide) kf12 (fun _ h9 => h9) rfl dX5_node_194 ?_
      refine va_getN (own := RX5) (index := 70) (ref := "ExcessTree$Tree") (host := "ExcessTree") (D := D) (ci := 3) (v := .ref a_tree_row) (C := RX4) (T := TX4) (N := 3) hx hb hts iwX4 hown hK.1 hP 1 rfl rfl 0 (by decide) kn70 (fun _ h9 => h9) rfl dX5_node_197 ?_
      refine lv_aload_n hx hb dX5_node_200 rfl (lv_at hl 0 rfl) ?_
      refine va_get (D := D) (ci := 4) (v := .ref a_tree) (C := RX5) (T := TX5) (N := 7) hx hb hts iwX5 hown hK.1 hP 0 rfl rfl 0 (by decide) kf12 (fun _ h9 => h9) rfl dX5_node_201 ?_
      refine lv_iload_n hx hb dX5_node_204 rfl (lv_at hl 1 rfl) ?_
      refine z_ri [.int p1] [.ref a_tree_row] ⟨hx, hb, hml, hown, hts⟩ (kX4_closeOf l D cA a_tree a_tree_row a_tree_weights a_tree_carried a_tree_row_gains a_tree_row_lows a_tree_row_highs f_tree_row_low f_tree_row_high f_tree_row_places f_tree_row_gains f_tree_row_lows f_tree_row_highs f_tree_weights f_tree_carried p1 _ hw) (cwV 1 hts gX5_node_X4_closeOf rfl rfl rfl vX4_closeOf ⟨Nat.le_of_ble_eq_true rfl, Nat.le_of_ble_eq_true rfl⟩) hK (hP.sub [1, 2, 3, 4, 5, 6, 7] rfl) (va_recv hK.1 (hP.sub (ws' := [(a_tree, .inr (3, [.ref a_tree_row, .ref a_tree_weights, .ref a_tree_carried]))]) [1] rfl) (ci := 3) (q0 := 0) rfl rfl) rfl hl.1 rfl (Nat.le_of_ble_eq_true rfl) dX5_node_205 ⟨Nat.zero_le _, Nat.zero_le _⟩ (fun r_28 hw => ?_)
      refine lv_iconst (v := 1) hx hb dX5_node_208 (by decide) ?_
      refine z_ri [.int r_28, .int (1 : Int32)] [] ⟨hx, hb, hml, hown, hts⟩ (kX1_signsAhead l D cA a_tree_row a_tree_row_gains a_tree_row_lows a_tree_row_highs f_tree_row_low f_tree_row_high f_tree_row_places f_tree_row_gains f_tree_row_lows f_tree_row_highs r_28 (1 : Int32) _ hw) (cwV 2 hts gX5_node_X1_signsAhead rfl rfl rfl vX1_signsAhead ⟨Nat.le_of_ble_eq_true rfl, Nat.le_of_ble_eq_true rfl⟩) hK (hP.sub [2, 3, 4, 5] rfl) (va_recv hK.1 (hP.sub (ws' := [(a_tree_row, .inr (0, [.long f_tree_row_low, .long f_tree_row_high, .int f_tree_row_places, .ref a_tree_row_gains, .ref a_tree_row_lows, .ref a_tree_row_highs]))]) [2] rfl) (ci := 0) (q0 := 0) rfl rfl) rfl hl.1 rfl (Nat.le_of_ble_eq_true rfl) dX5_node_209 ⟨Nat.zero_le _, Nat.zero_le _⟩ (fun r_29 hw => ?_)
      exact z_iret hx hb hr hlk hw dX5_node_212
    by_cases c_30 : p2 = 13
    · have hw := hw.2.2.2.2.2.2.2.2.2.2.2.2.2.1 c_30
      refine lv_tableIn (tgt := 213) (off := 199) hx hb dX5_node_14 (by rw [c_30]; decide) (by rw [c_30]; decide) (by rw [c_30]; decide) (by decide) ?_
      refine lv_aload_n hx hb dX5_node_213 rfl (lv_at hl 0 rfl) ?_
      refine va_get (D := D) (ci := 4) (v := .ref a_tree) (C := RX5) (T := TX5) (N := 7) hx hb hts iwX5 hown hK.1 hP 0 rfl rfl 0 (by decide) kf12 (fun _ h9 => h9) rfl dX5_node_214 ?_
      refine lv_iload_n hx hb dX5_node_217 rfl (lv_at hl 1 rfl) ?_
      refine z_ri [.int p1] [] ⟨hx, hb, hml, hown, hts⟩ (kX4_orderOf l D cA a_tree a_tree_row a_tree_weights a_tree_carried a_tree_row_gains a_tree_row_lows a_tree_row_highs f_tree_row_low f_tree_row_high f_tree_row_places f_tree_row_gains f_tree_row_lows f_tree_row_highs f_tree_weights f_tree_carried p1 _ hw) (cwV 1 hts gX5_node_X4_orderOf rfl rfl rfl vX4_orderOf ⟨Nat.le_of_ble_eq_true rfl, Nat.le_of_ble_eq_true rfl⟩) hK (hP.sub [1, 2, 3, 4, 5, 6, 7] rfl) (va_recv hK.1 (hP.sub (ws' := [(a_tree, .inr (3, [.ref a_tree_row, .ref a_tree_weights, .ref a_tree_carried]))]) [1] rfl) (ci := 3) (q0 := 0) rfl rfl) rfl hl.1 rfl (Nat.le_of_ble_eq_true rfl) dX5_node_218 ⟨Nat.zero_le _, Nat.zero_le _⟩ (fun r_31 hw => ?_)
      exact z_iret hx hb hr hlk hw dX5_node_221
    have hw := hw.2.2.2.2.2.2.2.2.2.2.2.2.2.2 c_3 c_5 c_7 c_9 c_11 c_13 c_15 c_17 c_19 c_21 c_23 c_25 c_27 c_30
    refine lv_tableOut (tgt := 222) hx hb dX5_node_14 (by have q0 := lv_neT c_3 (a := 0) (by decide); have q1 := lv_neT c_5 (a := 1) (by decide); have q2 := lv_neT c_7 (a := 2) (by decide); have q3 := lv_neT c_9 (a := 3) (by decide); have q4 := lv_neT c_11 (a := 4) (by decide); have q5 := lv_neT c_13 (a := 5) (by decide); have q6 := lv_neT c_15 (a := 6) (by decide); have q7 := lv_neT c_17 (a := 7) (by decide); have q8 := lv_neT c_19 (a := 8) (by decide); have q9 := lv_neT c_21 (a := 9) (by decide); have q10 := lv_neT c_23 (a := 10) (by decide); have q11 := lv_neT c_25 (a := 11) (by decide); have q12 := lv_neT c_27 (a := 12) (by decide); have q13 := lv_neT c_30 (a := 13) (by decide); omega) (by decide) ?_
    refine lv_iconst (v := -1) hx hb dX5_node_222 (by decide) ?_
    exact z_iret hx hb hr hlk hw dX5_node_223
  · have hw := hw.2 c_2
    refine lv_iconst (v := -1) hx hb dX5_node_11 (by decide) ?_
    exact z_iret hx hb hr hlk hw dX5_node_12
def wX5_child (f_tree_row_low : Int64) (f_tree_row_high : Int64) (f_tree_row_places : Int32) (f_tree_row_gains : Nat → Int32) (f_tree_row_lows : Nat → Int32) (f_tree_row_highs : Nat → Int32) (p1 : Int32) (p2 : Int32) (post : Int32 → Prop) : Prop := (wX4_has f_tree_row_places p1 (fun r_1 : Int32 => (((r_1 = 0 → post (-1 : Int32)) ∧ (¬ r_1 = 0 → ((0 ≤ p2 → (wX4_childAt f_tree_row_low f_tree_row_high f_tree_row_places f_tree_row_gains f_tree_row_lows f_tree_row_highs p1 p2 (fun r_4 : Int32 => (post r_4)))) ∧ (¬ 0 ≤ p2 → post (-1 : Int32))))))))
abbrev rX5_child : Room := { frames := 6, cells := 0, slots := 0, locals := 143 }
theorem vX5_child : yX5_child.cls = RX5 ∧ yX5_child.cls ≠ "java/lang/invoke/MethodHandle" ∧ yX5_child.cls ≠ "java/lang/invoke/VarHandle" ∧ (parseMethodDescriptor yX5_child.desc).map (fun d => d.parameters.length) = some 2 := by decide +kernel
set_option maxHeartbeats 4000000 in
set_option maxRecDepth 100000 in
theorem kX5_child (l : Launch) (D : va_G) (cA : Nat → ClassId) (a0 a_tree a_draft a_images a_kept a_tape a_sheets a_tree_row a_tree_weights a_tree_carried a_tree_row_gains a_tree_row_lows a_tree_row_highs : Nat) (f_latestTorn : Int32) (f_tree_row_low : Int64) (f_tree_row_high : Int64) (f_tree_row_places : Int32) (f_tree_row_gains : Nat → Int32) (f_tree_row_lows : Nat → Int32) (f_tree_row_highs : Nat → Int32) (f_tree_weights : Nat → Int32) (f_tree_carried : Nat → Int32) (p1 : Int32) (p2 : Int32) (post : Int32 → Prop) (h : wX5_child f_tree_row_low f_tree_row_high f_tree_row_places f_tree_row_gains f_tree_row_lows f_tree_row_highs p1 p2 post) : Met l yX5_child wsX5_child rX5_child (zPr D cA [.ref a0, .int p1, .int p2] [(a0, .inr (4, [.ref a_tree, .ref a_draft, .ref a_images, .ref a_kept, .ref a_tape, .ref a_sheets, .int f_latestTorn])), (a_tree, .inr (3, [.ref a_tree_row, .ref a_tree_weights, .ref a_tree_carried])), (a_tree_row, .inr (0, [.long f_tree_row_low, .long f_tree_row_high, .int f_tree_row_places, .ref a_tree_row_gains, .ref a_tree_row_lows, .ref a_tree_row_highs])), (a_tree_row_gains, .inl (cA 0, 8, .inl f_tree_row_gains)), (a_tree_row_lows, .inl (cA 0, 8, .inl f_tree_row_lows)), (a_tree_row_highs, .inl (cA 0, 8, .inl f_tree_row_highs)), (a_tree_weights, .inl (cA 0, 64, .inl f_tree_weights)), (a_tree_carried, .inl (cA 0, 64, .inl f_tree_carried))]) (vp_Si post) 0 0 (fun _ => False) := by
  refine z_ro (cc := cX5_child) (maxL := 3) (ret := (some .int)) (by decide) rfl (Nat.le_of_ble_eq_true rfl) ?_
  intro p e s m args below meth c ls hx hb hr hlk hml hown hts hK hP hl
  have hown : s.vm.findClass RX5 = some m.cls := hown
  have hl : lv_has ls 3 [(0, .ref a0), (1, .int p1), (2, .int p2)] := hl
  have hw := h
  unfold wX5_child at hw
  have iwX5 : ∀ w ∈ wsX50, w ∈ wsX5_child := fun w h9 => List.mem_cons_of_mem _ (List.mem_append_left _ (List.mem_append_left _ (List.mem_append_right _ h9)))
  have kf12 := hts (.fieldLink RX5 12 "ExcessTree" "tree" "LExcessTree$Tree;") (by decide +kernel)
  refine lv_aload_n hx hb dX5_child_0 rfl (lv_at hl 0 rfl) ?_
  refine va_get (D := D) (ci := 4) (v := .ref a_tree) (C := RX5) (T := TX5) (N := 7) hx hb hts iwX5 hown hK.1 hP 0 rfl rfl 0 (by decide) kf12 (fun _ h9 => h9) rfl dX5_child_1 ?_
  refine lv_iload_n hx hb dX5_child_4 rfl (lv_at hl 1 rfl) ?_
  refine z_ri [.int p1] [] ⟨hx, hb, hml, hown, hts⟩ (kX4_has l D cA a_tree a_tree_row a_tree_weights a_tree_carried a_tree_row_gains a_tree_row_lows a_tree_row_highs f_tree_row_low f_tree_row_high f_tree_row_places f_tree_row_gains f_tree_row_lows f_tree_row_highs f_tree_weights f_tree_carried p1 _ hw) (cwV 1 hts gX5_child_X4_has rfl rfl rfl vX4_has ⟨Nat.le_of_ble_eq_true rfl, Nat.le_of_ble_eq_true rfl⟩) hK (hP.sub [1, 2, 3, 4, 5, 6, 7] rfl) (va_recv hK.1 (hP.sub (ws' := [(a_tree, .inr (3, [.ref a_tree_row, .ref a_tree_weights, .ref a_tree_carried]))]) [1] rfl) (ci := 3) (q0 := 0) rfl rfl) rfl hl.1 rfl (Nat.le_of_ble_eq_true rfl) dX5_child_5 ⟨Nat.zero_le _, Nat.zero_le _⟩ (fun r_1 hw => ?_)
  refine lv_if_eq (tgt := 15) hx hb dX5_child_8 (by decide) (fun c_2 => ?_) (fun c_2 => ?_)
  · have hw := hw.1 c_2
    refine lv_iconst (v := -1) hx hb dX5_child_15 (by decide) ?_
    exact z_iret hx hb hr hlk hw dX5_child_16
  · have hw := hw.2 c_2
    refine lv_iload_n hx hb dX5_child_11 rfl (lv_at hl 2 rfl) ?_
    refine lv_if_ge (tgt := 17) hx hb dX5_child_12 (by decide) (fun c_3 => ?_) (fun c_3 => ?_)
    · have hw := hw.1 c_3
      refine lv_aload_n hx hb dX5_child_17 rfl (lv_at hl 0 rfl) ?_
      refine va_get (D := D) (ci := 4) (v := .ref a_tree) (C := RX5) (T := TX5) (N := 7) hx hb hts iwX5 hown hK.1 hP 0 rfl rfl 0 (by decide) kf12 (fun _ h9 => h9) rfl dX5_child_18 ?_
      refine lv_iload_n hx hb dX5_child_21 rfl (lv_at hl 1 rfl) ?_
      refine lv_iload_n hx hb dX5_child_22 rfl (lv_at hl 2 rfl) ?_
      refine z_ri [.int p1, .int p2] [] ⟨hx, hb, hml, hown, hts⟩ (kX4_childAt l D cA a_tree a_tree_row a_tree_weights a_tree_carried a_tree_row_gains a_tree_row_lows a_tree_row_highs f_tree_row_low f_tree_row_high f_tree_row_places f_tree_row_gains f_tree_row_lows f_tree_row_highs f_tree_weights f_tree_carried p1 p2 _ hw) (cwV 2 hts gX5_child_X4_childAt rfl rfl rfl vX4_childAt ⟨Nat.le_of_ble_eq_true rfl, Nat.le_of_ble_eq_true rfl⟩) hK (hP.sub [1, 2, 3, 4, 5, 6, 7] rfl) (va_recv hK.1 (hP.sub (ws' := [(a_tree, .inr (3, [.ref a_tree_row, .ref a_tree_weights, .ref a_tree_carried]))]) [1] rfl) (ci := 3) (q0 := 0) rfl rfl) rfl hl.1 rfl (Nat.le_of_ble_eq_true rfl) dX5_child_23 ⟨Nat.zero_le _, Nat.zero_le _⟩ (fun r_4 hw => ?_)
      exact z_iret hx hb hr hlk hw dX5_child_26
    · have hw := hw.2 c_3
      refine lv_iconst (v := -1) hx hb dX5_child_15 (by decide) ?_
      exact z_iret hx hb hr hlk hw dX5_child_16
def wX5_below (f_tree_row_low : Int64) (f_tree_row_high : Int64) (f_tree_row_places : Int32) (f_tree_row_gains : Nat → Int32) (f_tree_row_lows : Nat → Int32) (f_tree_row_highs : Nat → Int32) (p1 : Int32) (post : Int32 → Prop) : Prop := (wX4_has f_tree_row_places p1 (fun r_1 : Int32 => (((¬ r_1 = 0 → (wX1_placeOfSign f_tree_row_low f_tree_row_high f_tree_row_places p1 (1 : Int32) (fun r_3 : Int32 => ((wX4_nodeWithPlace f_tree_row_low f_tree_row_high f_tree_row_places f_tree_row_gains f_tree_row_lows f_tree_row_highs r_3 (fun r_4 : Int32 => (post r_4))))))) ∧ (r_1 = 0 → post (-1 : Int32))))))
abbrev rX5_below : Room := { frames := 5, cells := 0, slots := 0, locals := 108 }
theorem vX5_below : yX5_below.cls = RX5 ∧ yX5_below.cls ≠ "java/lang/invoke/MethodHandle" ∧ yX5_below.cls ≠ "java/lang/invoke/VarHandle" ∧ (parseMethodDescriptor yX5_below.desc).map (fun d => d.parameters.length) = some 1 := by decide +kernel
set_option maxHeartbeats 4000000 in
set_option maxRecDepth 100000 in
theorem kX5_below (l : Launch) (D : va_G) (cA : Nat → ClassId) (a0 a_tree a_draft a_images a_kept a_tape a_sheets a_tree_row a_tree_weights a_tree_carried a_tree_row_gains a_tree_row_lows a_tree_row_highs : Nat) (f_latestTorn : Int32) (f_tree_row_low : Int64) (f_tree_row_high : Int64) (f_tree_row_places : Int32) (f_tree_row_gains : Nat → Int32) (f_tree_row_lows : Nat → Int32) (f_tree_row_highs : Nat → Int32) (f_tree_weights : Nat → Int32) (f_tree_carried : Nat → Int32) (p1 : Int32) (post : Int32 → Prop) (h : wX5_below f_tree_row_low f_tree_row_high f_tree_row_places f_tree_row_gains f_tree_row_lows f_tree_row_highs p1 post) : Met l yX5_below wsX5_below rX5_below (zPr D cA [.ref a0, .int p1] [(a0, .inr (4, [.ref a_tree, .ref a_draft, .ref a_images, .ref a_kept, .ref a_tape, .ref a_sheets, .int f_latestTorn])), (a_tree, .inr (3, [.ref a_tree_row, .ref a_tree_weights, .ref a_tree_carried])), (a_tree_row, .inr (0, [.long f_tree_row_low, .long f_tree_row_high, .int f_tree_row_places, .ref a_tree_row_gains, .ref a_tree_row_lows, .ref a_tree_row_highs])), (a_tree_row_gains, .inl (cA 0, 8, .inl f_tree_row_gains)), (a_tree_row_lows, .inl (cA 0, 8, .inl f_tree_row_lows)), (a_tree_row_highs, .inl (cA 0, 8, .inl f_tree_row_highs)), (a_tree_weights, .inl (cA 0, 64, .inl f_tree_weights)), (a_tree_carried, .inl (cA 0, 64, .inl f_tree_carried))]) (vp_Si post) 0 0 (fun _ => False) := by
  refine z_ro (cc := cX5_below) (maxL := 2) (ret := (some .int)) (by decide) rfl (Nat.le_of_ble_eq_true rfl) ?_
  intro p e s m args below meth c ls hx hb hr hlk hml hown hts hK hP hl
  have hown : s.vm.findClass RX5 = some m.cls := hown
  have hl : lv_has ls 2 [(0, .ref a0), (1, .int p1)] := hl
  have hw := h
  unfold wX5_below at hw
  have iwX5 : ∀ w ∈ wsX50, w ∈ wsX5_below := fun w h9 => List.mem_cons_of_mem _ (List.mem_append_left _ (List.mem_append_left _ (List.mem_append_right _ h9)))
  have kf12 := hts (.fieldLink RX5 12 "ExcessTree" "tree" "LExcessTree$Tree;") (by decide +kernel)
  have iwX4 : ∀ w ∈ wsX40, w ∈ wsX5_below := fun w h9 => List.mem_cons_of_mem _ (List.mem_append_left _ (List.mem_append_right _ h9))
  have kn70 := hK.nest (A := args) 5 rfl
  refine lv_aload_n hx hb dX5_below_0 rfl (lv_at hl 0 rfl) ?_
  refine va_get (D := D) (ci := 4) (v := .ref a_tree) (C := RX5) (T := TX5) (N := 7) hx hb hts iwX5 hown hK.1 hP 0 rfl rfl 0 (by decide) kf12 (fun _ h9 => h9) rfl dX5_below_1 ?_
  refine lv_iload_n hx hb dX5_below_4 rfl (lv_at hl 1 rfl) ?_
  refine z_ri [.int p1] [] ⟨hx, hb, hml, hown, hts⟩ (kX4_has l D cA a_tree a_tree_row a_tree_weights a_tree_carried a_tree_row_gains a_tree_row_lows a_tree_row_highs f_tree_row_low f_tree_row_high f_tree_row_places f_tree_row_gains f_tree_row_lows f_tree_row_highs f_tree_weights f_tree_carried p1 _ hw) (cwV 1 hts gX5_below_X4_has rfl rfl rfl vX4_has ⟨Nat.le_of_ble_eq_true rfl, Nat.le_of_ble_eq_true rfl⟩) hK (hP.sub [1, 2, 3, 4, 5, 6, 7] rfl) (va_recv hK.1 (hP.sub (ws' := [(a_tree, .inr (3, [.ref a_tree_row, .ref a_tree_weights, .ref a_tree_carried]))]) [1] rfl) (ci := 3) (q0 := 0) rfl rfl) rfl hl.1 rfl (Nat.le_of_ble_eq_true rfl) dX5_below_5 ⟨Nat.zero_le _, Nat.zero_le _⟩ (fun r_1 hw => ?_)
  refine lv_if_ne (tgt := 13) hx hb dX5_below_8 (by decide) (fun c_2 => ?_) (fun c_2 => ?_)
  · have hw := hw.1 c_2
    refine lv_aload_n hx hb dX5_below_13 rfl (lv_at hl 0 rfl) ?_
    refine va_get (D := D) (ci := 4) (v := .ref a_tree) (C := RX5) (T := TX5) (N := 7) hx hb hts iwX5 hown hK.1 hP 0 rfl rfl 0 (by decide) kf12 (fun _ h9 => h9) rfl dX5_below_14 ?_
    refine lv_aload_n hx hb dX5_below_17 rfl (lv_at hl 0 rfl) ?_
    refine va_get (D := D) (ci := 4) (v := .ref a_tree) (C := RX5) (T := TX5) (N := 7) hx hb hts iwX5 hown hK.1 hP 0 rfl rfl 0 (by decide) kf12 (fun _ h9 => h9) rfl dX5_below_18 ?_
    refine va_getN (own := RX5) (index := 70) (ref := "ExcessTree$Tree") (host := "ExcessTree") (D := D) (ci := 3) (v := .ref a_tree_row) (C := RX4) (T := TX4) (N := 3) hx hb hts iwX4 hown hK.1 hP 1 rfl rfl 0 (by decide) kn70 (fun _ h9 => h9) rfl dX5_below_21 ?_
    refine lv_iload_n hx hb dX5_below_24 rfl (lv_at hl 1 rfl) ?_
    refine lv_iconst (v := 1) hx hb dX5_below_25 (by decide) ?_
    refine z_ri [.int p1, .int (1 : Int32)] [.ref a_tree] ⟨hx, hb, hml, hown, hts⟩ (kX1_placeOfSign l D cA a_tree_row a_tree_row_gains a_tree_row_lows a_tree_row_highs f_tree_row_low f_tree_row_high f_tree_row_places f_tree_row_gains f_tree_row_lows f_tree_row_highs p1 (1 : Int32) _ hw) (cwV 2 hts gX5_below_X1_placeOfSign rfl rfl rfl vX1_placeOfSign ⟨Nat.le_of_ble_eq_true rfl, Nat.le_of_ble_eq_true rfl⟩) hK (hP.sub [2, 3, 4, 5] rfl) (va_recv hK.1 (hP.sub (ws' := [(a_tree_row, .inr (0, [.long f_tree_row_low, .long f_tree_row_high, .int f_tree_row_places, .ref a_tree_row_gains, .ref a_tree_row_lows, .ref a_tree_row_highs]))]) [2] rfl) (ci := 0) (q0 := 0) rfl rfl) rfl hl.1 rfl (Nat.le_of_ble_eq_true rfl) dX5_below_26 ⟨Nat.zero_le _, Nat.zero_le _⟩ (fun r_3 hw => ?_)
    refine z_ri [.int r_3] [] ⟨hx, hb, hml, hown, hts⟩ (kX4_nodeWithPlace l D cA a_tree a_tree_row a_tree_weights a_tree_carried a_tree_row_gains a_tree_row_lows a_tree_row_highs f_tree_row_low f_tree_row_high f_tree_row_places f_tree_row_gains f_tree_row_lows f_tree_row_highs f_tree_weights f_tree_carried r_3 _ hw) (cwV 1 hts gX5_below_X4_nodeWithPlace rfl rfl rfl vX4_nodeWithPlace ⟨Nat.le_of_ble_eq_true rfl, Nat.le_of_ble_eq_true rfl⟩) hK (hP.sub [1, 2, 3, 4, 5, 6, 7] rfl) (va_recv hK.1 (hP.sub (ws' := [(a_tree, .inr (3, [.ref a_tree_row, .ref a_tree_weights, .ref a_tree_carried]))]) [1] rfl) (ci := 3) (q0 := 0) rfl rfl) rfl hl.1 rfl (Nat.le_of_ble_eq_true rfl) dX5_below_29 ⟨Nat.zero_le _, Nat.zero_le _⟩ (fun r_4 hw => ?_)
    exact z_iret hx hb hr hlk hw dX5_below_32
  · have hw := hw.2 c_2
    refine lv_iconst (v := -1) hx hb dX5_below_11 (by decide) ?_
    exact z_iret hx hb hr hlk hw dX5_below_12
def wX5_up (f_tree_row_low : Int64) (f_tree_row_high : Int64) (f_tree_row_places : Int32) (f_tree_row_gains : Nat → Int32) (f_tree_row_lows : Nat → Int32) (f_tree_row_highs : Nat → Int32) (p1 : Int32) (p2 : Int32) (post : Int32 → Prop) : Prop := (wX4_has f_tree_row_places p1 (fun r_1 : Int32 => (((r_1 = 0 → post (-1 : Int32)) ∧ (¬ r_1 = 0 → ((0 ≤ p2 → (wX4_aboveBy f_tree_row_low f_tree_row_high f_tree_row_places f_tree_row_gains f_tree_row_lows f_tree_row_highs p1 p2 (fun r_4 : Int32 => (post r_4)))) ∧ (¬ 0 ≤ p2 → post (-1 : Int32))))))))
abbrev rX5_up : Room := { frames := 5, cells := 0, slots := 0, locals := 119 }
theorem vX5_up : yX5_up.cls = RX5 ∧ yX5_up.cls ≠ "java/lang/invoke/MethodHandle" ∧ yX5_up.cls ≠ "java/lang/invoke/VarHandle" ∧ (parseMethodDescriptor yX5_up.desc).map (fun d => d.parameters.length) = some 2 := by decide +kernel
set_option maxHeartbeats 4000000 in
set_option maxRecDepth 100000 in
theorem kX5_up (l : Launch) (D : va_G) (cA : Nat → ClassId) (a0 a_tree a_draft a_images a_kept a_tape a_sheets a_tree_row a_tree_weights a_tree_carried a_tree_row_gains a_tree_row_lows a_tree_row_highs : Nat) (f_latestTorn : Int32) (f_tree_row_low : Int64) (f_tree_row_high : Int64) (f_tree_row_places : Int32) (f_tree_row_gains : Nat → Int32) (f_tree_row_lows : Nat → Int32) (f_tree_row_highs : Nat → Int32) (f_tree_weights : Nat → Int32) (f_tree_carried : Nat → Int32) (p1 : Int32) (p2 : Int32) (post : Int32 → Prop) (h : wX5_up f_tree_row_low f_tree_row_high f_tree_row_places f_tree_row_gains f_tree_row_lows f_tree_row_highs p1 p2 post) : Met l yX5_up wsX5_up rX5_up (zPr D cA [.ref a0, .int p1, .int p2] [(a0, .inr (4, [.ref a_tree, .ref a_draft, .ref a_images, .ref a_kept, .ref a_tape, .ref a_sheets, .int f_latestTorn])), (a_tree, .inr (3, [.ref a_tree_row, .ref a_tree_weights, .ref a_tree_carried])), (a_tree_row, .inr (0, [.long f_tree_row_low, .long f_tree_row_high, .int f_tree_row_places, .ref a_tree_row_gains, .ref a_tree_row_lows, .ref a_tree_row_highs])), (a_tree_row_gains, .inl (cA 0, 8, .inl f_tree_row_gains)), (a_tree_row_lows, .inl (cA 0, 8, .inl f_tree_row_lows)), (a_tree_row_highs, .inl (cA 0, 8, .inl f_tree_row_highs)), (a_tree_weights, .inl (cA 0, 64, .inl f_tree_weights)), (a_tree_carried, .inl (cA 0, 64, .inl f_tree_carried))]) (vp_Si post) 0 0 (fun _ => False) := by
  refine z_ro (cc := cX5_up) (maxL := 3) (ret := (some .int)) (by decide) rfl (Nat.le_of_ble_eq_true rfl) ?_
  intro p e s m args below meth c ls hx hb hr hlk hml hown hts hK hP hl
  have hown : s.vm.findClass RX5 = some m.cls := hown
  have hl : lv_has ls 3 [(0, .ref a0), (1, .int p1), (2, .int p2)] := hl
  have hw := h
  unfold wX5_up at hw
  have iwX5 : ∀ w ∈ wsX50, w ∈ wsX5_up := fun w h9 => List.mem_cons_of_mem _ (List.mem_append_left _ (List.mem_append_left _ (List.mem_append_right _ h9)))
  have kf12 := hts (.fieldLink RX5 12 "ExcessTree" "tree" "LExcessTree$Tree;") (by decide +kernel)
  refine lv_aload_n hx hb dX5_up_0 rfl (lv_at hl 0 rfl) ?_
  refine va_get (D := D) (ci := 4) (v := .ref a_tree) (C := RX5) (T := TX5) (N := 7) hx hb hts iwX5 hown hK.1 hP 0 rfl rfl 0 (by decide) kf12 (fun _ h9 => h9) rfl dX5_up_1 ?_
  refine lv_iload_n hx hb dX5_up_4 rfl (lv_at hl 1 rfl) ?_
  refine z_ri [.int p1] [] ⟨hx, hb, hml, hown, hts⟩ (kX4_has l D cA a_tree a_tree_row a_tree_weights a_tree_carried a_tree_row_gains a_tree_row_lows a_tree_row_highs f_tree_row_low f_tree_row_high f_tree_row_places f_tree_row_gains f_tree_row_lows f_tree_row_highs f_tree_weights f_tree_carried p1 _ hw) (cwV 1 hts gX5_up_X4_has rfl rfl rfl vX4_has ⟨Nat.le_of_ble_eq_true rfl, Nat.le_of_ble_eq_true rfl⟩) hK (hP.sub [1, 2, 3, 4, 5, 6, 7] rfl) (va_recv hK.1 (hP.sub (ws' := [(a_tree, .inr (3, [.ref a_tree_row, .ref a_tree_weights, .ref a_tree_carried]))]) [1] rfl) (ci := 3) (q0 := 0) rfl rfl) rfl hl.1 rfl (Nat.le_of_ble_eq_true rfl) dX5_up_5 ⟨Nat.zero_le _, Nat.zero_le _⟩ (fun r_1 hw => ?_)
  refine lv_if_eq (tgt := 15) hx hb dX5_up_8 (by decide) (fun c_2 => ?_) (fun c_2 => ?_)
  · have hw := hw.1 c_2
    refine lv_iconst (v := -1) hx hb dX5_up_15 (by decide) ?_
    exact z_iret hx hb hr hlk hw dX5_up_16
  · have hw := hw.2 c_2
    refine lv_iload_n hx hb dX5_up_11 rfl (lv_at hl 2 rfl) ?_
    refine lv_if_ge (tgt := 17) hx hb dX5_up_12 (by decide) (fun c_3 => ?_) (fun c_3 => ?_)
    · have hw := hw.1 c_3
      refine lv_aload_n hx hb dX5_up_17 rfl (lv_at hl 0 rfl) ?_
      refine va_get (D := D) (ci := 4) (v := .ref a_tree) (C := RX5) (T := TX5) (N := 7) hx hb hts iwX5 hown hK.1 hP 0 rfl rfl 0 (by decide) kf12 (fun _ h9 => h9) rfl dX5_up_18 ?_
      refine lv_iload_n hx hb dX5_up_21 rfl (lv_at hl 1 rfl) ?_
      refine lv_iload_n hx hb dX5_up_22 rfl (lv_at hl 2 rfl) ?_
      refine z_ri [.int p1, .int p2] [] ⟨hx, hb, hml, hown, hts⟩ (kX4_aboveBy l D cA a_tree a_tree_row a_tree_weights a_tree_carried a_tree_row_gains a_tree_row_lows a_tree_row_highs f_tree_row_low f_tree_row_high f_tree_row_places f_tree_row_gains f_tree_row_lows f_tree_row_highs f_tree_weights f_tree_carried p1 p2 _ hw) (cwV 2 hts gX5_up_X4_aboveBy rfl rfl rfl vX4_aboveBy ⟨Nat.le_of_ble_eq_true rfl, Nat.le_of_ble_eq_true rfl⟩) hK (hP.sub [1, 2, 3, 4, 5, 6, 7] rfl) (va_recv hK.1 (hP.sub (ws' := [(a_tree, .inr (3, [.ref a_tree_row, .ref a_tree_weights, .ref a_tree_carried]))]) [1] rfl) (ci := 3) (q0 := 0) rfl rfl) rfl hl.1 rfl (Nat.le_of_ble_eq_true rfl) dX5_up_23 ⟨Nat.zero_le _, Nat.zero_le _⟩ (fun r_4 hw => ?_)
      exact z_iret hx hb hr hlk hw dX5_up_26
    · have hw := hw.2 c_3
      refine lv_iconst (v := -1) hx hb dX5_up_15 (by decide) ?_
      exact z_iret hx hb hr hlk hw dX5_up_16
def wX5_meet (f_tree_row_low : Int64) (f_tree_row_high : Int64) (f_tree_row_places : Int32) (f_tree_row_gains : Nat → Int32) (f_tree_row_lows : Nat → Int32) (f_tree_row_highs : Nat → Int32) (p1 : Int32) (p2 : Int32) (post : Int32 → Prop) : Prop := (wX4_has f_tree_row_places p1 (fun r_1 : Int32 => (((r_1 = 0 → post (-1 : Int32)) ∧ (¬ r_1 = 0 → (wX4_has f_tree_row_places p2 (fun r_3 : Int32 => (((¬ r_3 = 0 → (wX4_meetingOf f_tree_row_low f_tree_row_high f_tree_row_places f_tree_row_gains f_tree_row_lows f_tree_row_highs p1 p2 (fun r_5 : Int32 => (post r_5)))) ∧ (r_3 = 0 → post (-1 : Int32)))))))))))
abbrev rX5_meet : Room := { frames := 5, cells := 0, slots := 0, locals := 120 }
theorem vX5_meet : yX5_meet.cls = RX5 ∧ yX5_meet.cls ≠ "java/lang/invoke/MethodHandle" ∧ yX5_meet.cls ≠ "java/lang/invoke/VarHandle" ∧ (parseMethodDescriptor yX5_meet.desc).map (fun d => d.parameters.length) = some 2 := by decide +kernel
set_option maxHeartbeats 4000000 in
set_option maxRecDepth 100000 in
theorem kX5_meet (l : Launch) (D : va_G) (cA : Nat → ClassId) (a0 a_tree a_draft a_images a_kept a_tape a_sheets a_tree_row a_tree_weights a_tree_carried a_tree_row_gains a_tree_row_lows a_tree_row_highs : Nat) (f_latestTorn : Int32) (f_tree_row_low : Int64) (f_tree_row_high : Int64) (f_tree_row_places : Int32) (f_tree_row_gains : Nat → Int32) (f_tree_row_lows : Nat → Int32) (f_tree_row_highs : Nat → Int32) (f_tree_weights : Nat → Int32) (f_tree_carried : Nat → Int32) (p1 : Int32) (p2 : Int32) (post : Int32 → Prop) (h : wX5_meet f_tree_row_low f_tree_row_high f_tree_row_places f_tree_row_gains f_tree_row_lows f_tree_row_highs p1 p2 post) : Met l yX5_meet wsX5_meet rX5_meet (zPr D cA [.ref a0, .int p1, .int p2] [(a0, .inr (4, [.ref a_tree, .ref a_draft, .ref a_images, .ref a_kept, .ref a_tape, .ref a_sheets, .int f_latestTorn])), (a_tree, .inr (3, [.ref a_tree_row, .ref a_tree_weights, .ref a_tree_carried])), (a_tree_row, .inr (0, [.long f_tree_row_low, .long f_tree_row_high, .int f_tree_row_places, .ref a_tree_row_gains, .ref a_tree_row_lows, .ref a_tree_row_highs])), (a_tree_row_gains, .inl (cA 0, 8, .inl f_tree_row_gains)), (a_tree_row_lows, .inl (cA 0, 8, .inl f_tree_row_lows)), (a_tree_row_highs, .inl (cA 0, 8, .inl f_tree_row_highs)), (a_tree_weights, .inl (cA 0, 64, .inl f_tree_weights)), (a_tree_carried, .inl (cA 0, 64, .inl f_tree_carried))]) (vp_Si post) 0 0 (fun _ => False) := by
  refine z_ro (cc := cX5_meet) (maxL := 3) (ret := (some .int)) (by decide) rfl (Nat.le_of_ble_eq_true rfl) ?_
  intro p e s m args below meth c ls hx hb hr hlk hml hown hts hK hP hl
  have hown : s.vm.findClass RX5 = some m.cls := hown
  have hl : lv_has ls 3 [(0, .ref a0), (1, .int p1), (2, .int p2)] := hl
  have hw := h
  unfold wX5_meet at hw
  have iwX5 : ∀ w ∈ wsX50, w ∈ wsX5_meet := fun w h9 => List.mem_cons_of_mem _ (List.mem_append_left _ (List.mem_append_left _ (List.mem_append_right _ h9)))
  have kf12 := hts (.fieldLink RX5 12 "ExcessTree" "tree" "LExcessTree$Tree;") (by decide +kernel)
  refine lv_aload_n hx hb dX5_meet_0 rfl (lv_at hl 0 rfl) ?_
  refine va_get (D := D) (ci := 4) (v := .ref a_tree) (C := RX5) (T := TX5) (N := 7) hx hb hts iwX5 hown hK.1 hP 0 rfl rfl 0 (by decide) kf12 (fun _ h9 => h9) rfl dX5_meet_1 ?_
  refine lv_iload_n hx hb dX5_meet_4 rfl (lv_at hl 1 rfl) ?_
  refine z_ri [.int p1] [] ⟨hx, hb, hml, hown, hts⟩ (kX4_has l D cA a_tree a_tree_row a_tree_weights a_tree_carried a_tree_row_gains a_tree_row_lows a_tree_row_highs f_tree_row_low f_tree_row_high f_tree_row_places f_tree_row_gains f_tree_row_lows f_tree_row_highs f_tree_weights f_tree_carried p1 _ hw) (cwV 1 hts gX5_meet_X4_has rfl rfl rfl vX4_has ⟨Nat.le_of_ble_eq_true rfl, Nat.le_of_ble_eq_true rfl⟩) hK (hP.sub [1, 2, 3, 4, 5, 6, 7] rfl) (va_recv hK.1 (hP.sub (ws' := [(a_tree, .inr (3, [.ref a_tree_row, .ref a_tree_weights, .ref a_tree_carried]))]) [1] rfl) (ci := 3) (q0 := 0) rfl rfl) rfl hl.1 rfl (Nat.le_of_ble_eq_true rfl) dX5_meet_5 ⟨Nat.zero_le _, Nat.zero_le _⟩ (fun r_1 hw => ?_)
  refine lv_if_eq (tgt := 22) hx hb dX5_meet_8 (by decide) (fun c_2 => ?_) (fun c_2 => ?_)
  · have hw := hw.1 c_2
    refine lv_iconst (v := -1) hx hb dX5_meet_22 (by decide) ?_
    exact z_iret hx hb hr hlk hw dX5_meet_23
  · have hw := hw.2 c_2
    refine lv_aload_n hx hb dX5_meet_11 rfl (lv_at hl 0 rfl) ?_
    refine va_get (D := D) (ci := 4) (v := .ref a_tree) (C := RX5) (T := TX5) (N := 7) hx hb hts iwX5 hown hK.1 hP 0 rfl rfl 0 (by decide) kf12 (fun _ h9 => h9) rfl dX5_meet_12 ?_
    refine lv_iload_n hx hb dX5_meet_15 rfl (lv_at hl 2 rfl) ?_
    refine z_ri [.int p2] [] ⟨hx, hb, hml, hown, hts⟩ (kX4_has l D cA a_tree a_tree_row a_tree_weights a_tree_carried a_tree_row_gains a_tree_row_lows a_tree_row_highs f_tree_row_low f_tree_row_high f_tree_row_places f_tree_row_gains f_tree_row_lows f_tree_row_highs f_tree_weights f_tree_carried p2 _ hw) (cwV 1 hts gX5_meet_X4_has rfl rfl rfl vX4_has ⟨Nat.le_of_ble_eq_true rfl, Nat.le_of_ble_eq_true rfl⟩) hK (hP.sub [1, 2, 3, 4, 5, 6, 7] rfl) (va_recv hK.1 (hP.sub (ws' := [(a_tree, .inr (3, [.ref a_tree_row, .ref a_tree_weights, .ref a_tree_carried]))]) [1] rfl) (ci := 3) (q0 := 0) rfl rfl) rfl hl.1 rfl (Nat.le_of_ble_eq_true rfl) dX5_meet_16 ⟨Nat.zero_le _, Nat.zero_le _⟩ (fun r_3 hw => ?_)
    refine lv_if_ne (tgt := 24) hx hb dX5_meet_19 (by decide) (fun c_4 => ?_) (fun c_4 => ?_)
    · have hw := hw.1 c_4
      refine lv_aload_n hx hb dX5_meet_24 rfl (lv_at hl 0 rfl) ?_
      refine va_get (D := D) (ci := 4) (v := .ref a_tree) (C := RX5) (T := TX5) (N := 7) hx hb hts iwX5 hown hK.1 hP 0 rfl rfl 0 (by decide) kf12 (fun _ h9 => h9) rfl dX5_meet_25 ?_
      refine lv_iload_n hx hb dX5_meet_28 rfl (lv_at hl 1 rfl) ?_
      refine lv_iload_n hx hb dX5_meet_29 rfl (lv_at hl 2 rfl) ?_
      refine z_ri [.int p1, .int p2] [] ⟨hx, hb, hml, hown, hts⟩ (kX4_meetingOf l D cA a_tree a_tree_row a_tree_weights a_tree_carried a_tree_row_gains a_tree_row_lows a_tree_row_highs f_tree_row_low f_tree_row_high f_tree_row_places f_tree_row_gains f_tree_row_lows f_tree_row_highs f_tree_weights f_tree_carried p1 p2 _ hw) (cwV 2 hts gX5_meet_X4_meetingOf rfl rfl rfl vX4_meetingOf ⟨Nat.le_of_ble_eq_true rfl, Nat.le_of_ble_eq_true rfl⟩) hK (hP.sub [1, 2, 3, 4, 5, 6, 7] rfl) (va_recv hK.1 (hP.sub (ws' := [(a_tree, .inr (3, [.ref a_tree_row, .ref a_tree_weights, .ref a_tree_carried]))]) [1] rfl) (ci := 3) (q0 := 0) rfl rfl) rfl hl.1 rfl (Nat.le_of_ble_eq_true rfl) dX5_meet_30 ⟨Nat.zero_le _, Nat.zero_le _⟩ (fun r_5 hw => ?_)
      exact z_iret hx hb hr hlk hw dX5_meet_33
    · have hw := hw.2 c_4
      refine lv_iconst (v := -1) hx hb dX5_meet_22 (by decide) ?_
      exact z_iret hx hb hr hlk hw dX5_meet_23
def wX5_way (f_tree_row_low : Int64) (f_tree_row_high : Int64) (f_tree_row_places : Int32) (f_tree_row_gains : Nat → Int32) (f_tree_row_lows : Nat → Int32) (f_tree_row_highs : Nat → Int32) (p1 : Int32) (p2 : Int32) (post : Int32 → Prop) : Prop := (wX4_has f_tree_row_places p1 (fun r_1 : Int32 => (((r_1 = 0 → post (-1 : Int32)) ∧ (¬ r_1 = 0 → (wX4_has f_tree_row_places p2 (fun r_3 : Int32 => (((¬ r_3 = 0 → (wX4_depthOf f_tree_row_low f_tree_row_high f_tree_row_places p1 (fun r_5 : Int32 => ((wX4_depthOf f_tree_row_low f_tree_row_high f_tree_row_places p2 (fun r_6 : Int32 => ((wX4_meetingOf f_tree_row_low f_tree_row_high f_tree_row_places f_tree_row_gains f_tree_row_lows f_tree_row_highs p1 p2 (fun r_7 : Int32 => ((wX4_depthOf f_tree_row_low f_tree_row_high f_tree_row_places r_7 (fun r_8 : Int32 => (post ((r_5 + r_6) - ((2 : Int32) * r_8))))))))))))))) ∧ (r_3 = 0 → post (-1 : Int32)))))))))))
abbrev rX5_way : Room := { frames := 5, cells := 0, slots := 0, locals := 120 }
theorem vX5_way : yX5_way.cls = RX5 ∧ yX5_way.cls ≠ "java/lang/invoke/MethodHandle" ∧ yX5_way.cls ≠ "java/lang/invoke/VarHandle" ∧ (parseMethodDescriptor yX5_way.desc).map (fun d => d.parameters.length) = some 2 := by decide +kernel
set_option maxHeartbeats 4000000 in
set_option maxRecDepth 100000 in
theorem kX5_way (l : Launch) (D : va_G) (cA : Nat → ClassId) (a0 a_tree a_draft a_images a_kept a_tape a_sheets a_tree_row a_tree_weights a_tree_carried a_tree_row_gains a_tree_row_lows a_tree_row_highs : Nat) (f_latestTorn : Int32) (f_tree_row_low : Int64) (f_tree_row_high : Int64) (f_tree_row_places : Int32) (f_tree_row_gains : Nat → Int32) (f_tree_row_lows : Nat → Int32) (f_tree_row_highs : Nat → Int32) (f_tree_weights : Nat → Int32) (f_tree_carried : Nat → Int32) (p1 : Int32) (p2 : Int32) (post : Int32 → Prop) (h : wX5_way f_tree_row_low f_tree_row_high f_tree_row_places f_tree_row_gains f_tree_row_lows f_tree_row_highs p1 p2 post) : Met l yX5_way wsX5_way rX5_way (zPr D cA [.ref a0, .int p1, .int p2] [(a0, .inr (4, [.ref a_tree, .ref a_draft, .ref a_images, .ref a_kept, .ref a_tape, .ref a_sheets, .int f_latestTorn])), (a_tree, .inr (3, [.ref a_tree_row, .ref a_tree_weights, .ref a_tree_carried])), (a_tree_row, .inr (0, [.long f_tree_row_low, .long f_tree_row_high, .int f_tree_row_places, .ref a_tree_row_gains, .ref a_tree_row_lows, .ref a_tree_row_highs])), (a_tree_row_gains, .inl (cA 0, 8, .inl f_tree_row_gains)), (a_tree_row_lows, .inl (cA 0, 8, .inl f_tree_row_lows)), (a_tree_row_highs, .inl (cA 0, 8, .inl f_tree_row_highs)), (a_tree_weights, .inl (cA 0, 64, .inl f_tree_weights)), (a_tree_carried, .inl (cA 0, 64, .inl f_tree_carried))]) (vp_Si post) 0 0 (fun _ => False) := by
  refine z_ro (cc := cX5_way) (maxL := 3) (ret := (some .int)) (by decide) rfl (Nat.le_of_ble_eq_true rfl) ?_
  intro p e s m args below meth c ls hx hb hr hlk hml hown hts hK hP hl
  have hown : s.vm.findClass RX5 = some m.cls := hown
  have hl : lv_has ls 3 [(0, .ref a0), (1, .int p1), (2, .int p2)] := hl
  have hw := h
  unfold wX5_way at hw
  have iwX5 : ∀ w ∈ wsX50, w ∈ wsX5_way := fun w h9 => List.mem_cons_of_mem _ (List.mem_append_left _ (List.mem_append_left _ (List.mem_append_right _ h9)))
  have kf12 := hts (.fieldLink RX5 12 "ExcessTree" "tree" "LExcessTree$Tree;") (by decide +kernel)
  refine lv_aload_n hx hb dX5_way_0 rfl (lv_at hl 0 rfl) ?_
  refine va_get (D := D) (ci := 4) (v := .ref a_tree) (C := RX5) (T := TX5) (N := 7) hx hb hts iwX5 hown hK.1 hP 0 rfl rfl 0 (by decide) kf12 (fun _ h9 => h9) rfl dX5_way_1 ?_
  refine lv_iload_n hx hb dX5_way_4 rfl (lv_at hl 1 rfl) ?_
  refine z_ri [.int p1] [] ⟨hx, hb, hml, hown, hts⟩ (kX4_has l D cA a_tree a_tree_row a_tree_weights a_tree_carried a_tree_row_gains a_tree_row_lows a_tree_row_highs f_tree_row_low f_tree_row_high f_tree_row_places f_tree_row_gains f_tree_row_lows f_tree_row_highs f_tree_weights f_tree_carried p1 _ hw) (cwV 1 hts gX5_way_X4_has rfl rfl rfl vX4_has ⟨Nat.le_of_ble_eq_true rfl, Nat.le_of_ble_eq_true rfl⟩) hK (hP.sub [1, 2, 3, 4, 5, 6, 7] rfl) (va_recv hK.1 (hP.sub (ws' := [(a_tree, .inr (3, [.ref a_tree_row, .ref a_tree_weights, .ref a_tree_carried]))]) [1] rfl) (ci := 3) (q0 := 0) rfl rfl) rfl hl.1 rfl (Nat.le_of_ble_eq_true rfl) dX5_way_5 ⟨Nat.zero_le _, Nat.zero_le _⟩ (fun r_1 hw => ?_)
  refine lv_if_eq (tgt := 22) hx hb dX5_way_8 (by decide) (fun c_2 => ?_) (fun c_2 => ?_)
  · have hw := hw.1 c_2
    refine lv_iconst (v := -1) hx hb dX5_way_22 (by decide) ?_
    exact z_iret hx hb hr hlk hw dX5_way_23
  · have hw := hw.2 c_2
    refine lv_aload_n hx hb dX5_way_11 rfl (lv_at hl 0 rfl) ?_
    refine va_get (D := D) (ci := 4) (v := .ref a_tree) (C := RX5) (T := TX5) (N := 7) hx hb hts iwX5 hown hK.1 hP 0 rfl rfl 0 (by decide) kf12 (fun _ h9 => h9) rfl dX5_way_12 ?_
    refine lv_iload_n hx hb dX5_way_15 rfl (lv_at hl 2 rfl) ?_
    refine z_ri [.int p2] [] ⟨hx, hb, hml, hown, hts⟩ (kX4_has l D cA a_tree a_tree_row a_tree_weights a_tree_carried a_tree_row_gains a_tree_row_lows a_tree_row_highs f_tree_row_low f_tree_row_high f_tree_row_places f_tree_row_gains f_tree_row_lows f_tree_row_highs f_tree_weights f_tree_carried p2 _ hw) (cwV 1 hts gX5_way_X4_has rfl rfl rfl vX4_has ⟨Nat.le_of_ble_eq_true rfl, Nat.le_of_ble_eq_true rfl⟩) hK (hP.sub [1, 2, 3, 4, 5, 6, 7] rfl) (va_recv hK.1 (hP.sub (ws' := [(a_tree, .inr (3, [.ref a_tree_row, .ref a_tree_weights, .ref a_tree_carried]))]) [1] rfl) (ci := 3) (q0 := 0) rfl rfl) rfl hl.1 rfl (Nat.le_of_ble_eq_true rfl) dX5_way_16 ⟨Nat.zero_le _, Nat.zero_le _⟩ (fun r_3 hw => ?_)
    refine lv_if_ne (tgt := 24) hx hb dX5_way_19 (by decide) (fun c_4 => ?_) (fun c_4 => ?_)
    · have hw := hw.1 c_4
      refine lv_aload_n hx hb dX5_way_24 rfl (lv_at hl 0 rfl) ?_
      refine va_get (D := D) (ci := 4) (v := .ref a_tree) (C := RX5) (T := TX5) (N := 7) hx hb hts iwX5 hown hK.1 hP 0 rfl rfl 0 (by decide) kf12 (fun _ h9 => h9) rfl dX5_way_25 ?_
      refine lv_iload_n hx hb dX5_way_28 rfl (lv_at hl 1 rfl) ?_
      refine z_ri [.int p1] [] ⟨hx, hb, hml, hown, hts⟩ (kX4_depthOf l D cA a_tree a_tree_row a_tree_weights a_tree_carried a_tree_row_gains a_tree_row_lows a_tree_row_highs f_tree_row_low f_tree_row_high f_tree_row_places f_tree_row_gains f_tree_row_lows f_tree_row_highs f_tree_weights f_tree_carried p1 _ hw) (cwV 1 hts gX5_way_X4_depthOf rfl rfl rfl vX4_depthOf ⟨Nat.le_of_ble_eq_true rfl, Nat.le_of_ble_eq_true rfl⟩) hK (hP.sub [1, 2, 3, 4, 5, 6, 7] rfl) (va_recv hK.1 (hP.sub (ws' := [(a_tree, .inr (3, [.ref a_tree_row, .ref a_tree_weights, .ref a_tree_carried]))]) [1] rfl) (ci := 3) (q0 := 0) rfl rfl) rfl hl.1 rfl (Nat.le_of_ble_eq_true rfl) dX5_way_29 ⟨Nat.zero_le _, Nat.zero_le _⟩ (fun r_5 hw => ?_)
      refine lv_aload_n hx hb dX5_way_32 rfl (lv_at hl 0 rfl) ?_
      refine va_get (D := D) (ci := 4) (v := .ref a_tree) (C := RX5) (T := TX5) (N := 7) hx hb hts iwX5 hown hK.1 hP 0 rfl rfl 0 (by decide) kf12 (fun _ h9 => h9) rfl dX5_way_33 ?_
      refine lv_iload_n hx hb dX5_way_36 rfl (lv_at hl 2 rfl) ?_
      refine z_ri [.int p2] [.int r_5] ⟨hx, hb, hml, hown, hts⟩ (kX4_depthOf l D cA a_tree a_tree_row a_tree_weights a_tree_carried a_tree_row_gains a_tree_row_lows a_tree_row_highs f_tree_row_low f_tree_row_high f_tree_row_places f_tree_row_gains f_tree_row_lows f_tree_row_highs f_tree_weights f_tree_carried p2 _ hw) (cwV 1 hts gX5_way_X4_depthOf rfl rfl rfl vX4_depthOf ⟨Nat.le_of_ble_eq_true rfl, Nat.le_of_ble_eq_true rfl⟩) hK (hP.sub [1, 2, 3, 4, 5, 6, 7] rfl) (va_recv hK.1 (hP.sub (ws' := [(a_tree, .inr (3, [.ref a_tree_row, .ref a_tree_weights, .ref a_tree_carried]))]) [1] rfl) (ci := 3) (q0 := 0) rfl rfl) rfl hl.1 rfl (Nat.le_of_ble_eq_true rfl) dX5_way_37 ⟨Nat.zero_le _, Nat.zero_le _⟩ (fun r_6 hw => ?_)
      refine lv_iadd hx hb dX5_way_40 ?_
      refine lv_iconst (v := 2) hx hb dX5_way_41 (by decide) ?_
      refine lv_aload_n hx hb dX5_way_42 rfl (lv_at hl 0 rfl) ?_
      refine va_get (D := D) (ci := 4) (v := .ref a_tree) (C := RX5) (T := TX5) (N := 7) hx hb hts iwX5 hown hK.1 hP 0 rfl rfl 0 (by decide) kf12 (fun _ h9 => h9) rfl dX5_way_43 ?_
      refine lv_aload_n hx hb dX5_way_46 rfl (lv_at hl 0 rfl) ?_
      refine va_get (D := D) (ci := 4) (v := .ref a_tree) (C := RX5) (T := TX5) (N := 7) hx hb hts iwX5 hown hK.1 hP 0 rfl rfl 0 (by decide) kf12 (fun _ h9 => h9) rfl dX5_way_47 ?_
      refine lv_iload_n hx hb dX5_way_50 rfl (lv_at hl 1 rfl) ?_
      refine lv_iload_n hx hb dX5_way_51 rfl (lv_at hl 2 rfl) ?_
      refine z_ri [.int p1, .int p2] [.ref a_tree, .int (2 : Int32), .int (r_5 + r_6)] ⟨hx, hb, hml, hown, hts⟩ (kX4_meetingOf l D cA a_tree a_tree_row a_tree_weights a_tree_carried a_tree_row_gains a_tree_row_lows a_tree_row_highs f_tree_row_low f_tree_row_high f_tree_row_places f_tree_row_gains f_tree_row_lows f_tree_row_highs f_tree_weights f_tree_carried p1 p2 _ hw) (cwV 2 hts gX5_way_X4_meetingOf rfl rfl rfl vX4_meetingOf ⟨Nat.le_of_ble_eq_true rfl, Nat.le_of_ble_eq_true rfl⟩) hK (hP.sub [1, 2, 3, 4, 5, 6, 7] rfl) (va_recv hK.1 (hP.sub (ws' := [(a_tree, .inr (3, [.ref a_tree_row, .ref a_tree_weights, .ref a_tree_carried]))]) [1] rfl) (ci := 3) (q0 := 0) rfl rfl) rfl hl.1 rfl (Nat.le_of_ble_eq_true rfl) dX5_way_52 ⟨Nat.zero_le _, Nat.zero_le _⟩ (fun r_7 hw => ?_)
      refine z_ri [.int r_7] [.int (2 : Int32), .int (r_5 + r_6)] ⟨hx, hb, hml, hown, hts⟩ (kX4_depthOf l D cA a_tree a_tree_row a_tree_weights a_tree_carried a_tree_row_gains a_tree_row_lows a_tree_row_highs f_tree_row_low f_tree_row_high f_tree_row_places f_tree_row_gains f_tree_row_lows f_tree_row_highs f_tree_weights f_tree_carried r_7 _ hw) (cwV 1 hts gX5_way_X4_depthOf rfl rfl rfl vX4_depthOf ⟨Nat.le_of_ble_eq_true rfl, Nat.le_of_ble_eq_true rfl⟩) hK (hP.sub [1, 2, 3, 4, 5, 6, 7] rfl) (va_recv hK.1 (hP.sub (ws' := [(a_tree, .inr (3, [.ref a_tree_row, .ref a_tree_weights, .ref a_tree_carried]))]) [1] rfl) (ci := 3) (q0 := 0) rfl rfl) rfl hl.1 rfl (Nat.le_of_ble_eq_true rfl) dX5_way_55 ⟨Nat.zero_le _, Nat.zero_le _⟩ (fun r_8 hw => ?_)
      refine lv_imul hx hb dX5_way_58 ?_
      refine lv_isub hx hb dX5_way_59 ?_
      exact z_iret hx hb hr hlk hw dX5_way_60
    · have hw := hw.2 c_4
      refine lv_iconst (v := -1) hx hb dX5_way_22 (by decide) ?_
      exact z_iret hx hb hr hlk hw dX5_way_23
def wX5_level (f_tree_row_low : Int64) (f_tree_row_high : Int64) (f_tree_row_places : Int32) (f_tree_row_gains : Nat → Int32) (f_tree_row_lows : Nat → Int32) (f_tree_row_highs : Nat → Int32) (p1 : Int32) (p2 : Int32) (post : Int32 → Prop) : Prop := ((0 ≤ p1 → ((p2 = 0 → (wX4_firstOfDepth f_tree_row_low f_tree_row_high f_tree_row_places f_tree_row_gains f_tree_row_lows f_tree_row_highs p1 (0 : Int32) (fun r_3 : Int32 => (post r_3)))) ∧ (p2 = 1 → (wX4_lastOfDepth f_tree_row_low f_tree_row_high f_tree_row_places f_tree_row_gains f_tree_row_lows f_tree_row_highs p1 f_tree_row_places (fun r_5 : Int32 => (post r_5)))) ∧ (p2 = 2 → (wX4_howManyOfDepth f_tree_row_low f_tree_row_high f_tree_row_places p1 (fun r_7 : Int32 => (post r_7)))) ∧ (¬ p2 = 0 → ¬ p2 = 1 → ¬ p2 = 2 → post (-1 : Int32)))) ∧ (¬ 0 ≤ p1 → post (-1 : Int32)))
abbrev rX5_level : Room := { frames := 6, cells := 0, slots := 0, locals := 131 }
theorem vX5_level : yX5_level.cls = RX5 ∧ yX5_level.cls ≠ "java/lang/invoke/MethodHandle" ∧ yX5_level.cls ≠ "java/lang/invoke/VarHandle" ∧ (parseMethodDescriptor yX5_level.desc).map (fun d => d.parameters.length) = some 2 := by decide +kernel
set_option maxHeartbeats 4000000 in
set_option maxRecDepth 100000 in
theorem kX5_level (l : Launch) (D : va_G) (cA : Nat → ClassId) (a0 a_tree a_draft a_images a_kept a_tape a_sheets a_tree_row a_tree_weights a_tree_carried a_tree_row_gains a_tree_row_lows a_tree_row_highs : Nat) (f_latestTorn : Int32) (f_tree_row_low : Int64) (f_tree_row_high : Int64) (f_tree_row_places : Int32) (f_tree_row_gains : Nat → Int32) (f_tree_row_lows : Nat → Int32) (f_tree_row_highs : Nat → Int32) (f_tree_weights : Nat → Int32) (f_tree_carried : Nat → Int32) (p1 : Int32) (p2 : Int32) (post : Int32 → Prop) (h : wX5_level f_tree_row_low f_tree_row_high f_tree_row_places f_tree_row_gains f_tree_row_lows f_tree_row_highs p1 p2 post) : Met l yX5_level wsX5_level rX5_level (zPr D cA [.ref a0, .int p1, .int p2] [(a0, .inr (4, [.ref a_tree, .ref a_draft, .ref a_images, .ref a_kept, .ref a_tape, .ref a_sheets, .int f_latestTorn])), (a_tree, .inr (3, [.ref a_tree_row, .ref a_tree_weights, .ref a_tree_carried])), (a_tree_row, .inr (0, [.long f_tree_row_low, .long f_tree_row_high, .int f_tree_row_places, .ref a_tree_row_gains, .ref a_tree_row_lows, .ref a_tree_row_highs])), (a_tree_row_gains, .inl (cA 0, 8, .inl f_tree_row_gains)), (a_tree_row_lows, .inl (cA 0, 8, .inl f_tree_row_lows)), (a_tree_row_highs, .inl (cA 0, 8, .inl f_tree_row_highs)), (a_tree_weights, .inl (cA 0, 64, .inl f_tree_weights)), (a_tree_carried, .inl (cA 0, 64, .inl f_tree_carried))]) (vp_Si post) 0 0 (fun _ => False) := by
  refine z_ro (cc := cX5_level) (maxL := 3) (ret := (some .int)) (by decide) rfl (Nat.le_of_ble_eq_true rfl) ?_
  intro p e s m args below meth c ls hx hb hr hlk hml hown hts hK hP hl
  have hown : s.vm.findClass RX5 = some m.cls := hown
  have hl : lv_has ls 3 [(0, .ref a0), (1, .int p1), (2, .int p2)] := hl
  have hw := h
  unfold wX5_level at hw
  have iwX5 : ∀ w ∈ wsX50, w ∈ wsX5_level := fun w h9 => List.mem_cons_of_mem _ (List.mem_append_left _ (List.mem_append_left _ (List.mem_append_right _ h9)))
  have kf12 := hts (.fieldLink RX5 12 "ExcessTree" "tree" "LExcessTree$Tree;") (by decide +kernel)
  have iwX4 : ∀ w ∈ wsX40, w ∈ wsX5_level := fun w h9 => List.mem_cons_of_mem _ (List.mem_append_left _ (List.mem_append_right _ h9))
  have kn70 := hK.nest (A := args) 5 rfl
  have iwX1 : ∀ w ∈ wsX10, w ∈ wsX5_level := fun w h9 => List.mem_cons_of_mem _ (List.mem_append_right _ h9)
  have kn74 := hK.nest (A := args) 4 rfl
  refine lv_iload_n hx hb dX5_level_0 rfl (lv_at hl 1 rfl) ?_
  refine lv_if_ge (tgt := 6) hx hb dX5_level_1 (by decide) (fun c_1 => ?_) (fun c_1 => ?_)
  · have hw := hw.1 c_1
    refine lv_iload_n hx hb dX5_level_6 rfl (lv_at hl 2 rfl) ?_
    by_cases c_2 : p2 = 0
    · have hw := hw.1 c_2
      refine lv_tableIn (tgt := 32) (off := 25) hx hb dX5_level_7 (by rw [c_2]; decide) (by rw [c_2]; decide) (by rw [c_2]; decide) (by decide) ?_
      refine lv_aload_n hx hb dX5_level_32 rfl (lv_at hl 0 rfl) ?_
      refine va_get (D := D) (ci := 4) (v := .ref a_tree) (C := RX5) (T := TX5) (N := 7) hx hb hts iwX5 hown hK.1 hP 0 rfl rfl 0 (by decide) kf12 (fun _ h9 => h9) rfl dX5_level_33 ?_
      refine lv_iload_n hx hb dX5_level_36 rfl (lv_at hl 1 rfl) ?_
      refine lv_iconst (v := 0) hx hb dX5_level_37 (by decide) ?_
      refine z_ri [.int p1, .int (0 : Int32)] [] ⟨hx, hb, hml, hown, hts⟩ (kX4_firstOfDepth l D cA a_tree a_tree_row a_tree_weights a_tree_carried a_tree_row_gains a_tree_row_lows a_tree_row_highs f_tree_row_low f_tree_row_high f_tree_row_places f_tree_row_gains f_tree_row_lows f_tree_row_highs f_tree_weights f_tree_carried p1 (0 : Int32) _ hw) (cwV 2 hts gX5_level_X4_firstOfDepth rfl rfl rfl vX4_firstOfDepth ⟨Nat.le_of_ble_eq_true rfl, Nat.le_of_ble_eq_true rfl⟩) hK (hP.sub [1, 2, 3, 4, 5, 6, 7] rfl) (va_recv hK.1 (hP.sub (ws' := [(a_tree, .inr (3, [.ref a_tree_row, .ref a_tree_weights, .ref a_tree_carried]))]) [1] rfl) (ci := 3) (q0 := 0) rfl rfl) rfl hl.1 rfl (Nat.le_of_ble_eq_true rfl) dX5_level_38 ⟨Nat.zero_le _, Nat.zero_le _⟩ (fun r_3 hw => ?_)
      exact z_iret hx hb hr hlk hw dX5_level_41
    by_cases c_4 : p2 = 1
    · have hw := hw.2.1 c_4
      refine lv_tableIn (tgt := 42) (off := 35) hx hb dX5_level_7 (by rw [c_4]; decide) (by rw [c_4]; decide) (by rw [c_4]; decide) (by decide) ?_
      refine lv_aload_n hx hb dX5_level_42 rfl (lv_at hl 0 rfl) ?_
      refine va_get (D := D) (ci := 4) (v := .ref a_tree) (C := RX5) (T := TX5) (N := 7) hx hb hts iwX5 hown hK.1 hP 0 rfl rfl 0 (by decide) kf12 (fun _ h9 => h9) rfl dX5_level_43 ?_
      refine lv_iload_n hx hb dX5_level_46 rfl (lv_at hl 1 rfl) ?_
      refine lv_aload_n hx hb dX5_level_47 rfl (lv_at hl 0 rfl) ?_
      refine va_get (D := D) (ci := 4) (v := .ref a_tree) (C := RX5) (T := TX5) (N := 7) hx hb hts iwX5 hown hK.1 hP 0 rfl rfl 0 (by decide) kf12 (fun _ h9 => h9) rfl dX5_level_48 ?_
      refine va_getN (own := RX5) (index := 70) (ref := "ExcessTree$Tree") (host := "ExcessTree") (D := D) (ci := 3) (v := .ref a_tree_row) (C := RX4) (T := TX4) (N := 3) hx hb hts iwX4 hown hK.1 hP 1 rfl rfl 0 (by decide) kn70 (fun _ h9 => h9) rfl dX5_level_51 ?_
      refine va_getN (own := RX5) (index := 74) (ref := "ExcessTree$Row") (host := "ExcessTree") (D := D) (ci := 0) (v := .int f_tree_row_places) (C := RX1) (T := TX1) (N := 6) hx hb hts iwX1 hown hK.1 hP 2 rfl rfl 2 (by decide) kn74 (fun _ h9 => h9) rfl dX5_level_54 ?_
      refine z_ri [.int p1, .int f_tree_row_places] [] ⟨hx, hb, hml, hown, hts⟩ (kX4_lastOfDepth l D cA a_tree a_tree_row a_tree_weights a_tree_carried a_tree_row_gains a_tree_row_lows a_tree_row_highs f_tree_row_low f_tree_row_high f_tree_row_places f_tree_row_gains f_tree_row_lows f_tree_row_highs f_tree_weights f_tree_carried p1 f_tree_row_places _ hw) (cwV 2 hts gX5_level_X4_lastOfDepth rfl rfl rfl vX4_lastOfDepth ⟨Nat.le_of_ble_eq_true rfl, Nat.le_of_ble_eq_true rfl⟩) hK (hP.sub [1, 2, 3, 4, 5, 6, 7] rfl) (va_recv hK.1 (hP.sub (ws' := [(a_tree, .inr (3, [.ref a_tree_row, .ref a_tree_weights, .ref a_tree_carried]))]) [1] rfl) (ci := 3) (q0 := 0) rfl rfl) rfl hl.1 rfl (Nat.le_of_ble_eq_true rfl) dX5_level_57 ⟨Nat.zero_le _, Nat.zero_le _⟩ (fun r_5 hw => ?_)
      exact z_iret hx hb hr hlk hw dX5_level_60
    by_cases c_6 : p2 = 2
    · have hw := hw.2.2.1 c_6
      refine lv_tableIn (tgt := 61) (off := 54) hx hb dX5_level_7 (by rw [c_6]; decide) (by rw [c_6]; decide) (by rw [c_6]; decide) (by decide) ?_
      refine lv_aload_n hx hb dX5_level_61 rfl (lv_at hl 0 rfl) ?_
      refine va_get (D := D) (ci := 4) (v := .ref a_tree) (C := RX5) (T := TX5) (N := 7) hx hb hts iwX5 hown hK.1 hP 0 rfl rfl 0 (by decide) kf12 (fun _ h9 => h9) rfl dX5_level_62 ?_
      refine lv_iload_n hx hb dX5_level_65 rfl (lv_at hl 1 rfl) ?_
      refine z_ri [.int p1] [] ⟨hx, hb, hml, hown, hts⟩ (kX4_howManyOfDepth l D cA a_tree a_tree_row a_tree_weights a_tree_carried a_tree_row_gains a_tree_row_lows a_tree_row_highs f_tree_row_low f_tree_row_high f_tree_row_places f_tree_row_gains f_tree_row_lows f_tree_row_highs f_tree_weights f_tree_carried p1 _ hw) (cwV 1 hts gX5_level_X4_howManyOfDepth rfl rfl rfl vX4_howManyOfDepth ⟨Nat.le_of_ble_eq_true rfl, Nat.le_of_ble_eq_true rfl⟩) hK (hP.sub [1, 2, 3, 4, 5, 6, 7] rfl) (va_recv hK.1 (hP.sub (ws' := [(a_tree, .inr (3, [.ref a_tree_row, .ref a_tree_weights, .ref a_tree_carried]))]) [1] rfl) (ci := 3) (q0 := 0) rfl rfl) rfl hl.1 rfl (Nat.le_of_ble_eq_true rfl) dX5_level_66 ⟨Nat.zero_le _, Nat.zero_le _⟩ (fun r_7 hw => ?_)
      exact z_iret hx hb hr hlk hw dX5_level_69
    have hw := hw.2.2.2 c_2 c_4 c_6
    refine lv_tableOut (tgt := 70) hx hb dX5_level_7 (by have q0 := lv_neT c_2 (a := 0) (by decide); have q1 := lv_neT c_4 (a := 1) (by decide); have q2 := lv_neT c_6 (a := 2) (by decide); omega) (by decide) ?_
    refine lv_iconst (v := -1) hx hb dX5_level_70 (by decide) ?_
    exact z_iret hx hb hr hlk hw dX5_level_71
  · have hw := hw.2 c_1
    refine lv_iconst (v := -1) hx hb dX5_level_4 (by decide) ?_
    exact z_iret hx hb hr hlk hw dX5_level_5
def wX5_beside (f_tree_row_low : Int64) (f_tree_row_high : Int64) (f_tree_row_places : Int32) (f_tree_row_gains : Nat → Int32) (f_tree_row_lows : Nat → Int32) (f_tree_row_highs : Nat → Int32) (p1 : Int32) (p2 : Int32) (post : Int32 → Prop) : Prop := (wX4_has f_tree_row_places p1 (fun r_1 : Int32 => (((¬ r_1 = 0 → ((p2 = 0 → (wX4_depthOf f_tree_row_low f_tree_row_high f_tree_row_places p1 (fun r_4 : Int32 => ((wX4_closeOf f_tree_row_low f_tree_row_high f_tree_row_places f_tree_row_gains f_tree_row_lows f_tree_row_highs p1 (fun r_5 : Int32 => ((wX4_firstOfDepth f_tree_row_low f_tree_row_high f_tree_row_places f_tree_row_gains f_tree_row_lows f_tree_row_highs r_4 (r_5 + (1 : Int32)) (fun r_6 : Int32 => (post r_6)))))))))) ∧ (p2 = 1 → (wX4_depthOf f_tree_row_low f_tree_row_high f_tree_row_places p1 (fun r_8 : Int32 => ((wX4_openOf f_tree_row_low f_tree_row_high f_tree_row_places p1 (fun r_9 : Int32 => ((wX4_lastOfDepth f_tree_row_low f_tree_row_high f_tree_row_places f_tree_row_gains f_tree_row_lows f_tree_row_highs r_8 r_9 (fun r_10 : Int32 => (post r_10)))))))))) ∧ (¬ p2 = 0 → ¬ p2 = 1 → post (-1 : Int32)))) ∧ (r_1 = 0 → post (-1 : Int32))))))
abbrev rX5_beside : Room := { frames := 6, cells := 0, slots := 0, locals := 131 }
theorem vX5_beside : yX5_beside.cls = RX5 ∧ yX5_beside.cls ≠ "java/lang/invoke/MethodHandle" ∧ yX5_beside.cls ≠ "java/lang/invoke/VarHandle" ∧ (parseMethodDescriptor yX5_beside.desc).map (fun d => d.parameters.length) = some 2 := by decide +kernel
set_option maxHeartbeats 4000000 in
set_option maxRecDepth 100000 in
theorem kX5_beside (l : Launch) (D : va_G) (cA : Nat → ClassId) (a0 a_tree a_draft a_images a_kept a_tape a_sheets a_tree_row a_tree_weights a_tree_carried a_tree_row_gains a_tree_row_lows a_tree_row_highs : Nat) (f_latestTorn : Int32) (f_tree_row_low : Int64) (f_tree_row_high : Int64) (f_tree_row_places : Int32) (f_tree_row_gains : Nat → Int32) (f_tree_row_lows : Nat → Int32) (f_tree_row_highs : Nat → Int32) (f_tree_weights : Nat → Int32) (f_tree_carried : Nat → Int32) (p1 : Int32) (p2 : Int32) (post : Int32 → Prop) (h : wX5_beside f_tree_row_low f_tree_row_high f_tree_row_places f_tree_row_gains f_tree_row_lows f_tree_row_highs p1 p2 post) : Met l yX5_beside wsX5_beside rX5_beside (zPr D cA [.ref a0, .int p1, .int p2] [(a0, .inr (4, [.ref a_tree, .ref a_draft, .ref a_images, .ref a_kept, .ref a_tape, .ref a_sheets, .int f_latestTorn])), (a_tree, .inr (3, [.ref a_tree_row, .ref a_tree_weights, .ref a_tree_carried])), (a_tree_row, .inr (0, [.long f_tree_row_low, .long f_tree_row_high, .int f_tree_row_places, .ref a_tree_row_gains, .ref a_tree_row_lows, .ref a_tree_row_highs])), (a_tree_row_gains, .inl (cA 0, 8, .inl f_tree_row_gains)), (a_tree_row_lows, .inl (cA 0, 8, .inl f_tree_row_lows)), (a_tree_row_highs, .inl (cA 0, 8, .inl f_tree_row_highs)), (a_tree_weights, .inl (cA 0, 64, .inl f_tree_weights)), (a_tree_carried, .inl (cA 0, 64, .inl f_tree_carried))]) (vp_Si post) 0 0 (fun _ => False) := by
  refine z_ro (cc := cX5_beside) (maxL := 3) (ret := (some .int)) (by decide) rfl (Nat.le_of_ble_eq_true rfl) ?_
  intro p e s m args below meth c ls hx hb hr hlk hml hown hts hK hP hl
  have hown : s.vm.findClass RX5 = some m.cls := hown
  have hl : lv_has ls 3 [(0, .ref a0), (1, .int p1), (2, .int p2)] := hl
  have hw := h
  unfold wX5_beside at hw
  have iwX5 : ∀ w ∈ wsX50, w ∈ wsX5_beside := fun w h9 => List.mem_cons_of_mem _ (List.mem_append_left _ (List.mem_append_left _ (List.mem_append_right _ h9)))
  have kf12 := hts (.fieldLink RX5 12 "ExcessTree" "tree" "LExcessTree$Tree;") (by decide +kernel)
  refine lv_aload_n hx hb dX5_beside_0 rfl (lv_at hl 0 rfl) ?_
  refine va_get (D := D) (ci := 4) (v := .ref a_tree) (C := RX5) (T := TX5) (N := 7) hx hb hts iwX5 hown hK.1 hP 0 rfl rfl 0 (by decide) kf12 (fun _ h9 => h9) rfl dX5_beside_1 ?_
  refine lv_iload_n hx hb dX5_beside_4 rfl (lv_at hl 1 rfl) ?_
  refine z_ri [.int p1] [] ⟨hx, hb, hml, hown, hts⟩ (kX4_has l D cA a_tree a_tree_row a_tree_weights a_tree_carried a_tree_row_gains a_tree_row_lows a_tree_row_highs f_tree_row_low f_tree_row_high f_tree_row_places f_tree_row_gains f_tree_row_lows f_tree_row_highs f_tree_weights f_tree_carried p1 _ hw) (cwV 1 hts gX5_beside_X4_has rfl rfl rfl vX4_has ⟨Nat.le_of_ble_eq_true rfl, Nat.le_of_ble_eq_true rfl⟩) hK (hP.sub [1, 2, 3, 4, 5, 6, 7] rfl) (va_recv hK.1 (hP.sub (ws' := [(a_tree, .inr (3, [.ref a_tree_row, .ref a_tree_weights, .ref a_tree_carried]))]) [1] rfl) (ci := 3) (q0 := 0) rfl rfl) rfl hl.1 rfl (Nat.le_of_ble_eq_true rfl) dX5_beside_5 ⟨Nat.zero_le _, Nat.zero_le _⟩ (fun r_1 hw => ?_)
  refine lv_if_ne (tgt := 13) hx hb dX5_beside_8 (by decide) (fun c_2 => ?_) (fun c_2 => ?_)
  · have hw := hw.1 c_2
    refine lv_iload_n hx hb dX5_beside_13 rfl (lv_at hl 2 rfl) ?_
    by_cases c_3 : p2 = 0
    · have hw := hw.1 c_3
      refine lv_lookup (tgt := 40) (off := 26) hx hb dX5_beside_14 (by decide) (by rw [c_3]; decide) (by decide) ?_
      refine lv_aload_n hx hb dX5_beside_40 rfl (lv_at hl 0 rfl) ?_
      refine va_get (D := D) (ci := 4) (v := .ref a_tree) (C := RX5) (T := TX5) (N := 7) hx hb hts iwX5 hown hK.1 hP 0 rfl rfl 0 (by decide) kf12 (fun _ h9 => h9) rfl dX5_beside_41 ?_
      refine lv_aload_n hx hb dX5_beside_44 rfl (lv_at hl 0 rfl) ?_
      refine va_get (D := D) (ci := 4) (v := .ref a_tree) (C := RX5) (T := TX5) (N := 7) hx hb hts iwX5 hown hK.1 hP 0 rfl rfl 0 (by decide) kf12 (fun _ h9 => h9) rfl dX5_beside_45 ?_
      refine lv_iload_n hx hb dX5_beside_48 rfl (lv_at hl 1 rfl) ?_
      refine z_ri [.int p1] [.ref a_tree] ⟨hx, hb, hml, hown, hts⟩ (kX4_depthOf l D cA a_tree a_tree_row a_tree_weights a_tree_carried a_tree_row_gains a_tree_row_lows a_tree_row_highs f_tree_row_low f_tree_row_high f_tree_row_places f_tree_row_gains f_tree_row_lows f_tree_row_highs f_tree_weights f_tree_carried p1 _ hw) (cwV 1 hts gX5_beside_X4_depthOf rfl rfl rfl vX4_depthOf ⟨Nat.le_of_ble_eq_true rfl, Nat.le_of_ble_eq_true rfl⟩) hK (hP.sub [1, 2, 3, 4, 5, 6, 7] rfl) (va_recv hK.1 (hP.sub (ws' := [(a_tree, .inr (3, [.ref a_tree_row, .ref a_tree_weights, .ref a_tree_carried]))]) [1] rfl) (ci := 3) (q0 := 0) rfl rfl) rfl hl.1 rfl (Nat.le_of_ble_eq_true rfl) dX5_beside_49 ⟨Nat.zero_le _, Nat.zero_le _⟩ (fun r_4 hw => ?_)
      refine lv_aload_n hx hb dX5_beside_52 rfl (lv_at hl 0 rfl) ?_
      refine va_get (D := D) (ci := 4) (v := .ref a_tree) (C := RX5) (T := TX5) (N := 7) hx hb hts iwX5 hown hK.1 hP 0 rfl rfl 0 (by decide) kf12 (fun _ h9 => h9) rfl dX5_beside_53 ?_
      refine lv_iload_n hx hb dX5_beside_56 rfl (lv_at hl 1 rfl) ?_
      refine z_ri [.int p1] [.int r_4, .ref a_tree] ⟨hx, hb, hml, hown, hts⟩ (kX4_closeOf l D cA a_tree a_tree_row a_tree_weights a_tree_carried a_tree_row_gains a_tree_row_lows a_tree_row_highs f_tree_row_low f_tree_row_high f_tree_row_places f_tree_row_gains f_tree_row_lows f_tree_row_highs f_tree_weights f_tree_carried p1 _ hw) (cwV 1 hts gX5_beside_X4_closeOf rfl rfl rfl vX4_closeOf ⟨Nat.le_of_ble_eq_true rfl, Nat.le_of_ble_eq_true rfl⟩) hK (hP.sub [1, 2, 3, 4, 5, 6, 7] rfl) (va_recv hK.1 (hP.sub (ws' := [(a_tree, .inr (3, [.ref a_tree_row, .ref a_tree_weights, .ref a_tree_carried]))]) [1] rfl) (ci := 3) (q0 := 0) rfl rfl) rfl hl.1 rfl (Nat.le_of_ble_eq_true rfl) dX5_beside_57 ⟨Nat.zero_le _, Nat.zero_le _⟩ (fun r_5 hw => ?_)
      refine lv_iconst (v := 1) hx hb dX5_beside_60 (by decide) ?_
      refine lv_iadd hx hb dX5_beside_61 ?_
      refine z_ri [.int r_4, .int (r_5 + (1 : Int32))] [] ⟨hx, hb, hml, hown, hts⟩ (kX4_firstOfDepth l D cA a_tree a_tree_row a_tree_weights a_tree_carried a_tree_row_gains a_tree_row_lows a_tree_row_highs f_tree_row_low f_tree_row_high f_tree_row_places f_tree_row_gains f_tree_row_lows f_tree_row_highs f_tree_weights f_tree_carried r_4 (r_5 + (1 : Int32)) _ hw) (cwV 2 hts gX5_beside_X4_firstOfDepth rfl rfl rfl vX4_firstOfDepth ⟨Nat.le_of_ble_eq_true rfl, Nat.le_of_ble_eq_true rfl⟩) hK (hP.sub [1, 2, 3, 4, 5, 6, 7] rfl) (va_recv hK.1 (hP.sub (ws' := [(a_tree, .inr (3, [.ref a_tree_row, .ref a_tree_weights, .ref a_tree_carried]))]) [1] rfl) (ci := 3) (q0 := 0) rfl rfl) rfl hl.1 rfl (Nat.le_of_ble_eq_true rfl) dX5_beside_62 ⟨Nat.zero_le _, Nat.zero_le _⟩ (fun r_6 hw => ?_)
      exact z_iret hx hb hr hlk hw dX5_beside_65
    by_cases c_7 : p2 = 1
    · have hw := hw.2.1 c_7
      refine lv_lookup (tgt := 66) (off := 52) hx hb dX5_beside_14 (by decide) (by rw [c_7]; decide) (by decide) ?_
      refine lv_aload_n hx hb dX5_beside_66 rfl (lv_at hl 0 rfl) ?_
      refine va_get (D := D) (ci := 4) (v := .ref a_tree) (C := RX5) (T := TX5) (N := 7) hx hb hts iwX5 hown hK.1 hP 0 rfl rfl 0 (by decide) kf12 (fun _ h9 => h9) rfl dX5_beside_67 ?_
      refine lv_aload_n hx hb dX5_beside_70 rfl (lv_at hl 0 rfl) ?_
      refine va_get (D := D) (ci := 4) (v := .ref a_tree) (C := RX5) (T := TX5) (N := 7) hx hb hts iwX5 hown hK.1 hP 0 rfl rfl 0 (by decide) kf12 (fun _ h9 => h9) rfl dX5_beside_71 ?_
      refine lv_iload_n hx hb dX5_beside_74 rfl (lv_at hl 1 rfl) ?_
      refine z_ri [.int p1] [.ref a_tree] ⟨hx, hb, hml, hown, hts⟩ (kX4_depthOf l D cA a_tree a_tree_row a_tree_weights a_tree_carried a_tree_row_gains a_tree_row_lows a_tree_row_highs f_tree_row_low f_tree_row_high f_tree_row_places f_tree_row_gains f_tree_row_lows f_tree_row_highs f_tree_weights f_tree_carried p1 _ hw) (cwV 1 hts gX5_beside_X4_depthOf rfl rfl rfl vX4_depthOf ⟨Nat.le_of_ble_eq_true rfl, Nat.le_of_ble_eq_true rfl⟩) hK (hP.sub [1, 2, 3, 4, 5, 6, 7] rfl) (va_recv hK.1 (hP.sub (ws' := [(a_tree, .inr (3, [.ref a_tree_row, .ref a_tree_weights, .ref a_tree_carried]))]) [1] rfl) (ci := 3) (q0 := 0) rfl rfl) rfl hl.1 rfl (Nat.le_of_ble_eq_true rfl) dX5_beside_75 ⟨Nat.zero_le _, Nat.zero_le _⟩ (fun r_8 hw => ?_)
      refine lv_aload_n hx hb dX5_beside_78 rfl (lv_at hl 0 rfl) ?_
      refine va_get (D := D) (ci := 4) (v := .ref a_tree) (C := RX5) (T := TX5) (N := 7) hx hb hts iwX5 hown hK.1 hP 0 rfl rfl 0 (by decide) kf12 (fun _ h9 => h9) rfl dX5_beside_79 ?_
      refine lv_iload_n hx hb dX5_beside_82 rfl (lv_at hl 1 rfl) ?_
      refine z_ri [.int p1] [.int r_8, .ref a_tree] ⟨hx, hb, hml, hown, hts⟩ (kX4_openOf l D cA a_tree a_tree_row a_tree_weights a_tree_carried a_tree_row_gains a_tree_row_lows a_tree_row_highs f_tree_row_low f_tree_row_high f_tree_row_places f_tree_row_gains f_tree_row_lows f_tree_row_highs f_tree_weights f_tree_carried p1 _ hw) (cwV 1 hts gX5_beside_X4_openOf rfl rfl rfl vX4_openOf ⟨Nat.le_of_ble_eq_true rfl, Nat.le_of_ble_eq_true rfl⟩) hK (hP.sub [1, 2, 3, 4, 5, 6, 7] rfl) (va_recv hK.1 (hP.sub (ws' := [(a_tree, .inr (3, [.ref a_tree_row, .ref a_tree_weights, .ref a_tree_carried]))]) [1] rfl) (ci := 3) (q0 := 0) rfl rfl) rfl hl.1 rfl (Nat.le_of_ble_eq_true rfl) dX5_beside_83 ⟨Nat.zero_le _, Nat.zero_le _⟩ (fun r_9 hw => ?_)
      refine z_ri [.int r_8, .int r_9] [] ⟨hx, hb, hml, hown, hts⟩ (kX4_lastOfDepth l D cA a_tree a_tree_row a_tree_weights a_tree_carried a_tree_row_gains a_tree_row_lows a_tree_row_highs f_tree_row_low f_tree_row_high f_tree_row_places f_tree_row_gains f_tree_row_lows f_tree_row_highs f_tree_weights f_tree_carried r_8 r_9 _ hw) (cwV 2 hts gX5_beside_X4_lastOfDepth rfl rfl rfl vX4_lastOfDepth ⟨Nat.le_of_ble_eq_true rfl, Nat.le_of_ble_eq_true rfl⟩) hK (hP.sub [1, 2, 3, 4, 5, 6, 7] rfl) (va_recv hK.1 (hP.sub (ws' := [(a_tree, .inr (3, [.ref a_tree_row, .ref a_tree_weights, .ref a_tree_carried]))]) [1] rfl) (ci := 3) (q0 := 0) rfl rfl) rfl hl.1 rfl (Nat.le_of_ble_eq_true rfl) dX5_beside_86 ⟨Nat.zero_le _, Nat.zero_le _⟩ (fun r_10 hw => ?_)
      exact z_iret hx hb hr hlk hw dX5_beside_89
    have hw := hw.2.2 c_3 c_7
    refine lv_lookup (tgt := 90) (off := 76) hx hb dX5_beside_14 (by decide) (by show Op.lookupswitch.offset [(0, 26), (1, 52)] _ _ = _; rw [lv_osw c_3 (by decide), lv_osw c_7 (by decide)]; rfl) (by decide) ?_
    refine lv_iconst (v := -1) hx hb dX5_beside_90 (by decide) ?_
    exact z_iret hx hb hr hlk hw dX5_beside_91
  · have hw := hw.2 c_2
    refine lv_iconst (v := -1) hx hb dX5_beside_11 (by decide) ?_
    exact z_iret hx hb hr hlk hw dX5_beside_12
def wX5_deepest (f_tree_row_low : Int64) (f_tree_row_high : Int64) (f_tree_row_places : Int32) (f_tree_row_gains : Nat → Int32) (f_tree_row_lows : Nat → Int32) (f_tree_row_highs : Nat → Int32) (p1 : Int32) (post : Int32 → Prop) : Prop := (wX4_has f_tree_row_places p1 (fun r_1 : Int32 => (((r_1 = 0 → post (-1 : Int32)) ∧ (¬ r_1 = 0 → (wX4_deepestOf f_tree_row_low f_tree_row_high f_tree_row_places f_tree_row_gains f_tree_row_lows f_tree_row_highs p1 (fun r_3 : Int32 => (post r_3))))))))
abbrev rX5_deepest : Room := { frames := 5, cells := 0, slots := 0, locals := 117 }
theorem vX5_deepest : yX5_deepest.cls = RX5 ∧ yX5_deepest.cls ≠ "java/lang/invoke/MethodHandle" ∧ yX5_deepest.cls ≠ "java/lang/invoke/VarHandle" ∧ (parseMethodDescriptor yX5_deepest.desc).map (fun d => d.parameters.length) = some 1 := by decide +kernel
set_option maxHeartbeats 4000000 in
set_option maxRecDepth 100000 in
theorem kX5_deepest (l : Launch) (D : va_G) (cA : Nat → ClassId) (a0 a_tree a_draft a_images a_kept a_tape a_sheets a_tree_row a_tree_weights a_tree_carried a_tree_row_gains a_tree_row_lows a_tree_row_highs : Nat) (f_latestTorn : Int32) (f_tree_row_low : Int64) (f_tree_row_high : Int64) (f_tree_row_places : Int32) (f_tree_row_gains : Nat → Int32) (f_tree_row_lows : Nat → Int32) (f_tree_row_highs : Nat → Int32) (f_tree_weights : Nat → Int32) (f_tree_carried : Nat → Int32) (p1 : Int32) (post : Int32 → Prop) (h : wX5_deepest f_tree_row_low f_tree_row_high f_tree_row_places f_tree_row_gains f_tree_row_lows f_tree_row_highs p1 post) : Met l yX5_deepest wsX5_deepest rX5_deepest (zPr D cA [.ref a0, .int p1] [(a0, .inr (4, [.ref a_tree, .ref a_draft, .ref a_images, .ref a_kept, .ref a_tape, .ref a_sheets, .int f_latestTorn])), (a_tree, .inr (3, [.ref a_tree_row, .ref a_tree_weights, .ref a_tree_carried])), (a_tree_row, .inr (0, [.long f_tree_row_low, .long f_tree_row_high, .int f_tree_row_places, .ref a_tree_row_gains, .ref a_tree_row_lows, .ref a_tree_row_highs])), (a_tree_row_gains, .inl (cA 0, 8, .inl f_tree_row_gains)), (a_tree_row_lows, .inl (cA 0, 8, .inl f_tree_row_lows)), (a_tree_row_highs, .inl (cA 0, 8, .inl f_tree_row_highs)), (a_tree_weights, .inl (cA 0, 64, .inl f_tree_weights)), (a_tree_carried, .inl (cA 0, 64, .inl f_tree_carried))]) (vp_Si post) 0 0 (fun _ => False) := by
  refine z_ro (cc := cX5_deepest) (maxL := 2) (ret := (some .int)) (by decide) rfl (Nat.le_of_ble_eq_true rfl) ?_
  intro p e s m args below meth c ls hx hb hr hlk hml hown hts hK hP hl
  have hown : s.vm.findClass RX5 = some m.cls := hown
  have hl : lv_has ls 2 [(0, .ref a0), (1, .int p1)] := hl
  have hw := h
  unfold wX5_deepest at hw
  have iwX5 : ∀ w ∈ wsX50, w ∈ wsX5_deepest := fun w h9 => List.mem_cons_of_mem _ (List.mem_append_left _ (List.mem_append_left _ (List.mem_append_right _ h9)))
  have kf12 := hts (.fieldLink RX5 12 "ExcessTree" "tree" "LExcessTree$Tree;") (by decide +kernel)
  refine lv_aload_n hx hb dX5_deepest_0 rfl (lv_at hl 0 rfl) ?_
  refine va_get (D := D) (ci := 4) (v := .ref a_tree) (C := RX5) (T := TX5) (N := 7) hx hb hts iwX5 hown hK.1 hP 0 rfl rfl 0 (by decide) kf12 (fun _ h9 => h9) rfl dX5_deepest_1 ?_
  refine lv_iload_n hx hb dX5_deepest_4 rfl (lv_at hl 1 rfl) ?_
  refine z_ri [.int p1] [] ⟨hx, hb, hml, hown, hts⟩ (kX4_has l D cA a_tree a_tree_row a_tree_weights a_tree_carried a_tree_row_gains a_tree_row_lows a_tree_row_highs f_tree_row_low f_tree_row_high f_tree_row_places f_tree_row_gains f_tree_row_lows f_tree_row_highs f_tree_weights f_tree_carried p1 _ hw) (cwV 1 hts gX5_deepest_X4_has rfl rfl rfl vX4_has ⟨Nat.le_of_ble_eq_true rfl, Nat.le_of_ble_eq_true rfl⟩) hK (hP.sub [1, 2, 3, 4, 5, 6, 7] rfl) (va_recv hK.1 (hP.sub (ws' := [(a_tree, .inr (3, [.ref a_tree_row, .ref a_tree_weights, .ref a_tree_carried]))]) [1] rfl) (ci := 3) (q0 := 0) rfl rfl) rfl hl.1 rfl (Nat.le_of_ble_eq_true rfl) dX5_deepest_5 ⟨Nat.zero_le _, Nat.zero_le _⟩ (fun r_1 hw => ?_)
  refine lv_if_eq (tgt := 22) hx hb dX5_deepest_8 (by decide) (fun c_2 => ?_) (fun c_2 => ?_)
  · have hw := hw.1 c_2
    refine lv_iconst (v := -1) hx hb dX5_deepest_22 (by decide) ?_
    exact z_iret hx hb hr hlk hw dX5_deepest_23
  · have hw := hw.2 c_2
    refine lv_aload_n hx hb dX5_deepest_11 rfl (lv_at hl 0 rfl) ?_
    refine va_get (D := D) (ci := 4) (v := .ref a_tree) (C := RX5) (T := TX5) (N := 7) hx hb hts iwX5 hown hK.1 hP 0 rfl rfl 0 (by decide) kf12 (fun _ h9 => h9) rfl dX5_deepest_12 ?_
    refine lv_iload_n hx hb dX5_deepest_15 rfl (lv_at hl 1 rfl) ?_
    refine z_ri [.int p1] [] ⟨hx, hb, hml, hown, hts⟩ (kX4_deepestOf l D cA a_tree a_tree_row a_tree_weights a_tree_carried a_tree_row_gains a_tree_row_lows a_tree_row_highs f_tree_row_low f_tree_row_high f_tree_row_places f_tree_row_gains f_tree_row_lows f_tree_row_highs f_tree_weights f_tree_carried p1 _ hw) (cwV 1 hts gX5_deepest_X4_deepestOf rfl rfl rfl vX4_deepestOf ⟨Nat.le_of_ble_eq_true rfl, Nat.le_of_ble_eq_true rfl⟩) hK (hP.sub [1, 2, 3, 4, 5, 6, 7] rfl) (va_recv hK.1 (hP.sub (ws' := [(a_tree, .inr (3, [.ref a_tree_row, .ref a_tree_weights, .ref a_tree_carried]))]) [1] rfl) (ci := 3) (q0 := 0) rfl rfl) rfl hl.1 rfl (Nat.le_of_ble_eq_true rfl) dX5_deepest_16 ⟨Nat.zero_le _, Nat.zero_le _⟩ (fun r_3 hw => ?_)
    refine lv_goto (tgt := 23) hx hb dX5_deepest_19 (by decide) ?_
    exact z_iret hx hb hr hlk hw dX5_deepest_23
