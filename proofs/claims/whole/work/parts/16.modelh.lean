/-! written by wip/whole/gen.py -/
def wX6_node (f_state : Nat → Int32) (p1 : Int32) (p2 : Int32) (post : Int32 → Prop) : Prop := (wX6_isNode f_state p1 (fun r_1 : Int32 => (((¬ r_1 = 0 → ((p2 = 0 → (wX6_placeAsked f_state p1 p2 (fun r_4 : Int32 => (post r_4)))) ∧ (p2 = 1 → (wX6_placeAsked f_state p1 p2 (fun r_6 : Int32 => (post r_6)))) ∧ (p2 = 2 → (wX6_placeAsked f_state p1 p2 (fun r_8 : Int32 => (post r_8)))) ∧ (p2 = 3 → (wX6_upFrom f_state p1 (1 : Int32) (fun r_10 : Int32 => (post r_10)))) ∧ (p2 = 4 → (wX6_childOf f_state p1 (0 : Int32) (fun r_12 : Int32 => (post r_12)))) ∧ (p2 = 5 → (wX6_childrenOf f_state p1 (fun r_14 : Int32 => (((¬ r_14 = 0 → (wX6_childrenOf f_state p1 (fun r_16 : Int32 => ((wX6_childOf f_state p1 (r_16 - (1 : Int32)) (fun r_17 : Int32 => (post r_17))))))) ∧ (r_14 = 0 → post (-4 : Int32))))))) ∧ (p2 = 6 → (wX6_nextOf f_state p1 (1 : Int32) (fun r_19 : Int32 => (post r_19)))) ∧ (p2 = 7 → (wX6_nextOf f_state p1 (-1 : Int32) (fun r_21 : Int32 => (post r_21)))) ∧ (p2 = 8 → (wX6_childrenOf f_state p1 (fun r_23 : Int32 => (post r_23)))) ∧ (p2 = 9 → (wX6_sizeOf f_state p1 (fun r_25 : Int32 => (post r_25)))) ∧ (p2 = 10 → (wX6_leavesOf f_state p1 (fun r_27 : Int32 => (post r_27)))) ∧ (p2 = 11 → (wX6_deepestOf f_state p1 (fun r_29 : Int32 => ((wX6_depthOf f_state r_29 (fun r_30 : Int32 => ((wX6_depthOf f_state p1 (fun r_31 : Int32 => (post (r_30 - r_31))))))))))) ∧ (p2 = 12 → (wX6_fromBelow f_state p1 (fun r_33 : Int32 => (post r_33)))) ∧ (p2 = 13 → (wX6_whichOf f_state p1 (fun r_35 : Int32 => (post r_35)))) ∧ (¬ p2 = 0 → ¬ p2 = 1 → ¬ p2 = 2 → ¬ p2 = 3 → ¬ p2 = 4 → ¬ p2 = 5 → ¬ p2 = 6 → ¬ p2 = 7 → ¬ p2 = 8 → ¬ p2 = 9 → ¬ p2 = 10 → ¬ p2 = 11 → ¬ p2 = 12 → ¬ p2 = 13 → post (-1 : Int32)))) ∧ (r_1 = 0 → post (-1 : Int32))))))
abbrev rX6_node : Room := { frames := 5, cells := 0, slots := 0, locals := 119 }
theorem vX6_node : yX6_node.cls = RX6 ∧ yX6_node.cls ≠ "java/lang/invoke/MethodHandle" ∧ yX6_node.cls ≠ "java/lang/invoke/VarHandle" ∧ (parseMethodDescriptor yX6_node.desc).map (fun d => d.parameters.length) = some 2 := by decide +kernel
set_option maxHeartbeats 4000000 in
set_option maxRecDepth 100000 in
theorem kX6_node (l : Launch) (D : va_G) (cA : Nat → ClassId) (a0 a_state a_readPage a_tape a_cutRow a_cutWeights a_isKept a_lanes a_lengths a_cells : Nat) (f_taped : Int32) (f_fault : Int32) (f_broken : Int32) (f_brokenAt : Int32) (f_spot : Int32) (f_here : Int32) (f_token : Int32) (f_value : Int32) (f_torn : Int32) (f_state : Nat → Int32) (f_readPage : Nat → Int32) (f_tape : Nat → Int32) (f_cutRow : Nat → Int32) (f_cutWeights : Nat → Int32) (f_isKept : Nat → Int32) (f_lanes : Nat → Int32) (f_lengths : Nat → Int32) (f_cells : Nat → Int64) (p1 : Int32) (p2 : Int32) (post : Int32 → Prop) (h : wX6_node f_state p1 p2 post) : Met l yX6_node wsX6_node rX6_node (zPr D cA [.ref a0, .int p1, .int p2] [(a0, .inr (5, [.ref a_state, .ref a_readPage, .ref a_tape, .int f_taped, .int f_fault, .int f_broken, .int f_brokenAt, .int f_spot, .int f_here, .int f_token, .int f_value, .ref a_cutRow, .ref a_cutWeights, .ref a_isKept, .ref a_lanes, .ref a_lengths, .ref a_cells, .int f_torn])), (a_state, .inl (cA 0, 579, .inl f_state)), (a_readPage, .inl (cA 0, 193, .inl f_readPage)), (a_tape, .inl (cA 0, 160, .inl f_tape)), (a_cutRow, .inl (cA 0, 128, .inl f_cutRow)), (a_cutWeights, .inl (cA 0, 64, .inl f_cutWeights)), (a_isKept, .inl (cA 3, 2, .inl f_isKept)), (a_lanes, .inl (cA 0, 4, .inl f_lanes)), (a_lengths, .inl (cA 0, 4, .inl f_lengths)), (a_cells, .inl (cA 1, 160, .inr (.inl f_cells)))]) (vp_Si post) 0 0 (fun _ => False) := by
  refine z_ro (cc := cX6_node) (maxL := 3) (ret := (some .int)) (by decide) rfl (Nat.le_of_ble_eq_true rfl) ?_
  intro p e s m args below meth c ls hx hb hr hlk hml hown hts hK hP hl
  have hown : s.vm.findClass RX6 = some m.cls := hown
  have hl : lv_has ls 3 [(0, .ref a0), (1, .int p1), (2, .int p2)] := hl
  have hw := h
  unfold wX6_node at hw
  refine lv_aload_n hx hb dX6_node_0 rfl (lv_at hl 0 rfl) ?_
  refine lv_iload_n hx hb dX6_node_1 rfl (lv_at hl 1 rfl) ?_
  refine z_ri [.int p1] [] ⟨hx, hb, hml, hown, hts⟩ (kX6_isNode l D cA a0 a_state a_readPage a_tape a_cutRow a_cutWeights a_isKept a_lanes a_lengths a_cells f_taped f_fault f_broken f_brokenAt f_spot f_here f_token f_value f_torn f_state f_readPage f_tape f_cutRow f_cutWeights f_isKept f_lanes f_lengths f_cells p1 _ hw) (cwV 1 hts gX6_node_X6_isNode rfl rfl rfl vX6_isNode ⟨Nat.le_of_ble_eq_true rfl, Nat.le_of_ble_eq_true rfl⟩) hK (hP.sub [0, 1, 2, 3, 4, 5, 6, 7, 8, 9] rfl) (va_recv hK.1 (hP.sub (ws' := [(a0, .inr (5, [.ref a_state, .ref a_readPage, .ref a_tape, .int f_taped, .int f_fault, .int f_broken, .int f_brokenAt, .int f_spot, .int f_here, .int f_token, .int f_value, .ref a_cutRow, .ref a_cutWeights, .ref a_isKept, .ref a_lanes, .ref a_lengths, .ref a_cells, .int f_torn]))]) [0] rfl) (ci := 5) (q0 := 0) rfl rfl) rfl hl.1 rfl (Nat.le_of_ble_eq_true rfl) dX6_node_2 ⟨Nat.zero_le _, Nat.zero_le _⟩ (fun r_1 hw => ?_)
  refine lv_if_ne (tgt := 10) hx hb dX6_node_5 (by decide) (fun c_2 => ?_) (fun c_2 => ?_)
  · have hw := hw.1 c_2
    refine lv_iload_n hx hb dX6_node_10 rfl (lv_at hl 2 rfl) ?_
    by_cases c_3 : p2 = 0
    · have hw := hw.1 c_3
      refine lv_tableIn (tgt := 80) (off := 69) hx hb dX6_node_11 (by rw [c_3]; decide) (by rw [c_3]; decide) (by rw [c_3]; decide) (by decide) ?_
      refine lv_aload_n hx hb dX6_node_80 rfl (lv_at hl 0 rfl) ?_
      refine lv_iload_n hx hb dX6_node_81 rfl (lv_at hl 1 rfl) ?_
      refine lv_iload_n hx hb dX6_node_82 rfl (lv_at hl 2 rfl) ?_
      refine z_ri [.int p1, .int p2] [] ⟨hx, hb, hml, hown, hts⟩ (kX6_placeAsked l D cA a0 a_state a_readPage a_tape a_cutRow a_cutWeights a_isKept a_lanes a_lengths a_cells f_taped f_fault f_broken f_brokenAt f_spot f_here f_token f_value f_torn f_state f_readPage f_tape f_cutRow f_cutWeights f_isKept f_lanes f_lengths f_cells p1 p2 _ hw) (cwV 2 hts gX6_node_X6_placeAsked rfl rfl rfl vX6_placeAsked ⟨Nat.le_of_ble_eq_true rfl, Nat.le_of_ble_eq_true rfl⟩) hK (hP.sub [0, 1, 2, 3, 4, 5, 6, 7, 8, 9] rfl) (va_recv hK.1 (hP.sub (ws' := [(a0, .inr (5, [.ref a_state, .ref a_readPage, .ref a_tape, .int f_taped, .int f_fault, .int f_broken, .int f_brokenAt, .int f_spot, .int f_here, .int f_token, .int f_value, .ref a_cutRow, .ref a_cutWeights, .ref a_isKept, .ref a_lanes, .ref a_lengths, .ref a_cells, .int f_torn]))]) [0] rfl) (ci := 5) (q0 := 0) rfl rfl) rfl hl.1 rfl (Nat.le_of_ble_eq_true rfl) dX6_node_83 ⟨Nat.zero_le _, Nat.zero_le _⟩ (fun r_4 hw => ?_)
      exact z_iret hx hb hr hlk hw dX6_node_86
    by_cases c_5 : p2 = 1
    · have hw := hw.2.1 c_5
      refine lv_tableIn (tgt := 80) (off := 69) hx hb dX6_node_11 (by rw [c_5]; decide) (by rw [c_5]; decide) (by rw [c_5]; decide) (by decide) ?_
      refine lv_aload_n hx hb dX6_node_80 rfl (lv_at hl 0 rfl) ?_
      refine lv_iload_n hx hb dX6_node_81 rfl (lv_at hl 1 rfl) ?_
      refine lv_iload_n hx hb dX6_node_82 rfl (lv_at hl 2 rfl) ?_
      refine z_ri [.int p1, .int p2] [] ⟨hx, hb, hml, hown, hts⟩ (kX6_placeAsked l D cA a0 a_state a_readPage a_tape a_cutRow a_cutWeights a_isKept a_lanes a_lengths a_cells f_taped f_fault f_broken f_brokenAt f_spot f_here f_token f_value f_torn f_state f_readPage f_tape f_cutRow f_cutWeights f_isKept f_lanes f_lengths f_cells p1 p2 _ hw) (cwV 2 hts gX6_node_X6_placeAsked rfl rfl rfl vX6_placeAsked ⟨Nat.le_of_ble_eq_true rfl, Nat.le_of_ble_eq_true rfl⟩) hK (hP.sub [0, 1, 2, 3, 4, 5, 6, 7, 8, 9] rfl) (va_recv hK.1 (hP.sub (ws' := [(a0, .inr (5, [.ref a_state, .ref a_readPage, .ref a_tape, .int f_taped, .int f_fault, .int f_broken, .int f_brokenAt, .int f_spot, .int f_here, .int f_token, .int f_value, .ref a_cutRow, .ref a_cutWeights, .ref a_isKept, .ref a_lanes, .ref a_lengths, .ref a_cells, .int f_torn]))]) [0] rfl) (ci := 5) (q0 := 0) rfl rfl) rfl hl.1 rfl (Nat.le_of_ble_eq_true rfl) dX6_node_83 ⟨Nat.zero_le _, Nat.zero_le _⟩ (fun r_6 hw => ?_)
      exact z_iret hx hb hr hlk hw dX6_node_86
    by_cases c_7 : p2 = 2
    · have hw := hw.2.2.1 c_7
      refine lv_tableIn (tgt := 80) (off := 69) hx hb dX6_node_11 (by rw [c_7]; decide) (by rw [c_7]; decide) (by rw [c_7]; decide) (by decide) ?_
      refine lv_aload_n hx hb dX6_node_80 rfl (lv_at hl 0 rfl) ?_
      refine lv_iload_n hx hb dX6_node_81 rfl (lv_at hl 1 rfl) ?_
      refine lv_iload_n hx hb dX6_node_82 rfl (lv_at hl 2 rfl) ?_
      refine z_ri [.int p1, .int p2] [] ⟨hx, hb, hml, hown, hts⟩ (kX6_placeAsked l D cA a0 a_state a_readPage a_tape a_cutRow a_cutWeights a_isKept a_lanes a_lengths a_cells f_taped f_fault f_broken f_brokenAt f_spot f_here f_token f_value f_torn f_state f_readPage f_tape f_cutRow f_cutWeights f_isKept f_lanes f_lengths f_cells p1 p2 _ hw) (cwV 2 hts gX6_node_X6_placeAsked rfl rfl rfl vX6_placeAsked ⟨Nat.le_of_ble_eq_true rfl, Nat.le_of_ble_eq_true rfl⟩) hK (hP.sub [0, 1, 2, 3, 4, 5, 6, 7, 8, 9] rfl) (va_recv hK.1 (hP.sub (ws' := [(a0, .inr (5, [.ref a_state, .ref a_readPage, .ref a_tape, .int f_taped, .int f_fault, .int f_broken, .int f_brokenAt, .int f_spot, .int f_here, .int f_token, .int f_value, .ref a_cutRow, .ref a_cutWeights, .ref a_isKept, .ref a_lanes, .ref a_lengths, .ref a_cells, .int f_torn]))]) [0] rfl) (ci := 5) (q0 := 0) rfl rfl) rfl hl.1 rfl (Nat.le_of_ble_eq_true rfl) dX6_node_83 ⟨Nat.zero_le _, Nat.zero_le _⟩ (fun r_8 hw => ?_)
      exact z_iret hx hb hr hlk hw dX6_node_86
    by_cases c_9 : p2 = 3
    · have hw := hw.2.2.2.1 c_9
      refine lv_tableIn (tgt := 87) (off := 76) hx hb dX6_node_11 (by rw [c_9]; decide) (by rw [c_9]; decide) (by rw [c_9]; decide) (by decide) ?_
      refine lv_aload_n hx hb dX6_node_87 rfl (lv_at hl 0 rfl) ?_
      refine lv_iload_n hx hb dX6_node_88 rfl (lv_at hl 1 rfl) ?_
      refine lv_iconst (v := 1) hx hb dX6_node_89 (by decide) ?_
      refine z_ri [.int p1, .int (1 : Int32)] [] ⟨hx, hb, hml, hown, hts⟩ (kX6_upFrom l D cA a0 a_state a_readPage a_tape a_cutRow a_cutWeights a_isKept a_lanes a_lengths a_cells f_taped f_fault f_broken f_brokenAt f_spot f_here f_token f_value f_torn f_state f_readPage f_tape f_cutRow f_cutWeights f_isKept f_lanes f_lengths f_cells p1 (1 : Int32) _ hw) (cwV 2 hts gX6_node_X6_upFrom rfl rfl rfl vX6_upFrom ⟨Nat.le_of_ble_eq_true rfl, Nat.le_of_ble_eq_true rfl⟩) hK (hP.sub [0, 1, 2, 3, 4, 5, 6, 7, 8, 9] rfl) (va_recv hK.1 (hP.sub (ws' := [(a0, .inr (5, [.ref a_state, .ref a_readPage, .ref a_tape, .int f_taped, .int f_fault, .int f_broken, .int f_brokenAt, .int f_spot, .int f_here, .int f_token, .int f_value, .ref a_cutRow, .ref a_cutWeights, .ref a_isKept, .ref a_lanes, .ref a_lengths, .ref a_cells, .int f_torn]))]) [0] rfl) (ci := 5) (q0 := 0) rfl rfl) rfl hl.1 rfl (Nat.le_of_ble_eq_true rfl) dX6_node_90 ⟨Nat.zero_le _, Nat.zero_le _⟩ (fun r_10 hw => ?_)
      exact z_iret hx hb hr hlk hw dX6_node_93
    by_cases c_11 : p2 = 4
    · have hw := hw.2.2.2.2.1 c_11
      refine lv_tableIn (tgt := 94) (off := 83) hx hb dX6_node_11 (by rw [c_11]; decide) (by rw [c_11]; decide) (by rw [c_11]; decide) (by decide) ?_
      refine lv_aload_n hx hb dX6_node_94 rfl (lv_at hl 0 rfl) ?_
      refine lv_iload_n hx hb dX6_node_95 rfl (lv_at hl 1 rfl) ?_
      refine lv_iconst (v := 0) hx hb dX6_node_96 (by decide) ?_
      refine z_ri [.int p1, .int (0 : Int32)] [] ⟨hx, hb, hml, hown, hts⟩ (kX6_childOf l D cA a0 a_state a_readPage a_tape a_cutRow a_cutWeights a_isKept a_lanes a_lengths a_cells f_taped f_fault f_broken f_brokenAt f_spot f_here f_token f_value f_torn f_state f_readPage f_tape f_cutRow f_cutWeights f_isKept f_lanes f_lengths f_cells p1 (0 : Int32) _ hw) (cwV 2 hts gX6_node_X6_childOf rfl rfl rfl vX6_childOf ⟨Nat.le_of_ble_eq_true rfl, Nat.le_of_ble_eq_true rfl⟩) hK (hP.sub [0, 1, 2, 3, 4, 5, 6, 7, 8, 9] rfl) (va_recv hK.1 (hP.sub (ws' := [(a0, .inr (5, [.ref a_state, .ref a_readPage, .ref a_tape, .int f_taped, .int f_fault, .int f_broken, .int f_brokenAt, .int f_spot, .int f_here, .int f_token, .int f_value, .ref a_cutRow, .ref a_cutWeights, .ref a_isKept, .ref a_lanes, .ref a_lengths, .ref a_cells, .int f_torn]))]) [0] rfl) (ci := 5) (q0 := 0) rfl rfl) rfl hl.1 rfl (Nat.le_of_ble_eq_true rfl) dX6_node_97 ⟨Nat.zero_le _, Nat.zero_le _⟩ (fun r_12 hw => ?_)
      exact z_iret hx hb hr hlk hw dX6_node_100
    by_cases c_13 : p2 = 5
    · have hw := hw.2.2.2.2.2.1 c_13
      refine lv_tableIn (tgt := 101) (off := 90) hx hb dX6_node_11 (by rw [c_13]; decide) (by rw [c_13]; decide) (by rw [c_13]; decide) (by decide) ?_
      refine lv_aload_n hx hb dX6_node_101 rfl (lv_at hl 0 rfl) ?_
      refine lv_iload_n hx hb dX6_node_102 rfl (lv_at hl 1 rfl) ?_
      refine z_ri [.int p1] [] ⟨hx, hb, hml, hown, hts⟩ (kX6_childrenOf l D cA a0 a_state a_readPage a_tape a_cutRow a_cutWeights a_isKept a_lanes a_lengths a_cells f_taped f_fault f_broken f_brokenAt f_spot f_here f_token f_value f_torn f_state f_readPage f_tape f_cutRow f_cutWeights f_isKept f_lanes f_lengths f_cells p1 _ hw) (cwV 1 hts gX6_node_X6_childrenOf rfl rfl rfl vX6_childrenOf ⟨Nat.le_of_ble_eq_true rfl, Nat.le_of_ble_eq_true rfl⟩) hK (hP.sub [0, 1, 2, 3, 4, 5, 6, 7, 8, 9] rfl) (va_recv hK.1 (hP.sub (ws' := [(a0, .inr (5, [.ref a_state, .ref a_readPage, .ref a_tape, .int f_taped, .int f_fault, .int f_broken, .int f_brokenAt, .int f_spot, .int f_here, .int f_token, .int f_value, .ref a_cutRow, .ref a_cutWeights, .ref a_isKept, .ref a_lanes, .ref a_lengths, .ref a_cells, .int f_torn]))]) [0] rfl) (ci := 5) (q0 := 0) rfl rfl) rfl hl.1 rfl (Nat.le_of_ble_eq_true rfl) dX6_node_103 ⟨Nat.zero_le _, Nat.zero_le _⟩ (fun r_14 hw => ?_)
      refine lv_if_ne (tgt := 114) hx hb dX6_node_106 (by decide) (fun c_15 => ?_) (fun c_15 => ?_)
      · have hw := hw.1 c_15
        refine lv_aload_n hx hb dX6_node_114 rfl (lv_at hl 0 rfl) ?_
        refine lv_iload_n hx hb dX6_node_115 rfl (lv_at hl 1 rfl) ?_
        refine lv_aload_n hx hb dX6_node_116 rfl (lv_at hl 0 rfl) ?_
        refine lv_iload_n hx hb dX6_node_117 rfl (lv_at hl 1 rfl) ?_
        refine z_ri [.int p1] [.int p1, .ref a0] ⟨hx, hb, hml, hown, hts⟩ (kX6_childrenOf l D cA a0 a_state a_readPage a_tape a_cutRow a_cutWeights a_isKept a_lanes a_lengths a_cells f_taped f_fault f_broken f_brokenAt f_spot f_here f_token f_value f_torn f_state f_readPage f_tape f_cutRow f_cutWeights f_isKept f_lanes f_lengths f_cells p1 _ hw) (cwV 1 hts gX6_node_X6_childrenOf rfl rfl rfl vX6_childrenOf ⟨Nat.le_of_ble_eq_true rfl, Nat.le_of_ble_eq_true rfl⟩) hK (hP.sub [0, 1, 2, 3, 4, 5, 6, 7, 8, 9] rfl) (va_recv hK.1 (hP.sub (ws' := [(a0, .inr (5, [.ref a_state, .ref a_readPage, .ref a_tape, .int f_taped, .int f_fault, .int f_broken, .int f_brokenAt, .int f_spot, .int f_here, .int f_token, .int f_value, .ref a_cutRow, .ref a_cutWeights, .ref a_isKept, .ref a_lanes, .ref a_lengths, .ref a_cells, .int f_torn]))]) [0] rfl) (ci := 5) (q0 := 0) rfl rfl) rfl hl.1 rfl (Nat.le_of_ble_eq_true rfl) dX6_node_118 ⟨Nat.zero_le _, Nat.zero_le _⟩ (fun r_16 hw => ?_)
        refine lv_iconst (v := 1) hx hb dX6_node_121 (by decide) ?_
        refine lv_isub hx hb dX6_node_122 ?_
        refine z_ri [.int p1, .int (r_16 - (1 : Int32))] [] ⟨hx, hb, hml, hown, hts⟩ (kX6_childOf l D cA a0 a_state a_readPage a_tape a_cutRow a_cutWeights a_isKept a_lanes a_lengths a_cells f_taped f_fault f_broken f_brokenAt f_spot f_here f_token f_value f_torn f_state f_readPage f_tape f_cutRow f_cutWeights f_isKept f_lanes f_lengths f_cells p1 (r_16 - (1 : Int32)) _ hw) (cwV 2 hts gX6_node_X6_childOf rfl rfl rfl vX6_childOf ⟨Nat.le_of_ble_eq_true rfl, Nat.le_of_ble_eq_true rfl⟩) hK (hP.sub [0, 1, 2, 3, 4, 5, 6, 7, 8, 9] rfl) (va_recv hK.1 (hP.sub (ws' := [(a0, .inr (5, [.ref a_state, .ref a_readPage, .ref a_tape, .int f_taped, .int f_fault, .int f_broken, .int f_brokenAt, .int f_spot, .int f_here, .int f_token, .int f_value, .ref a_cutRow, .ref a_cutWeights, .ref a_isKept, .ref a_lanes, .ref a_lengths, .ref a_cells, .int f_torn]))]) [0] rfl) (ci := 5) (q0 := 0) rfl rfl) rfl hl.1 rfl (Nat.le_of_ble_eq_true rfl) dX6_node_123 ⟨Nat.zero_le _, Nat.zero_le _⟩ (fun r_17 hw => ?_)
        exact z_iret hx hb hr hlk hw dX6_node_126
      · have hw := hw.2 c_15
        refine lv_bipush (v := -4) hx hb dX6_node_109 (by decide) ?_
        refine lv_goto (tgt := 126) hx hb dX6_node_111 (by decide) ?_
        exact z_iret hx hb hr hlk hw dX6_node_126
    by_cases c_18 : p2 = 6
    · have hw := hw.2.2.2.2.2.2.1 c_18
      refine lv_tableIn (tgt := 127) (off := 116) hx hb dX6_node_11 (by rw [c_18]; decide) (by rw [c_18]; decide) (by rw [c_18]; decide) (by decide) ?_
      refine lv_aload_n hx hb dX6_node_127 rfl (lv_at hl 0 rfl) ?_
      refine lv_iload_n hx hb dX6_node_128 rfl (lv_at hl 1 rfl) ?_
      refine lv_iconst (v := 1) hx hb dX6_node_129 (by decide) ?_
      refine z_ri [.int p1, .int (1 : Int32)] [] ⟨hx, hb, hml, hown, hts⟩ (kX6_nextOf l D cA a0 a_state a_readPage a_tape a_cutRow a_cutWeights a_isKept a_lanes a_lengths a_cells f_taped f_fault f_broken f_brokenAt f_spot f_here f_token f_value f_torn f_state f_readPage f_tape f_cutRow f_cutWeights f_isKept f_lanes f_lengths f_cells p1 (1 : Int32) _ hw) (cwV 2 hts gX6_node_X6_nextOf rfl rfl rfl vX6_nextOf ⟨Nat.le_of_ble_eq_true rfl, Nat.le_of_ble_eq_true rfl⟩) hK (hP.sub [0, 1, 2, 3, 4, 5, 6, 7, 8, 9] rfl) (va_recv hK.1 (hP.sub (ws' := [(a0, .inr (5, [.ref a_state, .ref a_readPage, .ref a_tape, .int f_taped, .int f_fault, .int f_broken, .int f_brokenAt, .int f_spot, .int f_here, .int f_token, .int f_value, .ref a_cutRow, .ref a_cutWeights, .ref a_isKept, .ref a_lanes, .ref a_lengths, .ref a_cells, .int f_torn]))]) [0] rfl) (ci := 5) (q0 := 0) rfl rfl) rfl hl.1 rfl (Nat.le_of_ble_eq_true rfl) dX6_node_130 ⟨Nat.zero_le _, Nat.zero_le _⟩ (fun r_19 hw => ?_)
      exact z_iret hx hb hr hlk hw dX6_node_133
    by_cases c_20 : p2 = 7
    · have hw := hw.2.2.2.2.2.2.2.1 c_20
      refine lv_tableIn (tgt := 134) (off := 123) hx hb dX6_node_11 (by rw [c_20]; decide) (by rw [c_20]; decide) (by rw [c_20]; decide) (by decide) ?_
      refine lv_aload_n hx hb dX6_node_134 rfl (lv_at hl 0 rfl) ?_
      refine lv_iload_n hx hb dX6_node_135 rfl (lv_at hl 1 rfl) ?_
      refine lv_iconst (v := -1) hx hb dX6_node_136 (by decide) ?_
      refine z_ri [.int p1, .int (-1 : Int32)] [] ⟨hx, hb, hml, hown, hts⟩ (kX6_nextOf l D cA a0 a_state a_readPage a_tape a_cutRow a_cutWeights a_isKept a_lanes a_lengths a_cells f_taped f_fault f_broken f_brokenAt f_spot f_here f_token f_value f_torn f_state f_readPage f_tape f_cutRow f_cutWeights f_isKept f_lanes f_lengths f_cells p1 (-1 : Int32) _ hw) (cwV 2 hts gX6_node_X6_nextOf rfl rfl rfl vX6_nextOf ⟨Nat.le_of_ble_eq_true rfl, Nat.le_of_ble_eq_true rfl⟩) hK (hP.sub [0, 1, 2, 3, 4, 5, 6, 7, 8, 9] rfl) (va_recv hK.1 (hP.sub (ws' := [(a0, .inr (5, [.ref a_state, .ref a_readPage, .ref a_tape, .int f_taped, .int f_fault, .int f_broken, .int f_brokenAt, .int f_spot, .int f_here, .int f_token, .int f_value, .ref a_cutRow, .ref a_cutWeights, .ref a_isKept, .ref a_lanes, .ref a_lengths, .ref a_cells, .int f_torn]))]) [0] rfl) (ci := 5) (q0 := 0) rfl rfl) rfl hl.1 rfl (Nat.le_of_ble_eq_true rfl) dX6_node_137 ⟨Nat.zero_le _, Nat.zero_le _⟩ (fun r_21 hw => ?_)
      exact z_iret hx hb hr hlk hw dX6_node_140
    by_cases c_22 : p2 = 8
    · have hw := hw.2.2.2.2.2.2.2.2.1 c_22
      refine lv_tableIn (tgt := 141) (off := 130) hx hb dX6_node_11 (by rw [c_22]; decide) (by rw [c_22]; decide) (by rw [c_22]; decide) (by decide) ?_
      refine lv_aload_n hx hb dX6_node_141 rfl (lv_at hl 0 rfl) ?_
      refine lv_iload_n hx hb dX6_node_142 rfl (lv_at hl 1 rfl) ?_
      refine z_ri [.int p1] [] ⟨hx, hb, hml, hown, hts⟩ (kX6_childrenOf l D cA a0 a_state a_readPage a_tape a_cutRow a_cutWeights a_isKept a_lanes a_lengths a_cells f_taped f_fault f_broken f_brokenAt f_spot f_here f_token f_value f_torn f_state f_readPage f_tape f_cutRow f_cutWeights f_isKept f_lanes f_lengths f_cells p1 _ hw) (cwV 1 hts gX6_node_X6_childrenOf rfl rfl rfl vX6_childrenOf ⟨Nat.le_of_ble_eq_true rfl, Nat.le_of_ble_eq_true rfl⟩) hK (hP.sub [0, 1, 2, 3, 4, 5, 6, 7, 8, 9] rfl) (va_recv hK.1 (hP.sub (ws' := [(a0, .inr (5, [.ref a_state, .ref a_readPage, .ref a_tape, .int f_taped, .int f_fault, .int f_broken, .int f_brokenAt, .int f_spot, .int f_here, .int f_token, .int f_value, .ref a_cutRow, .ref a_cutWeights, .ref a_isKept, .ref a_lanes, .ref a_lengths, .ref a_cells, .int f_torn]))]) [0] rfl) (ci := 5) (q0 := 0) rfl rfl) rfl hl.1 rfl (Nat.le_of_ble_eq_true rfl) dX6_node_143 ⟨Nat.zero_le _, Nat.zero_le _⟩ (fun r_23 hw => ?_)
      exact z_iret hx hb hr hlk hw dX6_node_146
    by_cases c_24 : p2 = 9
    · have hw := hw.2.2.2.2.2.2.2.2.2.1 c_24
      refine lv_tableIn (tgt := 147) (off := 136) hx hb dX6_node_11 (by rw [c_24]; decide) (by rw [c_24]; decide) (by rw [c_24]; decide) (by decide) ?_
      refine lv_aload_n hx hb dX6_node_147 rfl (lv_at hl 0 rfl) ?_
      refine lv_iload_n hx hb dX6_node_148 rfl (lv_at hl 1 rfl) ?_
      refine z_ri [.int p1] [] ⟨hx, hb, hml, hown, hts⟩ (kX6_sizeOf l D cA a0 a_state a_readPage a_tape a_cutRow a_cutWeights a_isKept a_lanes a_lengths a_cells f_taped f_fault f_broken f_brokenAt f_spot f_here f_token f_value f_torn f_state f_readPage f_tape f_cutRow f_cutWeights f_isKept f_lanes f_lengths f_cells p1 _ hw) (cwV 1 hts gX6_node_X6_sizeOf rfl rfl rfl vX6_sizeOf ⟨Nat.le_of_ble_eq_true rfl, Nat.le_of_ble_eq_true rfl⟩) hK (hP.sub [0, 1, 2, 3, 4, 5, 6, 7, 8, 9] rfl) (va_recv hK.1 (hP.sub (ws' := [(a0, .inr (5, [.ref a_state, .ref a_readPage, .ref a_tape, .int f_taped, .int f_fault, .int f_broken, .int f_brokenAt, .int f_spot, .int f_here, .int f_token, .int f_value, .ref a_cutRow, .ref a_cutWeights, .ref a_isKept, .ref a_lanes, .ref a_lengths, .ref a_cells, .int f_torn]))]) [0] rfl) (ci := 5) (q0 := 0) rfl rfl) rfl hl.1 rfl (Nat.le_of_ble_eq_true rfl) dX6_node_149 ⟨Nat.zero_le _, Nat.zero_le _⟩ (fun r_25 hw => ?_)
      exact z_iret hx hb hr hlk hw dX6_node_152
    by_cases c_26 : p2 = 10
    · have hw := hw.2.2.2.2.2.2.2.2.2.2.1 c_26
      refine lv_tableIn (tgt := 153) (off := 142) hx hb dX6_node_11 (by rw [c_26]; decide) (by rw [c_26]; decide) (by rw [c_26]; decide) (by decide) ?_
      refine lv_aload_n hx hb dX6_node_153 rfl (lv_at hl 0 rfl) ?_
      refine lv_iload_n hx hb dX6_node_154 rfl (lv_at hl 1 rfl) ?_
      refine z_ri [.int p1] [] ⟨hx, hb, hml, hown, hts⟩ (kX6_leavesOf l D cA a0 a_state a_readPage a_tape a_cutRow a_cutWeights a_isKept a_lanes a_lengths a_cells f_taped f_fault f_broken f_brokenAt f_spot f_here f_token f_value f_torn f_state f_readPage f_tape f_cutRow f_cutWeights f_isKept f_lanes f_lengths f_cells p1 _ hw) (cwV 1 hts gX6_node_X6_leavesOf rfl rfl rfl vX6_leavesOf ⟨Nat.le_of_ble_eq_true rfl, Nat.le_of_ble_eq_true rfl⟩) hK (hP.sub [0, 1, 2, 3, 4, 5, 6, 7, 8, 9] rfl) (va_recv hK.1 (hP.sub (ws' := [(a0, .inr (5, [.ref a_state, .ref a_readPage, .ref a_tape, .int f_taped, .int f_fault, .int f_broken, .int f_brokenAt, .int f_spot, .int f_here, .int f_token, .int f_value, .ref a_cutRow, .ref a_cutWeights, .ref a_isKept, .ref a_lanes, .ref a_lengths, .ref a_cells, .int f_torn]))]) [0] rfl) (ci := 5) (q0 := 0) rfl rfl) rfl hl.1 rfl (Nat.le_of_ble_eq_true rfl) dX6_node_155 ⟨Nat.zero_le _, Nat.zero_le _⟩ (fun r_27 hw => ?_)
      exact z_iret hx hb hr hlk hw dX6_node_158
    by_cases c_28 : p2 = 11
    · have hw := hw.2.2.2.2.2.2.2.2.2.2.2.1 c_28
      refine lv_tableIn (tgt := 159) (off := 148) hx hb dX6_node_11 (by rw [c_28]; decide) (by rw [c_28]; decide) (by rw [c_28]; decide) (by decide) ?_
      refine lv_aload_n hx hb dX6_node_159 rfl (lv_at hl 0 rfl) ?_
      refine lv_aload_n hx hb dX6_node_160 rfl (lv_at hl 0 rfl) ?_
      refine lv_iload_n hx hb dX6_node_161 rfl (lv_at hl 1 rfl) ?_
      refine z_ri [.int p1] [.ref a0] ⟨hx, hb, hml, hown, hts⟩ (kX6_deepestOf l D cA a0 a_state a_readPage a_tape a_cutRow a_cutWeights a_isKept a_lanes a_lengths a_cells f_taped f_fault f_broken f_brokenAt f_spot f_here f_token f_value f_torn f_state f_readPage f_tape f_cutRow f_cutWeights f_isKept f_lanes f_lengths f_cells p1 _ hw) (cwV 1 hts gX6_node_X6_deepestOf rfl rfl rfl vX6_deepestOf ⟨Nat.le_of_ble_eq_true rfl, Nat.le_of_ble_eq_true rfl⟩) hK (hP.sub [0, 1, 2, 3, 4, 5, 6, 7, 8, 9] rfl) (va_recv hK.1 (hP.sub (ws' := [(a0, .inr (5, [.ref a_state, .ref a_readPage, .ref a_tape, .int f_taped, .int f_fault, .int f_broken, .int f_brokenAt, .int f_spot, .int f_here, .int f_token, .int f_value, .ref a_cutRow, .ref a_cutWeights, .ref a_isKept, .ref a_lanes, .ref a_lengths, .ref a_cells, .int f_torn]))]) [0] rfl) (ci := 5) (q0 := 0) rfl rfl) rfl hl.1 rfl (Nat.le_of_ble_eq_true rfl) dX6_node_162 ⟨Nat.zero_le _, Nat.zero_le _⟩ (fun r_29 hw => ?_)
      refine z_ri [.int r_29] [] ⟨hx, hb, hml, hown, hts⟩ (kX6_depthOf l D cA a0 a_state a_readPage a_tape a_cutRow a_cutWeights a_isKept a_lanes a_lengths a_cells f_taped f_fault f_broken f_brokenAt f_spot f_here f_token f_value f_torn f_state f_readPage f_tape f_cutRow f_cutWeights f_isKept f_lanes f_lengths f_cells r_29 _ hw) (cwV 1 hts gX6_node_X6_depthOf rfl rfl rfl vX6_depthOf ⟨Nat.le_of_ble_eq_true rfl, Nat.le_of_ble_eq_true rfl⟩) hK (hP.sub [0, 1, 2, 3, 4, 5, 6, 7, 8, 9] rfl) (va_recv hK.1 (hP.sub (ws' := [(a0, .inr (5, [.ref a_state, .ref a_readPage, .ref a_tape, .int f_taped, .int f_fault, .int f_broken, .int f_brokenAt, .int f_spot, .int f_here, .int f_token, .int f_value, .ref a_cutRow, .ref a_cutWeights, .ref a_isKept, .ref a_lanes, .ref a_lengths, .ref a_cells, .int f_torn]))]) [0] rfl) (ci := 5) (q0 := 0) rfl rfl) rfl hl.1 rfl (Nat.le_of_ble_eq_true rfl) dX6_node_165 ⟨Nat.zero_le _, Nat.zero_le _⟩ (fun r_30 hw => ?_)
      refine lv_aload_n hx hb dX6_node_168 rfl (lv_at hl 0 rfl) ?_
      refine lv_iload_n hx hb dX6_node_169 rfl (lv_at hl 1 rfl) ?_
      refine z_ri [.int p1] [.int r_30] ⟨hx, hb, hml, hown, hts⟩ (kX6_depthOf l D cA a0 a_state a_readPage a_tape a_cutRow a_cutWeights a_isKept a_lanes a_lengths a_cells f_taped f_fault f_broken f_brokenAt f_spot f_here f_token f_value f_torn f_state f_readPage f_tape f_cutRow f_cutWeights f_isKept f_lanes f_lengths f_cells p1 _ hw) (cwV 1 hts gX6_node_X6_depthOf rfl rfl rfl vX6_depthOf ⟨Nat.le_of_ble_eq_true rfl, Nat.le_of_ble_eq_true rfl⟩) hK (hP.sub [0, 1, 2, 3, 4, 5, 6, 7, 8, 9] rfl) (va_recv hK.1 (hP.sub (ws' := [(a0, .inr (5, [.ref a_state, .ref a_readPage, .ref a_tape, .int f_taped, .int f_fault, .int f_broken, .int f_brokenAt, .int f_spot, .int f_here, .int f_token, .int f_value, .ref a_cutRow, .ref a_cutWeights, .ref a_isKept, .ref a_lanes, .ref a_lengths, .ref a_cells, .int f_torn]))]) [0] rfl) (ci := 5) (q0 := 0) rfl rfl) rfl hl.1 rfl (Nat.le_of_ble_eq_true rfl) dX6_node_170 ⟨Nat.zero_le _, Nat.zero_le _⟩ (fun r_31 hw => ?_)
      refine lv_isub hx hb dX6_node_173 ?_
      exact z_iret hx hb hr hlk hw dX6_node_174
    by_cases c_32 : p2 = 12
    · have hw := hw.2.2.2.2.2.2.2.2.2.2.2.2.1 c_32
      refine lv_tableIn (tgt := 175) (off := 164) hx hb dX6_node_11 (by rw [c_32]; decide) (by rw [c_32]; decide) (by rw [c_32]; decide) (by decide) ?_
      refine lv_aload_n hx hb dX6_node_175 rfl (lv_at hl 0 rfl) ?_
      refine lv_iload_n hx hb dX6_node_176 rfl (lv_at hl 1 rfl) ?_
      refine z_ri [.int p1] [] ⟨hx, hb, hml, hown, hts⟩ (kX6_fromBelow l D cA a0 a_state a_readPage a_tape a_cutRow a_cutWeights a_isKept a_lanes a_lengths a_cells f_taped f_fault f_broken f_brokenAt f_spot f_here f_token f_value f_torn f_state f_readPage f_tape f_cutRow f_cutWeights f_isKept f_lanes f_lengths f_cells p1 _ hw) (cwV 1 hts gX6_node_X6_fromBelow rfl rfl rfl vX6_fromBelow ⟨Nat.le_of_ble_eq_true rfl, Nat.le_of_ble_eq_true rfl⟩) hK (hP.sub [0, 1, 2, 3, 4, 5, 6, 7, 8, 9] rfl) (va_recv hK.1 (hP.sub (ws' := [(a0, .inr (5, [.ref a_state, .ref a_readPage, .ref a_tape, .int f_taped, .int f_fault, .int f_broken, .int f_brokenAt, .int f_spot, .int f_here, .int f_token, .int f_value, .ref a_cutRow, .ref a_cutWeights, .ref a_isKept, .ref a_lanes, .ref a_lengths, .ref a_cells, .int f_torn]))]) [0] rfl) (ci := 5) (q0 := 0) rfl rfl) rfl hl.1 rfl (Nat.le_of_ble_eq_true rfl) dX6_node_177 ⟨Nat.zero_le _, Nat.zero_le _⟩ (fun r_33 hw => ?_)
      exact z_iret hx hb hr hlk hw dX6_node_180
    by_cases c_34 : p2 = 13
    · have hw := hw.2.2.2.2.2.2.2.2.2.2.2.2.2.1 c_34
      refine lv_tableIn (tgt := 181) (off := 170) hx hb dX6_node_11 (by rw [c_34]; decide) (by rw [c_34]; decide) (by rw [c_34]; decide) (by decide) ?_
      refine lv_aload_n hx hb dX6_node_181 rfl (lv_at hl 0 rfl) ?_
      refine lv_iload_n hx hb dX6_node_182 rfl (lv_at hl 1 rfl) ?_
      refine z_ri [.int p1] [] ⟨hx, hb, hml, hown, hts⟩ (kX6_whichOf l D cA a0 a_state a_readPage a_tape a_cutRow a_cutWeights a_isKept a_lanes a_lengths a_cells f_taped f_fault f_broken f_brokenAt f_spot f_here f_token f_value f_torn f_state f_readPage f_tape f_cutRow f_cutWeights f_isKept f_lanes f_lengths f_cells p1 _ hw) (cwV 1 hts gX6_node_X6_whichOf rfl rfl rfl vX6_whichOf ⟨Nat.le_of_ble_eq_true rfl, Nat.le_of_ble_eq_true rfl⟩) hK (hP.sub [0, 1, 2, 3, 4, 5, 6, 7, 8, 9] rfl) (va_recv hK.1 (hP.sub (ws' := [(a0, .inr (5, [.ref a_state, .ref a_readPage, .ref a_tape, .int f_taped, .int f_fault, .int f_broken, .int f_brokenAt, .int f_spot, .int f_here, .int f_token, .int f_value, .ref a_cutRow, .ref a_cutWeights, .ref a_isKept, .ref a_lanes, .ref a_lengths, .ref a_cells, .int f_torn]))]) [0] rfl) (ci := 5) (q0 := 0) rfl rfl) rfl hl.1 rfl (Nat.le_of_ble_eq_true rfl) dX6_node_183 ⟨Nat.zero_le _, Nat.zero_le _⟩ (fun r_35 hw => ?_)
      exact z_iret hx hb hr hlk hw dX6_node_186
    have hw := hw.2.2.2.2.2.2.2.2.2.2.2.2.2.2 c_3 c_5 c_7 c_9 c_11 c_13 c_18 c_20 c_22 c_24 c_26 c_28 c_32 c_34
    refine lv_tableOut (tgt := 187) hx hb dX6_node_11 (by have q0 := lv_neT c_3 (a := 0) (by decide); have q1 := lv_neT c_5 (a := 1) (by decide); have q2 := lv_neT c_7 (a := 2) (by decide); have q3 := lv_neT c_9 (a := 3) (by decide); have q4 := lv_neT c_11 (a := 4) (by decide); have q5 := lv_neT c_13 (a := 5) (by decide); have q6 := lv_neT c_18 (a := 6) (by decide); have q7 := lv_neT c_20 (a := 7) (by decide); have q8 := lv_neT c_22 (a := 8) (by decide); have q9 := lv_neT c_24 (a := 9) (by decide); have q10 := lv_neT c_26 (a := 10) (by decide); have q11 := lv_neT c_28 (a := 11) (by decide); have q12 := lv_neT c_32 (a := 12) (by decide); have q13 := lv_neT c_34 (a := 13) (by decide); omega) (by decide) ?_
    refine lv_iconst (v := -1) hx hb dX6_node_187 (by decide) ?_
    exact z_iret hx hb hr hlk hw dX6_node_188
  · have hw := hw.2 c_2
    refine lv_iconst (v := -1) hx hb dX6_node_8 (by decide) ?_
    exact z_iret hx hb hr hlk hw dX6_node_9
def wX6_child (f_state : Nat → Int32) (p1 : Int32) (p2 : Int32) (post : Int32 → Prop) : Prop := (wX6_isNode f_state p1 (fun r_1 : Int32 => (((r_1 = 0 → post (-1 : Int32)) ∧ (¬ r_1 = 0 → ((0 ≤ p2 → (wX6_childOf f_state p1 p2 (fun r_4 : Int32 => (post r_4)))) ∧ (¬ 0 ≤ p2 → post (-1 : Int32))))))))
abbrev rX6_child : Room := { frames := 3, cells := 0, slots := 0, locals := 69 }
theorem vX6_child : yX6_child.cls = RX6 ∧ yX6_child.cls ≠ "java/lang/invoke/MethodHandle" ∧ yX6_child.cls ≠ "java/lang/invoke/VarHandle" ∧ (parseMethodDescriptor yX6_child.desc).map (fun d => d.parameters.length) = some 2 := by decide +kernel
set_option maxHeartbeats 4000000 in
set_option maxRecDepth 100000 in
theorem kX6_child (l : Launch) (D : va_G) (cA : Nat → ClassId) (a0 a_state a_readPage a_tape a_cutRow a_cutWeights a_isKept a_lanes a_lengths a_cells : Nat) (f_taped : Int32) (f_fault : Int32) (f_broken : Int32) (f_brokenAt : Int32) (f_spot : Int32) (f_here : Int32) (f_token : Int32) (f_value : Int32) (f_torn : Int32) (f_state : Nat → Int32) (f_readPage : Nat → Int32) (f_tape : Nat → Int32) (f_cutRow : Nat → Int32) (f_cutWeights : Nat → Int32) (f_isKept : Nat → Int32) (f_lanes : Nat → Int32) (f_lengths : Nat → Int32) (f_cells : Nat → Int64) (p1 : Int32) (p2 : Int32) (post : Int32 → Prop) (h : wX6_child f_state p1 p2 post) : Met l yX6_child wsX6_child rX6_child (zPr D cA [.ref a0, .int p1, .int p2] [(a0, .inr (5, [.ref a_state, .ref a_readPage, .ref a_tape, .int f_taped, .int f_fault, .int f_broken, .int f_brokenAt, .int f_spot, .int f_here, .int f_token, .int f_value, .ref a_cutRow, .ref a_cutWeights, .ref a_isKept, .ref a_lanes, .ref a_lengths, .ref a_cells, .int f_torn])), (a_state, .inl (cA 0, 579, .inl f_state)), (a_readPage, .inl (cA 0, 193, .inl f_readPage)), (a_tape, .inl (cA 0, 160, .inl f_tape)), (a_cutRow, .inl (cA 0, 128, .inl f_cutRow)), (a_cutWeights, .inl (cA 0, 64, .inl f_cutWeights)), (a_isKept, .inl (cA 3, 2, .inl f_isKept)), (a_lanes, .inl (cA 0, 4, .inl f_lanes)), (a_lengths, .inl (cA 0, 4, .inl f_lengths)), (a_cells, .inl (cA 1, 160, .inr (.inl f_cells)))]) (vp_Si post) 0 0 (fun _ => False) := by
  refine z_ro (cc := cX6_child) (maxL := 3) (ret := (some .int)) (by decide) rfl (Nat.le_of_ble_eq_true rfl) ?_
  intro p e s m args below meth c ls hx hb hr hlk hml hown hts hK hP hl
  have hown : s.vm.findClass RX6 = some m.cls := hown
  have hl : lv_has ls 3 [(0, .ref a0), (1, .int p1), (2, .int p2)] := hl
  have hw := h
  unfold wX6_child at hw
  refine lv_aload_n hx hb dX6_child_0 rfl (lv_at hl 0 rfl) ?_
  refine lv_iload_n hx hb dX6_child_1 rfl (lv_at hl 1 rfl) ?_
  refine z_ri [.int p1] [] ⟨hx, hb, hml, hown, hts⟩ (kX6_isNode l D cA a0 a_state a_readPage a_tape a_cutRow a_cutWeights a_isKept a_lanes a_lengths a_cells f_taped f_fault f_broken f_brokenAt f_spot f_here f_token f_value f_torn f_state f_readPage f_tape f_cutRow f_cutWeights f_isKept f_lanes f_lengths f_cells p1 _ hw) (cwV 1 hts gX6_child_X6_isNode rfl rfl rfl vX6_isNode ⟨Nat.le_of_ble_eq_true rfl, Nat.le_of_ble_eq_true rfl⟩) hK (hP.sub [0, 1, 2, 3, 4, 5, 6, 7, 8, 9] rfl) (va_recv hK.1 (hP.sub (ws' := [(a0, .inr (5, [.ref a_state, .ref a_readPage, .ref a_tape, .int f_taped, .int f_fault, .int f_broken, .int f_brokenAt, .int f_spot, .int f_here, .int f_token, .int f_value, .ref a_cutRow, .ref a_cutWeights, .ref a_isKept, .ref a_lanes, .ref a_lengths, .ref a_cells, .int f_torn]))]) [0] rfl) (ci := 5) (q0 := 0) rfl rfl) rfl hl.1 rfl (Nat.le_of_ble_eq_true rfl) dX6_child_2 ⟨Nat.zero_le _, Nat.zero_le _⟩ (fun r_1 hw => ?_)
  refine lv_if_eq (tgt := 12) hx hb dX6_child_5 (by decide) (fun c_2 => ?_) (fun c_2 => ?_)
  · have hw := hw.1 c_2
    refine lv_iconst (v := -1) hx hb dX6_child_12 (by decide) ?_
    refine lv_goto (tgt := 22) hx hb dX6_child_13 (by decide) ?_
    exact z_iret hx hb hr hlk hw dX6_child_22
  · have hw := hw.2 c_2
    refine lv_iload_n hx hb dX6_child_8 rfl (lv_at hl 2 rfl) ?_
    refine lv_if_ge (tgt := 16) hx hb dX6_child_9 (by decide) (fun c_3 => ?_) (fun c_3 => ?_)
    · have hw := hw.1 c_3
      refine lv_aload_n hx hb dX6_child_16 rfl (lv_at hl 0 rfl) ?_
      refine lv_iload_n hx hb dX6_child_17 rfl (lv_at hl 1 rfl) ?_
      refine lv_iload_n hx hb dX6_child_18 rfl (lv_at hl 2 rfl) ?_
      refine z_ri [.int p1, .int p2] [] ⟨hx, hb, hml, hown, hts⟩ (kX6_childOf l D cA a0 a_state a_readPage a_tape a_cutRow a_cutWeights a_isKept a_lanes a_lengths a_cells f_taped f_fault f_broken f_brokenAt f_spot f_here f_token f_value f_torn f_state f_readPage f_tape f_cutRow f_cutWeights f_isKept f_lanes f_lengths f_cells p1 p2 _ hw) (cwV 2 hts gX6_child_X6_childOf rfl rfl rfl vX6_childOf ⟨Nat.le_of_ble_eq_true rfl, Nat.le_of_ble_eq_true rfl⟩) hK (hP.sub [0, 1, 2, 3, 4, 5, 6, 7, 8, 9] rfl) (va_recv hK.1 (hP.sub (ws' := [(a0, .inr (5, [.ref a_state, .ref a_readPage, .ref a_tape, .int f_taped, .int f_fault, .int f_broken, .int f_brokenAt, .int f_spot, .int f_here, .int f_token, .int f_value, .ref a_cutRow, .ref a_cutWeights, .ref a_isKept, .ref a_lanes, .ref a_lengths, .ref a_cells, .int f_torn]))]) [0] rfl) (ci := 5) (q0 := 0) rfl rfl) rfl hl.1 rfl (Nat.le_of_ble_eq_true rfl) dX6_child_19 ⟨Nat.zero_le _, Nat.zero_le _⟩ (fun r_4 hw => ?_)
      exact z_iret hx hb hr hlk hw dX6_child_22
    · have hw := hw.2 c_3
      refine lv_iconst (v := -1) hx hb dX6_child_12 (by decide) ?_
      refine lv_goto (tgt := 22) hx hb dX6_child_13 (by decide) ?_
      exact z_iret hx hb hr hlk hw dX6_child_22
def wX6_below (f_state : Nat → Int32) (p1 : Int32) (post : Int32 → Prop) : Prop := (∃ (I_1 : Int32 → Prop) (mu_1 : Int32 → Nat), I_1 (0 : Int32) ∧ ∀ (x_2 : Int32), I_1 x_2 → (wX6_many f_state (fun r_3 : Int32 => (((r_3 ≤ x_2 → post (-1 : Int32)) ∧ (¬ r_3 ≤ x_2 → (wX6_isNode f_state p1 (fun r_5 : Int32 => (((r_5 = 0 → post (-1 : Int32)) ∧ (¬ r_5 = 0 → (wX6_fromBelow f_state x_2 (fun r_7 : Int32 => (((¬ r_7 = p1 → (∀ x_9 : Int32, x_9 = x_2 + (1) → (I_1 x_9 ∧ mu_1 x_9 < mu_1 x_2))) ∧ (r_7 = p1 → post x_2))))))))))))))))
abbrev rX6_below : Room := { frames := 3, cells := 0, slots := 0, locals := 66 }
theorem vX6_below : yX6_below.cls = RX6 ∧ yX6_below.cls ≠ "java/lang/invoke/MethodHandle" ∧ yX6_below.cls ≠ "java/lang/invoke/VarHandle" ∧ (parseMethodDescriptor yX6_below.desc).map (fun d => d.parameters.length) = some 1 := by decide +kernel
set_option maxHeartbeats 4000000 in
set_option maxRecDepth 100000 in
theorem kX6_below (l : Launch) (D : va_G) (cA : Nat → ClassId) (a0 a_state a_readPage a_tape a_cutRow a_cutWeights a_isKept a_lanes a_lengths a_cells : Nat) (f_taped : Int32) (f_fault : Int32) (f_broken : Int32) (f_brokenAt : Int32) (f_spot : Int32) (f_here : Int32) (f_token : Int32) (f_value : Int32) (f_torn : Int32) (f_state : Nat → Int32) (f_readPage : Nat → Int32) (f_tape : Nat → Int32) (f_cutRow : Nat → Int32) (f_cutWeights : Nat → Int32) (f_isKept : Nat → Int32) (f_lanes : Nat → Int32) (f_lengths : Nat → Int32) (f_cells : Nat → Int64) (p1 : Int32) (post : Int32 → Prop) (h : wX6_below f_state p1 post) : Met l yX6_below wsX6_below rX6_below (zPr D cA [.ref a0, .int p1] [(a0, .inr (5, [.ref a_state, .ref a_readPage, .ref a_tape, .int f_taped, .int f_fault, .int f_broken, .int f_brokenAt, .int f_spot, .int f_here, .int f_token, .int f_value, .ref a_cutRow, .ref a_cutWeights, .ref a_isKept, .ref a_lanes, .ref a_lengths, .ref a_cells, .int f_torn])), (a_state, .inl (cA 0, 579, .inl f_state)), (a_readPage, .inl (cA 0, 193, .inl f_readPage)), (a_tape, .inl (cA 0, 160, .inl f_tape)), (a_cutRow, .inl (cA 0, 128, .inl f_cutRow)), (a_cutWeights, .inl (cA 0, 64, .inl f_cutWeights)), (a_isKept, .inl (cA 3, 2, .inl f_isKept)), (a_lanes, .inl (cA 0, 4, .inl f_lanes)), (a_lengths, .inl (cA 0, 4, .inl f_lengths)), (a_cells, .inl (cA 1, 160, .inr (.inl f_cells)))]) (vp_Si post) 0 0 (fun _ => False) := by
  refine z_ro (cc := cX6_below) (maxL := 3) (ret := (some .int)) (by decide) rfl (Nat.le_of_ble_eq_true rfl) ?_
  intro p e s m args below meth c ls hx hb hr hlk hml hown hts hK hP hl
  have hown : s.vm.findClass RX6 = some m.cls := hown
  have hl : lv_has ls 3 [(0, .ref a0), (1, .int p1)] := hl
  have hw := h
  unfold wX6_below at hw
  refine lv_iconst (v := 0) hx hb dX6_below_0 (by decide) ?_
  refine lv_istore_n (lv' := [(2, .int (0 : Int32)), (0, .ref a0), (1, .int p1)]) hx hb dX6_below_1 rfl hl (by decide) rfl (fun ls hl => ?_)
  obtain ⟨I_1, mu_1, hI_1, hw⟩ := hw
  have lp_1 : ∀ (nn : Nat) (x_2 : Int32) (ls : Array Slot), mu_1 x_2 < nn → I_1 x_2 → lv_has ls 3 [(0, .ref a0), (1, .int p1), (2, .int x_2)] → W p l e rX6_below s m args below meth c s.heap [] 0 0 (MQ below (vp_Si post) args s 0 0 (fun _ => False)) (F0 m 2 ls []) := by
    intro nn
    induction nn with
    | zero => exact fun _ _ h0 => absurd h0 (Nat.not_lt_zero _)
    | succ nn ih_1 =>
      intro x_2 ls hmu_1 hI_1 hl
      have hw := hw x_2 hI_1
      refine lv_iload_n hx hb dX6_below_2 rfl (lv_at hl 2 rfl) ?_
      refine lv_aload_n hx hb dX6_below_3 rfl (lv_at hl 0 rfl) ?_
      refine z_ri [] [.int x_2] ⟨hx, hb, hml, hown, hts⟩ (kX6_many l D cA a0 a_state a_readPage a_tape a_cutRow a_cutWeights a_isKept a_lanes a_lengths a_cells f_taped f_fault f_broken f_brokenAt f_spot f_here f_token f_value f_torn f_state f_readPage f_tape f_cutRow f_cutWeights f_isKept f_lanes f_lengths f_cells _ hw) (cwV 0 hts gX6_below_X6_many rfl rfl rfl vX6_many ⟨Nat.le_of_ble_eq_true rfl, Nat.le_of_ble_eq_true rfl⟩) hK (hP.sub [0, 1, 2, 3, 4, 5, 6, 7, 8, 9] rfl) (va_recv hK.1 (hP.sub (ws' := [(a0, .inr (5, [.ref a_state, .ref a_readPage, .ref a_tape, .int f_taped, .int f_fault, .int f_broken, .int f_brokenAt, .int f_spot, .int f_here, .int f_token, .int f_value, .ref a_cutRow, .ref a_cutWeights, .ref a_isKept, .ref a_lanes, .ref a_lengths, .ref a_cells, .int f_torn]))]) [0] rfl) (ci := 5) (q0 := 0) rfl rfl) rfl hl.1 rfl (Nat.le_of_ble_eq_true rfl) dX6_below_4 ⟨Nat.zero_le _, Nat.zero_le _⟩ (fun r_3 hw => ?_)
      refine lv_icmp_ge (tgt := 35) hx hb dX6_below_7 (by decide) (fun c_4 => ?_) (fun c_4 => ?_)
      · have hw := hw.1 c_4
        refine lv_iconst (v := -1) hx hb dX6_below_35 (by decide) ?_
        exact z_iret hx hb hr hlk hw dX6_below_36
      · have hw := hw.2 c_4
        refine lv_aload_n hx hb dX6_below_10 rfl (lv_at hl 0 rfl) ?_
        refine lv_iload_n hx hb dX6_below_11 rfl (lv_at hl 1 rfl) ?_
        refine z_ri [.int p1] [] ⟨hx, hb, hml, hown, hts⟩ (kX6_isNode l D cA a0 a_state a_readPage a_tape a_cutRow a_cutWeights a_isKept a_lanes a_lengths a_cells f_taped f_fault f_broken f_brokenAt f_spot f_here f_token f_value f_torn f_state f_readPage f_tape f_cutRow f_cutWeights f_isKept f_lanes f_lengths f_cells p1 _ hw) (cwV 1 hts gX6_below_X6_isNode rfl rfl rfl vX6_isNode ⟨Nat.le_of_ble_eq_true rfl, Nat.le_of_ble_eq_true rfl⟩) hK (hP.sub [0, 1, 2, 3, 4, 5, 6, 7, 8, 9] rfl) (va_recv hK.1 (hP.sub (ws' := [(a0, .inr (5, [.ref a_state, .ref a_readPage, .ref a_tape, .int f_taped, .int f_fault, .int f_broken, .int f_brokenAt, .int f_spot, .int f_here, .int f_token, .int f_value, .ref a_cutRow, .ref a_cutWeights, .ref a_isKept, .ref a_lanes, .ref a_lengths, .ref a_cells, .int f_torn]))]) [0] rfl) (ci := 5) (q0 := 0) rfl rfl) rfl hl.1 rfl (Nat.le_of_ble_eq_true rfl) dX6_below_12 ⟨Nat.zero_le _, Nat.zero_le _⟩ (fun r_5 hw => ?_)
        refine lv_if_eq (tgt := 35) hx hb dX6_below_15 (by decide) (fun c_6 => ?_) (fun c_6 => ?_)
        · have hw := hw.1 c_6
          refine lv_iconst (v := -1) hx hb dX6_below_35 (by decide) ?_
          exact z_iret hx hb hr hlk hw dX6_below_36
        · have hw := hw.2 c_6
          refine lv_aload_n hx hb dX6_below_18 rfl (lv_at hl 0 rfl) ?_
          refine lv_iload_n hx hb dX6_below_19 rfl (lv_at hl 2 rfl) ?_
          refine z_ri [.int x_2] [] ⟨hx, hb, hml, hown, hts⟩ (kX6_fromBelow l D cA a0 a_state a_readPage a_tape a_cutRow a_cutWeights a_isKept a_lanes a_lengths a_cells f_taped f_fault f_broken f_brokenAt f_spot f_here f_token f_value f_torn f_state f_readPage f_tape f_cutRow f_cutWeights f_isKept f_lanes f_lengths f_cells x_2 _ hw) (cwV 1 hts gX6_below_X6_fromBelow rfl rfl rfl vX6_fromBelow ⟨Nat.le_of_ble_eq_true rfl, Nat.le_of_ble_eq_true rfl⟩) hK (hP.sub [0, 1, 2, 3, 4, 5, 6, 7, 8, 9] rfl) (va_recv hK.1 (hP.sub (ws' := [(a0, .inr (5, [.ref a_state, .ref a_readPage, .ref a_tape, .int f_taped, .int f_fault, .int f_broken, .int f_brokenAt, .int f_spot, .int f_here, .int f_token, .int f_value, .ref a_cutRow, .ref a_cutWeights, .ref a_isKept, .ref a_lanes, .ref a_lengths, .ref a_cells, .int f_torn]))]) [0] rfl) (ci := 5) (q0 := 0) rfl rfl) rfl hl.1 rfl (Nat.le_of_ble_eq_true rfl) dX6_below_20 ⟨Nat.zero_le _, Nat.zero_le _⟩ (fun r_7 hw => ?_)
          refine lv_iload_n hx hb dX6_below_23 rfl (lv_at hl 1 rfl) ?_
          refine lv_icmp_ne (tgt := 29) hx hb dX6_below_24 (by decide) (fun c_8 => ?_) (fun c_8 => ?_)
          · have hw := hw.1 c_8
            obtain ⟨x_9, ex_9⟩ : ∃ y : Int32, y = x_2 + (1) := ⟨_, rfl⟩
            have hw := hw x_9 ex_9
            refine lv_iinc (v := x_9) (lv' := [(2, .int x_9), (0, .ref a0), (1, .int p1)]) hx hb dX6_below_29 hl (k := 2) rfl (by rw [ex_9]; rfl) (by decide) rfl (fun ls hl => ?_)
            refine lv_goto (tgt := 2) hx hb dX6_below_32 (by decide) ?_
            exact ih_1 x_9 ls (Nat.lt_of_lt_of_le hw.2 (Nat.le_of_lt_succ hmu_1)) hw.1 (lv_sub hl [1, 2, 0] rfl)
          · have hw := hw.2 c_8
            refine lv_iload_n hx hb dX6_below_27 rfl (lv_at hl 2 rfl) ?_
            exact z_iret hx hb hr hlk hw dX6_below_28
  exact lp_1 (mu_1 (0 : Int32) + 1) (0 : Int32) ls (Nat.lt_succ_self _) hI_1 (lv_sub hl [1, 2, 0] rfl)
def wX6_up (f_state : Nat → Int32) (p1 : Int32) (p2 : Int32) (post : Int32 → Prop) : Prop := (wX6_isNode f_state p1 (fun r_1 : Int32 => (((r_1 = 0 → post (-1 : Int32)) ∧ (¬ r_1 = 0 → ((0 ≤ p2 → (wX6_upFrom f_state p1 p2 (fun r_4 : Int32 => (post r_4)))) ∧ (¬ 0 ≤ p2 → post (-1 : Int32))))))))
abbrev rX6_up : Room := { frames := 3, cells := 0, slots := 0, locals := 70 }
theorem vX6_up : yX6_up.cls = RX6 ∧ yX6_up.cls ≠ "java/lang/invoke/MethodHandle" ∧ yX6_up.cls ≠ "java/lang/invoke/VarHandle" ∧ (parseMethodDescriptor yX6_up.desc).map (fun d => d.parameters.length) = some 2 := by decide +kernel
set_option maxHeartbeats 4000000 in
set_option maxRecDepth 100000 in
theorem kX6_up (l : Launch) (D : va_G) (cA : Nat → ClassId) (a0 a_state a_readPage a_tape a_cutRow a_cutWeights a_isKept a_lanes a_lengths a_cells : Nat) (f_taped : Int32) (f_fault : Int32) (f_broken : Int32) (f_brokenAt : Int32) (f_spot : Int32) (f_here : Int32) (f_token : Int32) (f_value : Int32) (f_torn : Int32) (f_state : Nat → Int32) (f_readPage : Nat → Int32) (f_tape : Nat → Int32) (f_cutRow : Nat → Int32) (f_cutWeights : Nat → Int32) (f_isKept : Nat → Int32) (f_lanes : Nat → Int32) (f_lengths : Nat → Int32) (f_cells : Nat → Int64) (p1 : Int32) (p2 : Int32) (post : Int32 → Prop) (h : wX6_up f_state p1 p2 post) : Met l yX6_up wsX6_up rX6_up (zPr D cA [.ref a0, .int p1, .int p2] [(a0, .inr (5, [.ref a_state, .ref a_readPage, .ref a_tape, .int f_taped, .int f_fault, .int f_broken, .int f_brokenAt, .int f_spot, .int f_here, .int f_token, .int f_value, .ref a_cutRow, .ref a_cutWeights, .ref a_isKept, .ref a_lanes, .ref a_lengths, .ref a_cells, .int f_torn])), (a_state, .inl (cA 0, 579, .inl f_state)), (a_readPage, .inl (cA 0, 193, .inl f_readPage)), (a_tape, .inl (cA 0, 160, .inl f_tape)), (a_cutRow, .inl (cA 0, 128, .inl f_cutRow)), (a_cutWeights, .inl (cA 0, 64, .inl f_cutWeights)), (a_isKept, .inl (cA 3, 2, .inl f_isKept)), (a_lanes, .inl (cA 0, 4, .inl f_lanes)), (a_lengths, .inl (cA 0, 4, .inl f_lengths)), (a_cells, .inl (cA 1, 160, .inr (.inl f_cells)))]) (vp_Si post) 0 0 (fun _ => False) := by
  refine z_ro (cc := cX6_up) (maxL := 3) (ret := (some .int)) (by decide) rfl (Nat.le_of_ble_eq_true rfl) ?_
  intro p e s m args below meth c ls hx hb hr hlk hml hown hts hK hP hl
  have hown : s.vm.findClass RX6 = some m.cls := hown
  have hl : lv_has ls 3 [(0, .ref a0), (1, .int p1), (2, .int p2)] := hl
  have hw := h
  unfold wX6_up at hw
  refine lv_aload_n hx hb dX6_up_0 rfl (lv_at hl 0 rfl) ?_
  refine lv_iload_n hx hb dX6_up_1 rfl (lv_at hl 1 rfl) ?_
  refine z_ri [.int p1] [] ⟨hx, hb, hml, hown, hts⟩ (kX6_isNode l D cA a0 a_state a_readPage a_tape a_cutRow a_cutWeights a_isKept a_lanes a_lengths a_cells f_taped f_fault f_broken f_brokenAt f_spot f_here f_token f_value f_torn f_state f_readPage f_tape f_cutRow f_cutWeights f_isKept f_lanes f_lengths f_cells p1 _ hw) (cwV 1 hts gX6_up_X6_isNode rfl rfl rfl vX6_isNode ⟨Nat.le_of_ble_eq_true rfl, Nat.le_of_ble_eq_true rfl⟩) hK (hP.sub [0, 1, 2, 3, 4, 5, 6, 7, 8, 9] rfl) (va_recv hK.1 (hP.sub (ws' := [(a0, .inr (5, [.ref a_state, .ref a_readPage, .ref a_tape, .int f_taped, .int f_fault, .int f_broken, .int f_brokenAt, .int f_spot, .int f_here, .int f_token, .int f_value, .ref a_cutRow, .ref a_cutWeights, .ref a_isKept, .ref a_lanes, .ref a_lengths, .ref a_cells, .int f_torn]))]) [0] rfl) (ci := 5) (q0 := 0) rfl rfl) rfl hl.1 rfl (Nat.le_of_ble_eq_true rfl) dX6_up_2 ⟨Nat.zero_le _, Nat.zero_le _⟩ (fun r_1 hw => ?_)
  refine lv_if_eq (tgt := 12) hx hb dX6_up_5 (by decide) (fun c_2 => ?_) (fun c_2 => ?_)
  · have hw := hw.1 c_2
    refine lv_iconst (v := -1) hx hb dX6_up_12 (by decide) ?_
    refine lv_goto (tgt := 22) hx hb dX6_up_13 (by decide) ?_
    exact z_iret hx hb hr hlk hw dX6_up_22
  · have hw := hw.2 c_2
    refine lv_iload_n hx hb dX6_up_8 rfl (lv_at hl 2 rfl) ?_
    refine lv_if_ge (tgt := 16) hx hb dX6_up_9 (by decide) (fun c_3 => ?_) (fun c_3 => ?_)
    · have hw := hw.1 c_3
      refine lv_aload_n hx hb dX6_up_16 rfl (lv_at hl 0 rfl) ?_
      refine lv_iload_n hx hb dX6_up_17 rfl (lv_at hl 1 rfl) ?_
      refine lv_iload_n hx hb dX6_up_18 rfl (lv_at hl 2 rfl) ?_
      refine z_ri [.int p1, .int p2] [] ⟨hx, hb, hml, hown, hts⟩ (kX6_upFrom l D cA a0 a_state a_readPage a_tape a_cutRow a_cutWeights a_isKept a_lanes a_lengths a_cells f_taped f_fault f_broken f_brokenAt f_spot f_here f_token f_value f_torn f_state f_readPage f_tape f_cutRow f_cutWeights f_isKept f_lanes f_lengths f_cells p1 p2 _ hw) (cwV 2 hts gX6_up_X6_upFrom rfl rfl rfl vX6_upFrom ⟨Nat.le_of_ble_eq_true rfl, Nat.le_of_ble_eq_true rfl⟩) hK (hP.sub [0, 1, 2, 3, 4, 5, 6, 7, 8, 9] rfl) (va_recv hK.1 (hP.sub (ws' := [(a0, .inr (5, [.ref a_state, .ref a_readPage, .ref a_tape, .int f_taped, .int f_fault, .int f_broken, .int f_brokenAt, .int f_spot, .int f_here, .int f_token, .int f_value, .ref a_cutRow, .ref a_cutWeights, .ref a_isKept, .ref a_lanes, .ref a_lengths, .ref a_cells, .int f_torn]))]) [0] rfl) (ci := 5) (q0 := 0) rfl rfl) rfl hl.1 rfl (Nat.le_of_ble_eq_true rfl) dX6_up_19 ⟨Nat.zero_le _, Nat.zero_le _⟩ (fun r_4 hw => ?_)
      exact z_iret hx hb hr hlk hw dX6_up_22
    · have hw := hw.2 c_3
      refine lv_iconst (v := -1) hx hb dX6_up_12 (by decide) ?_
      refine lv_goto (tgt := 22) hx hb dX6_up_13 (by decide) ?_
      exact z_iret hx hb hr hlk hw dX6_up_22
def wX6_isAbove (f_state : Nat → Int32) (p1 : Int32) (p2 : Int32) (post : Int32 → Prop) : Prop := ((p2 < p1 → post (0 : Int32)) ∧ (¬ p2 < p1 → (wX6_sizeOf f_state p1 (fun r_2 : Int32 => ((((p1 + r_2) ≤ p2 → post (0 : Int32)) ∧ (¬ (p1 + r_2) ≤ p2 → post (1 : Int32))))))))
abbrev rX6_isAbove : Room := { frames := 2, cells := 0, slots := 0, locals := 45 }
theorem vX6_isAbove : yX6_isAbove.cls = RX6 ∧ yX6_isAbove.cls ≠ "java/lang/invoke/MethodHandle" ∧ yX6_isAbove.cls ≠ "java/lang/invoke/VarHandle" ∧ (parseMethodDescriptor yX6_isAbove.desc).map (fun d => d.parameters.length) = some 2 := by decide +kernel
set_option maxHeartbeats 4000000 in
set_option maxRecDepth 100000 in
theorem kX6_isAbove (l : Launch) (D : va_G) (cA : Nat → ClassId) (a0 a_state a_readPage a_tape a_cutRow a_cutWeights a_isKept a_lanes a_lengths a_cells : Nat) (f_taped : Int32) (f_fault : Int32) (f_broken : Int32) (f_brokenAt : Int32) (f_spot : Int32) (f_here : Int32) (f_token : Int32) (f_value : Int32) (f_torn : Int32) (f_state : Nat → Int32) (f_readPage : Nat → Int32) (f_tape : Nat → Int32) (f_cutRow : Nat → Int32) (f_cutWeights : Nat → Int32) (f_isKept : Nat → Int32) (f_lanes : Nat → Int32) (f_lengths : Nat → Int32) (f_cells : Nat → Int64) (p1 : Int32) (p2 : Int32) (post : Int32 → Prop) (h : wX6_isAbove f_state p1 p2 post) : Met l yX6_isAbove wsX6_isAbove rX6_isAbove (zPr D cA [.ref a0, .int p1, .int p2] [(a0, .inr (5, [.ref a_state, .ref a_readPage, .ref a_tape, .int f_taped, .int f_fault, .int f_broken, .int f_brokenAt, .int f_spot, .int f_here, .int f_token, .int f_value, .ref a_cutRow, .ref a_cutWeights, .ref a_isKept, .ref a_lanes, .ref a_lengths, .ref a_cells, .int f_torn])), (a_state, .inl (cA 0, 579, .inl f_state)), (a_readPage, .inl (cA 0, 193, .inl f_readPage)), (a_tape, .inl (cA 0, 160, .inl f_tape)), (a_cutRow, .inl (cA 0, 128, .inl f_cutRow)), (a_cutWeights, .inl (cA 0, 64, .inl f_cutWeights)), (a_isKept, .inl (cA 3, 2, .inl f_isKept)), (a_lanes, .inl (cA 0, 4, .inl f_lanes)), (a_lengths, .inl (cA 0, 4, .inl f_lengths)), (a_cells, .inl (cA 1, 160, .inr (.inl f_cells)))]) (vp_Si post) 0 0 (fun _ => False) := by
  refine z_ro (cc := cX6_isAbove) (maxL := 3) (ret := (some .boolean)) (by decide) rfl (Nat.le_of_ble_eq_true rfl) ?_
  intro p e s m args below meth c ls hx hb hr hlk hml hown hts hK hP hl
  have hown : s.vm.findClass RX6 = some m.cls := hown
  have hl : lv_has ls 3 [(0, .ref a0), (1, .int p1), (2, .int p2)] := hl
  have hw := h
  unfold wX6_isAbove at hw
  refine lv_iload_n hx hb dX6_isAbove_0 rfl (lv_at hl 2 rfl) ?_
  refine lv_iload_n hx hb dX6_isAbove_1 rfl (lv_at hl 1 rfl) ?_
  refine lv_icmp_lt (tgt := 20) hx hb dX6_isAbove_2 (by decide) (fun c_1 => ?_) (fun c_1 => ?_)
  · have hw := hw.1 c_1
    refine lv_iconst (v := 0) hx hb dX6_isAbove_20 (by decide) ?_
    exact z_zret hx hb hr hlk rfl hw dX6_isAbove_21
  · have hw := hw.2 c_1
    refine lv_iload_n hx hb dX6_isAbove_5 rfl (lv_at hl 2 rfl) ?_
    refine lv_iload_n hx hb dX6_isAbove_6 rfl (lv_at hl 1 rfl) ?_
    refine lv_aload_n hx hb dX6_isAbove_7 rfl (lv_at hl 0 rfl) ?_
    refine lv_iload_n hx hb dX6_isAbove_8 rfl (lv_at hl 1 rfl) ?_
    refine z_ri [.int p1] [.int p1, .int p2] ⟨hx, hb, hml, hown, hts⟩ (kX6_sizeOf l D cA a0 a_state a_readPage a_tape a_cutRow a_cutWeights a_isKept a_lanes a_lengths a_cells f_taped f_fault f_broken f_brokenAt f_spot f_here f_token f_value f_torn f_state f_readPage f_tape f_cutRow f_cutWeights f_isKept f_lanes f_lengths f_cells p1 _ hw) (cwV 1 hts gX6_isAbove_X6_sizeOf rfl rfl rfl vX6_sizeOf ⟨Nat.le_of_ble_eq_true rfl, Nat.le_of_ble_eq_true rfl⟩) hK (hP.sub [0, 1, 2, 3, 4, 5, 6, 7, 8, 9] rfl) (va_recv hK.1 (hP.sub (ws' := [(a0, .inr (5, [.ref a_state, .ref a_readPage, .ref a_tape, .int f_taped, .int f_fault, .int f_broken, .int f_brokenAt, .int f_spot, .int f_here, .int f_token, .int f_value, .ref a_cutRow, .ref a_cutWeights, .ref a_isKept, .ref a_lanes, .ref a_lengths, .ref a_cells, .int f_torn]))]) [0] rfl) (ci := 5) (q0 := 0) rfl rfl) rfl hl.1 rfl (Nat.le_of_ble_eq_true rfl) dX6_isAbove_9 ⟨Nat.zero_le _, Nat.zero_le _⟩ (fun r_2 hw => ?_)
    refine lv_iadd hx hb dX6_isAbove_12 ?_
    refine lv_icmp_ge (tgt := 20) hx hb dX6_isAbove_13 (by decide) (fun c_3 => ?_) (fun c_3 => ?_)
    · have hw := hw.1 c_3
      refine lv_iconst (v := 0) hx hb dX6_isAbove_20 (by decide) ?_
      exact z_zret hx hb hr hlk rfl hw dX6_isAbove_21
    · have hw := hw.2 c_3
      refine lv_iconst (v := 1) hx hb dX6_isAbove_16 (by decide) ?_
      refine lv_goto (tgt := 21) hx hb dX6_isAbove_17 (by decide) ?_
      exact z_zret hx hb hr hlk rfl hw dX6_isAbove_21
def wX6_meetOf (f_state : Nat → Int32) (p1 : Int32) (p2 : Int32) (post : Int32 → Prop) : Prop := (∃ (I_1 : Int32 → Prop) (mu_1 : Int32 → Nat), I_1 p1 ∧ ∀ (x_2 : Int32), I_1 x_2 → (wX6_isAbove f_state x_2 p2 (fun r_3 : Int32 => (((¬ r_3 = 0 → post x_2) ∧ (r_3 = 0 → (wX6_upFrom f_state x_2 (1 : Int32) (fun r_5 : Int32 => ((I_1 r_5 ∧ mu_1 r_5 < mu_1 x_2))))))))))
abbrev rX6_meetOf : Room := { frames := 3, cells := 0, slots := 0, locals := 70 }
theorem vX6_meetOf : yX6_meetOf.cls = RX6 ∧ yX6_meetOf.cls ≠ "java/lang/invoke/MethodHandle" ∧ yX6_meetOf.cls ≠ "java/lang/invoke/VarHandle" ∧ (parseMethodDescriptor yX6_meetOf.desc).map (fun d => d.parameters.length) = some 2 := by decide +kernel
set_option maxHeartbeats 4000000 in
set_option maxRecDepth 100000 in
theorem kX6_meetOf (l : Launch) (D : va_G) (cA : Nat → ClassId) (a0 a_state a_readPage a_tape a_cutRow a_cutWeights a_isKept a_lanes a_lengths a_cells : Nat) (f_taped : Int32) (f_fault : Int32) (f_broken : Int32) (f_brokenAt : Int32) (f_spot : Int32) (f_here : Int32) (f_token : Int32) (f_value : Int32) (f_torn : Int32) (f_state : Nat → Int32) (f_readPage : Nat → Int32) (f_tape : Nat → Int32) (f_cutRow : Nat → Int32) (f_cutWeights : Nat → Int32) (f_isKept : Nat → Int32) (f_lanes : Nat → Int32) (f_lengths : Nat → Int32) (f_cells : Nat → Int64) (p1 : Int32) (p2 : Int32) (post : Int32 → Prop) (h : wX6_meetOf f_state p1 p2 post) : Met l yX6_meetOf wsX6_meetOf rX6_meetOf (zPr D cA [.ref a0, .int p1, .int p2] [(a0, .inr (5, [.ref a_state, .ref a_readPage, .ref a_tape, .int f_taped, .int f_fault, .int f_broken, .int f_brokenAt, .int f_spot, .int f_here, .int f_token, .int f_value, .ref a_cutRow, .ref a_cutWeights, .ref a_isKept, .ref a_lanes, .ref a_lengths, .ref a_cells, .int f_torn])), (a_state, .inl (cA 0, 579, .inl f_state)), (a_readPage, .inl (cA 0, 193, .inl f_readPage)), (a_tape, .inl (cA 0, 160, .inl f_tape)), (a_cutRow, .inl (cA 0, 128, .inl f_cutRow)), (a_cutWeights, .inl (cA 0, 64, .inl f_cutWeights)), (a_isKept, .inl (cA 3, 2, .inl f_isKept)), (a_lanes, .inl (cA 0, 4, .inl f_lanes)), (a_lengths, .inl (cA 0, 4, .inl f_lengths)), (a_cells, .inl (cA 1, 160, .inr (.inl f_cells)))]) (vp_Si post) 0 0 (fun _ => False) := by
  refine z_ro (cc := cX6_meetOf) (maxL := 4) (ret := (some .int)) (by decide) rfl (Nat.le_of_ble_eq_true rfl) ?_
  intro p e s m args below meth c ls hx hb hr hlk hml hown hts hK hP hl
  have hown : s.vm.findClass RX6 = some m.cls := hown
  have hl : lv_has ls 4 [(0, .ref a0), (1, .int p1), (2, .int p2)] := hl
  have hw := h
  unfold wX6_meetOf at hw
  refine lv_iload_n hx hb dX6_meetOf_0 rfl (lv_at hl 1 rfl) ?_
  refine lv_istore_n (lv' := [(3, .int p1), (0, .ref a0), (1, .int p1), (2, .int p2)]) hx hb dX6_meetOf_1 rfl hl (by decide) rfl (fun ls hl => ?_)
  obtain ⟨I_1, mu_1, hI_1, hw⟩ := hw
  have lp_1 : ∀ (nn : Nat) (x_2 : Int32) (ls : Array Slot), mu_1 x_2 < nn → I_1 x_2 → lv_has ls 4 [(0, .ref a0), (2, .int p2), (3, .int x_2)] → W p l e rX6_meetOf s m args below meth c s.heap [] 0 0 (MQ below (vp_Si post) args s 0 0 (fun _ => False)) (F0 m 2 ls []) := by
    intro nn
    induction nn with
    | zero => exact fun _ _ h0 => absurd h0 (Nat.not_lt_zero _)
    | succ nn ih_1 =>
      intro x_2 ls hmu_1 hI_1 hl
      have hw := hw x_2 hI_1
      refine lv_aload_n hx hb dX6_meetOf_2 rfl (lv_at hl 0 rfl) ?_
      refine lv_iload_n hx hb dX6_meetOf_3 rfl (lv_at hl 2 rfl) ?_
      refine lv_iload_n hx hb dX6_meetOf_4 rfl (lv_at hl 1 rfl) ?_
      refine z_ri [.int x_2, .int p2] [] ⟨hx, hb, hml, hown, hts⟩ (kX6_isAbove l D cA a0 a_state a_readPage a_tape a_cutRow a_cutWeights a_isKept a_lanes a_lengths a_cells f_taped f_fault f_broken f_brokenAt f_spot f_here f_token f_value f_torn f_state f_readPage f_tape f_cutRow f_cutWeights f_isKept f_lanes f_lengths f_cells x_2 p2 _ hw) (cwV 2 hts gX6_meetOf_X6_isAbove rfl rfl rfl vX6_isAbove ⟨Nat.le_of_ble_eq_true rfl, Nat.le_of_ble_eq_true rfl⟩) hK (hP.sub [0, 1, 2, 3, 4, 5, 6, 7, 8, 9] rfl) (va_recv hK.1 (hP.sub (ws' := [(a0, .inr (5, [.ref a_state, .ref a_readPage, .ref a_tape, .int f_taped, .int f_fault, .int f_broken, .int f_brokenAt, .int f_spot, .int f_here, .int f_token, .int f_value, .ref a_cutRow, .ref a_cutWeights, .ref a_isKept, .ref a_lanes, .ref a_lengths, .ref a_cells, .int f_torn]))]) [0] rfl) (ci := 5) (q0 := 0) rfl rfl) rfl hl.1 rfl (Nat.le_of_ble_eq_true rfl) dX6_meetOf_5 ⟨Nat.zero_le _, Nat.zero_le _⟩ (fun r_3 hw => ?_)
      refine lv_if_ne (tgt := 21) hx hb dX6_meetOf_8 (by decide) (fun c_4 => ?_) (fun c_4 => ?_)
      · have hw := hw.1 c_4
        refine lv_iload_n hx hb dX6_meetOf_21 rfl (lv_at hl 2 rfl) ?_
        exact z_iret hx hb hr hlk hw dX6_meetOf_22
      · have hw := hw.2 c_4
        refine lv_aload_n hx hb dX6_meetOf_11 rfl (lv_at hl 0 rfl) ?_
        refine lv_iload_n hx hb dX6_meetOf_12 rfl (lv_at hl 2 rfl) ?_
        refine lv_iconst (v := 1) hx hb dX6_meetOf_13 (by decide) ?_
        refine z_ri [.int x_2, .int (1 : Int32)] [] ⟨hx, hb, hml, hown, hts⟩ (kX6_upFrom l D cA a0 a_state a_readPage a_tape a_cutRow a_cutWeights a_isKept a_lanes a_lengths a_cells f_taped f_fault f_broken f_brokenAt f_spot f_here f_token f_value f_torn f_state f_readPage f_tape f_cutRow f_cutWeights f_isKept f_lanes f_lengths f_cells x_2 (1 : Int32) _ hw) (cwV 2 hts gX6_meetOf_X6_upFrom rfl rfl rfl vX6_upFrom ⟨Nat.le_of_ble_eq_true rfl, Nat.le_of_ble_eq_true rfl⟩) hK (hP.sub [0, 1, 2, 3, 4, 5, 6, 7, 8, 9] rfl) (va_recv hK.1 (hP.sub (ws' := [(a0, .inr (5, [.ref a_state, .ref a_readPage, .ref a_tape, .int f_taped, .int f_fault, .int f_broken, .int f_brokenAt, .int f_spot, .int f_here, .int f_token, .int f_value, .ref a_cutRow, .ref a_cutWeights, .ref a_isKept, .ref a_lanes, .ref a_lengths, .ref a_cells, .int f_torn]))]) [0] rfl) (ci := 5) (q0 := 0) rfl rfl) rfl hl.1 rfl (Nat.le_of_ble_eq_true rfl) dX6_meetOf_14 ⟨Nat.zero_le _, Nat.zero_le _⟩ (fun r_5 hw => ?_)
        refine lv_istore_n (lv' := [(3, .int r_5), (0, .ref a0), (2, .int p2)]) hx hb dX6_meetOf_17 rfl hl (by decide) rfl (fun ls hl => ?_)
        refine lv_goto (tgt := 2) hx hb dX6_meetOf_18 (by decide) ?_
        exact ih_1 r_5 ls (Nat.lt_of_lt_of_le hw.2 (Nat.le_of_lt_succ hmu_1)) hw.1 (lv_sub hl [1, 2, 0] rfl)
  exact lp_1 (mu_1 p1 + 1) p1 ls (Nat.lt_succ_self _) hI_1 (lv_sub hl [1, 3, 0] rfl)
def wX6_meet (f_state : Nat → Int32) (p1 : Int32) (p2 : Int32) (post : Int32 → Prop) : Prop := (wX6_isNode f_state p1 (fun r_1 : Int32 => (((r_1 = 0 → post (-1 : Int32)) ∧ (¬ r_1 = 0 → (wX6_isNode f_state p2 (fun r_3 : Int32 => (((r_3 = 0 → post (-1 : Int32)) ∧ (¬ r_3 = 0 → (wX6_meetOf f_state p1 p2 (fun r_5 : Int32 => (post r_5)))))))))))))
abbrev rX6_meet : Room := { frames := 4, cells := 0, slots := 0, locals := 93 }
theorem vX6_meet : yX6_meet.cls = RX6 ∧ yX6_meet.cls ≠ "java/lang/invoke/MethodHandle" ∧ yX6_meet.cls ≠ "java/lang/invoke/VarHandle" ∧ (parseMethodDescriptor yX6_meet.desc).map (fun d => d.parameters.length) = some 2 := by decide +kernel
set_option maxHeartbeats 4000000 in
set_option maxRecDepth 100000 in
theorem kX6_meet (l : Launch) (D : va_G) (cA : Nat → ClassId) (a0 a_state a_readPage a_tape a_cutRow a_cutWeights a_isKept a_lanes a_lengths a_cells : Nat) (f_taped : Int32) (f_fault : Int32) (f_broken : Int32) (f_brokenAt : Int32) (f_spot : Int32) (f_here : Int32) (f_token : Int32) (f_value : Int32) (f_torn : Int32) (f_state : Nat → Int32) (f_readPage : Nat → Int32) (f_tape : Nat → Int32) (f_cutRow : Nat → Int32) (f_cutWeights : Nat → Int32) (f_isKept : Nat → Int32) (f_lanes : Nat → Int32) (f_lengths : Nat → Int32) (f_cells : Nat → Int64) (p1 : Int32) (p2 : Int32) (post : Int32 → Prop) (h : wX6_meet f_state p1 p2 post) : Met l yX6_meet wsX6_meet rX6_meet (zPr D cA [.ref a0, .int p1, .int p2] [(a0, .inr (5, [.ref a_state, .ref a_readPage, .ref a_tape, .int f_taped, .int f_fault, .int f_broken, .int f_brokenAt, .int f_spot, .int f_here, .int f_token, .int f_value, .ref a_cutRow, .ref a_cutWeights, .ref a_isKept, .ref a_lanes, .ref a_lengths, .ref a_cells, .int f_torn])), (a_state, .inl (cA 0, 579, .inl f_state)), (a_readPage, .inl (cA 0, 193, .inl f_readPage)), (a_tape, .inl (cA 0, 160, .inl f_tape)), (a_cutRow, .inl (cA 0, 128, .inl f_cutRow)), (a_cutWeights, .inl (cA 0, 64, .inl f_cutWeights)), (a_isKept, .inl (cA 3, 2, .inl f_isKept)), (a_lanes, .inl (cA 0, 4, .inl f_lanes)), (a_lengths, .inl (cA 0, 4, .inl f_lengths)), (a_cells, .inl (cA 1, 160, .inr (.inl f_cells)))]) (vp_Si post) 0 0 (fun _ => False) := by
  refine z_ro (cc := cX6_meet) (maxL := 3) (ret := (some .int)) (by decide) rfl (Nat.le_of_ble_eq_true rfl) ?_
  intro p e s m args below meth c ls hx hb hr hlk hml hown hts hK hP hl
  have hown : s.vm.findClass RX6 = some m.cls := hown
  have hl : lv_has ls 3 [(0, .ref a0), (1, .int p1), (2, .int p2)] := hl
  have hw := h
  unfold wX6_meet at hw
  refine lv_aload_n hx hb dX6_meet_0 rfl (lv_at hl 0 rfl) ?_
  refine lv_iload_n hx hb dX6_meet_1 rfl (lv_at hl 1 rfl) ?_
  refine z_ri [.int p1] [] ⟨hx, hb, hml, hown, hts⟩ (kX6_isNode l D cA a0 a_state a_readPage a_tape a_cutRow a_cutWeights a_isKept a_lanes a_lengths a_cells f_taped f_fault f_broken f_brokenAt f_spot f_here f_token f_value f_torn f_state f_readPage f_tape f_cutRow f_cutWeights f_isKept f_lanes f_lengths f_cells p1 _ hw) (cwV 1 hts gX6_meet_X6_isNode rfl rfl rfl vX6_isNode ⟨Nat.le_of_ble_eq_true rfl, Nat.le_of_ble_eq_true rfl⟩) hK (hP.sub [0, 1, 2, 3, 4, 5, 6, 7, 8, 9] rfl) (va_recv hK.1 (hP.sub (ws' := [(a0, .inr (5, [.ref a_state, .ref a_readPage, .ref a_tape, .int f_taped, .int f_fault, .int f_broken, .int f_brokenAt, .int f_spot, .int f_here, .int f_token, .int f_value, .ref a_cutRow, .ref a_cutWeights, .ref a_isKept, .ref a_lanes, .ref a_lengths, .ref a_cells, .int f_torn]))]) [0] rfl) (ci := 5) (q0 := 0) rfl rfl) rfl hl.1 rfl (Nat.le_of_ble_eq_true rfl) dX6_meet_2 ⟨Nat.zero_le _, Nat.zero_le _⟩ (fun r_1 hw => ?_)
  refine lv_if_eq (tgt := 25) hx hb dX6_meet_5 (by decide) (fun c_2 => ?_) (fun c_2 => ?_)
  · have hw := hw.1 c_2
    refine lv_iconst (v := -1) hx hb dX6_meet_25 (by decide) ?_
    exact z_iret hx hb hr hlk hw dX6_meet_26
  · have hw := hw.2 c_2
    refine lv_aload_n hx hb dX6_meet_8 rfl (lv_at hl 0 rfl) ?_
    refine lv_iload_n hx hb dX6_meet_9 rfl (lv_at hl 2 rfl) ?_
    refine z_ri [.int p2] [] ⟨hx, hb, hml, hown, hts⟩ (kX6_isNode l D cA a0 a_state a_readPage a_tape a_cutRow a_cutWeights a_isKept a_lanes a_lengths a_cells f_taped f_fault f_broken f_brokenAt f_spot f_here f_token f_value f_torn f_state f_readPage f_tape f_cutRow f_cutWeights f_isKept f_lanes f_lengths f_cells p2 _ hw) (cwV 1 hts gX6_meet_X6_isNode rfl rfl rfl vX6_isNode ⟨Nat.le_of_ble_eq_true rfl, Nat.le_of_ble_eq_true rfl⟩) hK (hP.sub [0, 1, 2, 3, 4, 5, 6, 7, 8, 9] rfl) (va_recv hK.1 (hP.sub (ws' := [(a0, .inr (5, [.ref a_state, .ref a_readPage, .ref a_tape, .int f_taped, .int f_fault, .int f_broken, .int f_brokenAt, .int f_spot, .int f_here, .int f_token, .int f_value, .ref a_cutRow, .ref a_cutWeights, .ref a_isKept, .ref a_lanes, .ref a_lengths, .ref a_cells, .int f_torn]))]) [0] rfl) (ci := 5) (q0 := 0) rfl rfl) rfl hl.1 rfl (Nat.le_of_ble_eq_true rfl) dX6_meet_10 ⟨Nat.zero_le _, Nat.zero_le _⟩ (fun r_3 hw => ?_)
    refine lv_if_eq (tgt := 25) hx hb dX6_meet_13 (by decide) (fun c_4 => ?_) (fun c_4 => ?_)
    · have hw := hw.1 c_4
      refine lv_iconst (v := -1) hx hb dX6_meet_25 (by decide) ?_
      exact z_iret hx hb hr hlk hw dX6_meet_26
    · have hw := hw.2 c_4
      refine lv_aload_n hx hb dX6_meet_16 rfl (lv_at hl 0 rfl) ?_
      refine lv_iload_n hx hb dX6_meet_17 rfl (lv_at hl 1 rfl) ?_
      refine lv_iload_n hx hb dX6_meet_18 rfl (lv_at hl 2 rfl) ?_
      refine z_ri [.int p1, .int p2] [] ⟨hx, hb, hml, hown, hts⟩ (kX6_meetOf l D cA a0 a_state a_readPage a_tape a_cutRow a_cutWeights a_isKept a_lanes a_lengths a_cells f_taped f_fault f_broken f_brokenAt f_spot f_here f_token f_value f_torn f_state f_readPage f_tape f_cutRow f_cutWeights f_isKept f_lanes f_lengths f_cells p1 p2 _ hw) (cwV 2 hts gX6_meet_X6_meetOf rfl rfl rfl vX6_meetOf ⟨Nat.le_of_ble_eq_true rfl, Nat.le_of_ble_eq_true rfl⟩) hK (hP.sub [0, 1, 2, 3, 4, 5, 6, 7, 8, 9] rfl) (va_recv hK.1 (hP.sub (ws' := [(a0, .inr (5, [.ref a_state, .ref a_readPage, .ref a_tape, .int f_taped, .int f_fault, .int f_broken, .int f_brokenAt, .int f_spot, .int f_here, .int f_token, .int f_value, .ref a_cutRow, .ref a_cutWeights, .ref a_isKept, .ref a_lanes, .ref a_lengths, .ref a_cells, .int f_torn]))]) [0] rfl) (ci := 5) (q0 := 0) rfl rfl) rfl hl.1 rfl (Nat.le_of_ble_eq_true rfl) dX6_meet_19 ⟨Nat.zero_le _, Nat.zero_le _⟩ (fun r_5 hw => ?_)
      refine lv_goto (tgt := 26) hx hb dX6_meet_22 (by decide) ?_
      exact z_iret hx hb hr hlk hw dX6_meet_26
def wX6_way (f_state : Nat → Int32) (p1 : Int32) (p2 : Int32) (post : Int32 → Prop) : Prop := (wX6_isNode f_state p1 (fun r_1 : Int32 => (((r_1 = 0 → post (-1 : Int32)) ∧ (¬ r_1 = 0 → (wX6_isNode f_state p2 (fun r_3 : Int32 => (((r_3 = 0 → post (-1 : Int32)) ∧ (¬ r_3 = 0 → (wX6_depthOf f_state p1 (fun r_5 : Int32 => ((wX6_depthOf f_state p2 (fun r_6 : Int32 => ((wX6_meetOf f_state p1 p2 (fun r_7 : Int32 => ((wX6_depthOf f_state r_7 (fun r_8 : Int32 => (post ((r_5 + r_6) - ((2 : Int32) * r_8))))))))))))))))))))))))
abbrev rX6_way : Room := { frames := 4, cells := 0, slots := 0, locals := 93 }
theorem vX6_way : yX6_way.cls = RX6 ∧ yX6_way.cls ≠ "java/lang/invoke/MethodHandle" ∧ yX6_way.cls ≠ "java/lang/invoke/VarHandle" ∧ (parseMethodDescriptor yX6_way.desc).map (fun d => d.parameters.length) = some 2 := by decide +kernel
set_option maxHeartbeats 4000000 in
set_option maxRecDepth 100000 in
theorem kX6_way (l : Launch) (D : va_G) (cA : Nat → ClassId) (a0 a_state a_readPage a_tape a_cutRow a_cutWeights a_isKept a_lanes a_lengths a_cells : Nat) (f_taped : Int32) (f_fault : Int32) (f_broken : Int32) (f_brokenAt : Int32) (f_spot : Int32) (f_here : Int32) (f_token : Int32) (f_value : Int32) (f_torn : Int32) (f_state : Nat → Int32) (f_readPage : Nat → Int32) (f_tape : Nat → Int32) (f_cutRow : Nat → Int32) (f_cutWeights : Nat → Int32) (f_isKept : Nat → Int32) (f_lanes : Nat → Int32) (f_lengths : Nat → Int32) (f_cells : Nat → Int64) (p1 : Int32) (p2 : Int32) (post : Int32 → Prop) (h : wX6_way f_state p1 p2 post) : Met l yX6_way wsX6_way rX6_way (zPr D cA [.ref a0, .int p1, .int p2] [(a0, .inr (5, [.ref a_state, .ref a_readPage, .ref a_tape, .int f_taped, .int f_fault, .int f_broken, .int f_brokenAt, .int f_spot, .int f_here, .int f_token, .int f_value, .ref a_cutRow, .ref a_cutWeights, .ref a_isKept, .ref a_lanes, .ref a_lengths, .ref a_cells, .int f_torn])), (a_state, .inl (cA 0, 579, .inl f_state)), (a_readPage, .inl (cA 0, 193, .inl f_readPage)), (a_tape, .inl (cA 0, 160, .inl f_tape)), (a_cutRow, .inl (cA 0, 128, .inl f_cutRow)), (a_cutWeights, .inl (cA 0, 64, .inl f_cutWeights)), (a_isKept, .inl (cA 3, 2, .inl f_isKept)), (a_lanes, .inl (cA 0, 4, .inl f_lanes)), (a_lengths, .inl (cA 0, 4, .inl f_lengths)), (a_cells, .inl (cA 1, 160, .inr (.inl f_cells)))]) (vp_Si post) 0 0 (fun _ => False) := by
  refine z_ro (cc := cX6_way) (maxL := 3) (ret := (some .int)) (by decide) rfl (Nat.le_of_ble_eq_true rfl) ?_
  intro p e s m args below meth c ls hx hb hr hlk hml hown hts hK hP hl
  have hown : s.vm.findClass RX6 = some m.cls := hown
  have hl : lv_has ls 3 [(0, .ref a0), (1, .int p1), (2, .int p2)] := hl
  have hw := h
  unfold wX6_way at hw
  refine lv_aload_n hx hb dX6_way_0 rfl (lv_at hl 0 rfl) ?_
  refine lv_iload_n hx hb dX6_way_1 rfl (lv_at hl 1 rfl) ?_
  refine z_ri [.int p1] [] ⟨hx, hb, hml, hown, hts⟩ (kX6_isNode l D cA a0 a_state a_readPage a_tape a_cutRow a_cutWeights a_isKept a_lanes a_lengths a_cells f_taped f_fault f_broken f_brokenAt f_spot f_here f_token f_value f_torn f_state f_readPage f_tape f_cutRow f_cutWeights f_isKept f_lanes f_lengths f_cells p1 _ hw) (cwV 1 hts gX6_way_X6_isNode rfl rfl rfl vX6_isNode ⟨Nat.le_of_ble_eq_true rfl, Nat.le_of_ble_eq_true rfl⟩) hK (hP.sub [0, 1, 2, 3, 4, 5, 6, 7, 8, 9] rfl) (va_recv hK.1 (hP.sub (ws' := [(a0, .inr (5, [.ref a_state, .ref a_readPage, .ref a_tape, .int f_taped, .int f_fault, .int f_broken, .int f_brokenAt, .int f_spot, .int f_here, .int f_token, .int f_value, .ref a_cutRow, .ref a_cutWeights, .ref a_isKept, .ref a_lanes, .ref a_lengths, .ref a_cells, .int f_torn]))]) [0] rfl) (ci := 5) (q0 := 0) rfl rfl) rfl hl.1 rfl (Nat.le_of_ble_eq_true rfl) dX6_way_2 ⟨Nat.zero_le _, Nat.zero_le _⟩ (fun r_1 hw => ?_)
  refine lv_if_eq (tgt := 43) hx hb dX6_way_5 (by decide) (fun c_2 => ?_) (fun c_2 => ?_)
  · have hw := hw.1 c_2
    refine lv_iconst (v := -1) hx hb dX6_way_43 (by decide) ?_
    exact z_iret hx hb hr hlk hw dX6_way_44
  · have hw := hw.2 c_2
    refine lv_aload_n hx hb dX6_way_8 rfl (lv_at hl 0 rfl) ?_
    refine lv_iload_n hx hb dX6_way_9 rfl (lv_at hl 2 rfl) ?_
    refine z_ri [.int p2] [] ⟨hx, hb, hml, hown, hts⟩ (kX6_isNode l D cA a0 a_state a_readPage a_tape a_cutRow a_cutWeights a_isKept a_lanes a_lengths a_cells f_taped f_fault f_broken f_brokenAt f_spot f_here f_token f_value f_torn f_state f_readPage f_tape f_cutRow f_cutWeights f_isKept f_lanes f_lengths f_cells p2 _ hw) (cwV 1 hts gX6_way_X6_isNode rfl rfl rfl vX6_isNode ⟨Nat.le_of_ble_eq_true rfl, Nat.le_of_ble_eq_true rfl⟩) hK (hP.sub [0, 1, 2, 3, 4, 5, 6, 7, 8, 9] rfl) (va_recv hK.1 (hP.sub (ws' := [(a0, .inr (5, [.ref a_state, .ref a_readPage, .ref a_tape, .int f_taped, .int f_fault, .int f_broken, .int f_brokenAt, .int f_spot, .int f_here, .int f_token, .int f_value, .ref a_cutRow, .ref a_cutWeights, .ref a_isKept, .ref a_lanes, .ref a_lengths, .ref a_cells, .int f_torn]))]) [0] rfl) (ci := 5) (q0 := 0) rfl rfl) rfl hl.1 rfl (Nat.le_of_ble_eq_true rfl) dX6_way_10 ⟨Nat.zero_le _, Nat.zero_le _⟩ (fun r_3 hw => ?_)
    refine lv_if_eq (tgt := 43) hx hb dX6_way_13 (by decide) (fun c_4 => ?_) (fun c_4 => ?_)
    · have hw := hw.1 c_4
      refine lv_iconst (v := -1) hx hb dX6_way_43 (by decide) ?_
      exact z_iret hx hb hr hlk hw dX6_way_44
    · have hw := hw.2 c_4
      refine lv_aload_n hx hb dX6_way_16 rfl (lv_at hl 0 rfl) ?_
      refine lv_iload_n hx hb dX6_way_17 rfl (lv_at hl 1 rfl) ?_
      refine z_ri [.int p1] [] ⟨hx, hb, hml, hown, hts⟩ (kX6_depthOf l D cA a0 a_state a_readPage a_tape a_cutRow a_cutWeights a_isKept a_lanes a_lengths a_cells f_taped f_fault f_broken f_brokenAt f_spot f_here f_token f_value f_torn f_state f_readPage f_tape f_cutRow f_cutWeights f_isKept f_lanes f_lengths f_cells p1 _ hw) (cwV 1 hts gX6_way_X6_depthOf rfl rfl rfl vX6_depthOf ⟨Nat.le_of_ble_eq_true rfl, Nat.le_of_ble_eq_true rfl⟩) hK (hP.sub [0, 1, 2, 3, 4, 5, 6, 7, 8, 9] rfl) (va_recv hK.1 (hP.sub (ws' := [(a0, .inr (5, [.ref a_state, .ref a_readPage, .ref a_tape, .int f_taped, .int f_fault, .int f_broken, .int f_brokenAt, .int f_spot, .int f_here, .int f_token, .int f_value, .ref a_cutRow, .ref a_cutWeights, .ref a_isKept, .ref a_lanes, .ref a_lengths, .ref a_cells, .int f_torn]))]) [0] rfl) (ci := 5) (q0 := 0) rfl rfl) rfl hl.1 rfl (Nat.le_of_ble_eq_true rfl) dX6_way_18 ⟨Nat.zero_le _, Nat.zero_le _⟩ (fun r_5 hw => ?_)
      refine lv_aload_n hx hb dX6_way_21 rfl (lv_at hl 0 rfl) ?_
      refine lv_iload_n hx hb dX6_way_22 rfl (lv_at hl 2 rfl) ?_
      refine z_ri [.int p2] [.int r_5] ⟨hx, hb, hml, hown, hts⟩ (kX6_depthOf l D cA a0 a_state a_readPage a_tape a_cutRow a_cutWeights a_isKept a_lanes a_lengths a_cells f_taped f_fault f_broken f_brokenAt f_spot f_here f_token f_value f_torn f_state f_readPage f_tape f_cutRow f_cutWeights f_isKept f_lanes f_lengths f_cells p2 _ hw) (cwV 1 hts gX6_way_X6_depthOf rfl rfl rfl vX6_depthOf ⟨Nat.le_of_ble_eq_true rfl, Nat.le_of_ble_eq_true rfl⟩) hK (hP.sub [0, 1, 2, 3, 4, 5, 6, 7, 8, 9] rfl) (va_recv hK.1 (hP.sub (ws' := [(a0, .inr (5, [.ref a_state, .ref a_readPage, .ref a_tape, .int f_taped, .int f_fault, .int f_broken, .int f_brokenAt, .int f_spot, .int f_here, .int f_token, .int f_value, .ref a_cutRow, .ref a_cutWeights, .ref a_isKept, .ref a_lanes, .ref a_lengths, .ref a_cells, .int f_torn]))]) [0] rfl) (ci := 5) (q0 := 0) rfl rfl) rfl hl.1 rfl (Nat.le_of_ble_eq_true rfl) dX6_way_23 ⟨Nat.zero_le _, Nat.zero_le _⟩ (fun r_6 hw => ?_)
      refine lv_iadd hx hb dX6_way_26 ?_
      refine lv_iconst (v := 2) hx hb dX6_way_27 (by decide) ?_
      refine lv_aload_n hx hb dX6_way_28 rfl (lv_at hl 0 rfl) ?_
      refine lv_aload_n hx hb dX6_way_29 rfl (lv_at hl 0 rfl) ?_
      refine lv_iload_n hx hb dX6_way_30 rfl (lv_at hl 1 rfl) ?_
      refine lv_iload_n hx hb dX6_way_31 rfl (lv_at hl 2 rfl) ?_
      refine z_ri [.int p1, .int p2] [.ref a0, .int (2 : Int32), .int (r_5 + r_6)] ⟨hx, hb, hml, hown, hts⟩ (kX6_meetOf l D cA a0 a_state a_readPage a_tape a_cutRow a_cutWeights a_isKept a_lanes a_lengths a_cells f_taped f_fault f_broken f_brokenAt f_spot f_here f_token f_value f_torn f_state f_readPage f_tape f_cutRow f_cutWeights f_isKept f_lanes f_lengths f_cells p1 p2 _ hw) (cwV 2 hts gX6_way_X6_meetOf rfl rfl rfl vX6_meetOf ⟨Nat.le_of_ble_eq_true rfl, Nat.le_of_ble_eq_true rfl⟩) hK (hP.sub [0, 1, 2, 3, 4, 5, 6, 7, 8, 9] rfl) (va_recv hK.1 (hP.sub (ws' := [(a0, .inr (5, [.ref a_state, .ref a_readPage, .ref a_tape, .int f_taped, .int f_fault, .int f_broken, .int f_brokenAt, .int f_spot, .int f_here, .int f_token, .int f_value, .ref a_cutRow, .ref a_cutWeights, .ref a_isKept, .ref a_lanes, .ref a_lengths, .ref a_cells, .int f_torn]))]) [0] rfl) (ci := 5) (q0 := 0) rfl rfl) rfl hl.1 rfl (Nat.le_of_ble_eq_true rfl) dX6_way_32 ⟨Nat.zero_le _, Nat.zero_le _⟩ (fun r_7 hw => ?_)
      refine z_ri [.int r_7] [.int (2 : Int32), .int (r_5 + r_6)] ⟨hx, hb, hml, hown, hts⟩ (kX6_depthOf l D cA a0 a_state a_readPage a_tape a_cutRow a_cutWeights a_isKept a_lanes a_lengths a_cells f_taped f_fault f_broken f_brokenAt f_spot f_here f_token f_value f_torn f_state f_readPage f_tape f_cutRow f_cutWeights f_isKept f_lanes f_lengths f_cells r_7 _ hw) (cwV 1 hts gX6_way_X6_depthOf rfl rfl rfl vX6_depthOf ⟨Nat.le_of_ble_eq_true rfl, Nat.le_of_ble_eq_true rfl⟩) hK (hP.sub [0, 1, 2, 3, 4, 5, 6, 7, 8, 9] rfl) (va_recv hK.1 (hP.sub (ws' := [(a0, .inr (5, [.ref a_state, .ref a_readPage, .ref a_tape, .int f_taped, .int f_fault, .int f_broken, .int f_brokenAt, .int f_spot, .int f_here, .int f_token, .int f_value, .ref a_cutRow, .ref a_cutWeights, .ref a_isKept, .ref a_lanes, .ref a_lengths, .ref a_cells, .int f_torn]))]) [0] rfl) (ci := 5) (q0 := 0) rfl rfl) rfl hl.1 rfl (Nat.le_of_ble_eq_true rfl) dX6_way_35 ⟨Nat.zero_le _, Nat.zero_le _⟩ (fun r_8 hw => ?_)
      refine lv_imul hx hb dX6_way_38 ?_
      refine lv_isub hx hb dX6_way_39 ?_
      refine lv_goto (tgt := 44) hx hb dX6_way_40 (by decide) ?_
      exact z_iret hx hb hr hlk hw dX6_way_44
