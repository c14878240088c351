/-! written by wip/whole/gen.py -/
def wX6_upFrom (f_state : Nat → Int32) (p1 : Int32) (p2 : Int32) (post : Int32 → Prop) : Prop := (∃ (I_1 : Int32 → Int32 → Prop) (mu_1 : Int32 → Int32 → Nat), I_1 p1 (0 : Int32) ∧ ∀ (x_2 : Int32) (x_3 : Int32), I_1 x_2 x_3 → ((p2 ≤ x_3 → post x_2) ∧ (¬ p2 ≤ x_3 → ((x_2 = (-4 : Int32) → post x_2) ∧ (¬ x_2 = (-4 : Int32) → (wX6_depthOf f_state x_2 (fun r_6 : Int32 => ((∀ x_7 : Int32, x_7 = (x_2 - (1 : Int32)) → (∃ (I_8 : Int32 → Prop) (mu_8 : Int32 → Nat), I_8 x_7 ∧ ∀ (x_9 : Int32), I_8 x_9 → ((x_9 < 0 → ((0 ≤ x_9 → (∀ x_12 : Int32, x_12 = x_3 + (1) → (I_1 x_9 x_12 ∧ mu_1 x_9 x_12 < mu_1 x_2 x_3))) ∧ (¬ 0 ≤ x_9 → (∀ x_13 : Int32, x_13 = x_3 + (1) → (I_1 (-4 : Int32) x_13 ∧ mu_1 (-4 : Int32) x_13 < mu_1 x_2 x_3))))) ∧ (¬ x_9 < 0 → (wX6_depthOf f_state x_9 (fun r_14 : Int32 => (((r_14 = (r_6 - (1 : Int32)) → ((0 ≤ x_9 → (∀ x_17 : Int32, x_17 = x_3 + (1) → (I_1 x_9 x_17 ∧ mu_1 x_9 x_17 < mu_1 x_2 x_3))) ∧ (¬ 0 ≤ x_9 → (∀ x_18 : Int32, x_18 = x_3 + (1) → (I_1 (-4 : Int32) x_18 ∧ mu_1 (-4 : Int32) x_18 < mu_1 x_2 x_3))))) ∧ (¬ r_14 = (r_6 - (1 : Int32)) → (∀ x_19 : Int32, x_19 = x_9 + (-1) → (I_8 x_19 ∧ mu_8 x_19 < mu_8 x_9)))))))))))))))))))
abbrev rX6_upFrom : Room := { frames := 2, cells := 0, slots := 0, locals := 44 }
theorem vX6_upFrom : yX6_upFrom.cls = RX6 ∧ yX6_upFrom.cls ≠ "java/lang/invoke/MethodHandle" ∧ yX6_upFrom.cls ≠ "java/lang/invoke/VarHandle" ∧ (parseMethodDescriptor yX6_upFrom.desc).map (fun d => d.parameters.length) = some 2 := by decide +kernel
set_option maxHeartbeats 4000000 in
set_option maxRecDepth 100000 in
theorem kX6_upFrom (l : Launch) (D : va_G) (cA : Nat → ClassId) (a0 a_state a_readPage a_tape a_cutRow a_cutWeights a_isKept a_lanes a_lengths a_cells : Nat) (f_taped : Int32) (f_fault : Int32) (f_broken : Int32) (f_brokenAt : Int32) (f_spot : Int32) (f_here : Int32) (f_token : Int32) (f_value : Int32) (f_torn : Int32) (f_state : Nat → Int32) (f_readPage : Nat → Int32) (f_tape : Nat → Int32) (f_cutRow : Nat → Int32) (f_cutWeights : Nat → Int32) (f_isKept : Nat → Int32) (f_lanes : Nat → Int32) (f_lengths : Nat → Int32) (f_cells : Nat → Int64) (p1 : Int32) (p2 : Int32) (post : Int32 → Prop) (h : wX6_upFrom f_state p1 p2 post) : Met l yX6_upFrom wsX6_upFrom rX6_upFrom (zPr D cA [.ref a0, .int p1, .int p2] [(a0, .inr (5, [.ref a_state, .ref a_readPage, .ref a_tape, .int f_taped, .int f_fault, .int f_broken, .int f_brokenAt, .int f_spot, .int f_here, .int f_token, .int f_value, .ref a_cutRow, .ref a_cutWeights, .ref a_isKept, .ref a_lanes, .ref a_lengths, .ref a_cells, .int f_torn])), (a_state, .inl (cA 0, 579, .inl f_state)), (a_readPage, .inl (cA 0, 193, .inl f_readPage)), (a_tape, .inl (cA 0, 160, .inl f_tape)), (a_cutRow, .inl (cA 0, 128, .inl f_cutRow)), (a_cutWeights, .inl (cA 0, 64, .inl f_cutWeights)), (a_isKept, .inl (cA 3, 2, .inl f_isKept)), (a_lanes, .inl (cA 0, 4, .inl f_lanes)), (a_lengths, .inl (cA 0, 4, .inl f_lengths)), (a_cells, .inl (cA 1, 160, .inr (.inl f_cells)))]) (vp_Si post) 0 0 (fun _ => False) := by
  refine z_ro (cc := cX6_upFrom) (maxL := 7) (ret := (some .int)) (by decide) rfl (Nat.le_of_ble_eq_true rfl) ?_
  intro p e s m args below meth c ls hx hb hr hlk hml hown hts hK hP hl
  have hown : s.vm.findClass RX6 = some m.cls := hown
  have hl : lv_has ls 7 [(0, .ref a0), (1, .int p1), (2, .int p2)] := hl
  have hw := h
  unfold wX6_upFrom at hw
  refine lv_iload_n hx hb dX6_upFrom_0 rfl (lv_at hl 1 rfl) ?_
  refine lv_istore_n (lv' := [(3, .int p1), (0, .ref a0), (1, .int p1), (2, .int p2)]) hx hb dX6_upFrom_1 rfl hl (by decide) rfl (fun ls hl => ?_)
  refine lv_iconst (v := 0) hx hb dX6_upFrom_2 (by decide) ?_
  refine lv_istore (lv' := [(4, .int (0 : Int32)), (3, .int p1), (0, .ref a0), (1, .int p1), (2, .int p2)]) hx hb dX6_upFrom_3 hl (by decide) rfl (fun ls hl => ?_)
  obtain ⟨I_1, mu_1, hI_1, hw⟩ := hw
  have lp_1 : ∀ (nn : Nat) (x_2 : Int32) (x_3 : Int32) (ls : Array Slot), mu_1 x_2 x_3 < nn → I_1 x_2 x_3 → lv_has ls 7 [(0, .ref a0), (2, .int p2), (3, .int x_2), (4, .int x_3)] → W p l e rX6_upFrom s m args below meth c s.heap [] 0 0 (MQ below (vp_Si post) args s 0 0 (fun _ => False)) (F0 m 5 ls []) := by
    intro nn
    induction nn with
    | zero => exact fun _ _ _ h0 => absurd h0 (Nat.not_lt_zero _)
    | succ nn ih_1 =>
      intro x_2 x_3 ls hmu_1 hI_1 hl
      have hw := hw x_2 x_3 hI_1
      refine lv_iload hx hb dX6_upFrom_5 (lv_at hl 3 rfl) ?_
      refine lv_iload_n hx hb dX6_upFrom_7 rfl (lv_at hl 1 rfl) ?_
      refine lv_icmp_ge (tgt := 72) hx hb dX6_upFrom_8 (by decide) (fun c_4 => ?_) (fun c_4 => ?_)
      · have hw := hw.1 c_4
        refine lv_iload_n hx hb dX6_upFrom_72 rfl (lv_at hl 2 rfl) ?_
        exact z_iret hx hb hr hlk hw dX6_upFrom_73
      · have hw := hw.2 c_4
        refine lv_iload_n hx hb dX6_upFrom_11 rfl (lv_at hl 2 rfl) ?_
        refine lv_bipush (v := -4) hx hb dX6_upFrom_12 (by decide) ?_
        refine lv_icmp_eq (tgt := 72) hx hb dX6_upFrom_14 (by decide) (fun c_5 => ?_) (fun c_5 => ?_)
        · have hw := hw.1 c_5
          refine lv_iload_n hx hb dX6_upFrom_72 rfl (lv_at hl 2 rfl) ?_
          exact z_iret hx hb hr hlk hw dX6_upFrom_73
        · have hw := hw.2 c_5
          refine lv_aload_n hx hb dX6_upFrom_17 rfl (lv_at hl 0 rfl) ?_
          refine lv_iload_n hx hb dX6_upFrom_18 rfl (lv_at hl 2 rfl) ?_
          refine z_ri [.int x_2] [] ⟨hx, hb, hml, hown, hts⟩ (kX6_depthOf l D cA a0 a_state a_readPage a_tape a_cutRow a_cutWeights a_isKept a_lanes a_lengths a_cells f_taped f_fault f_broken f_brokenAt f_spot f_here f_token f_value f_torn f_state f_readPage f_tape f_cutRow f_cutWeights f_isKept f_lanes f_lengths f_cells x_2 _ hw) (cwV 1 hts gX6_upFrom_X6_depthOf rfl rfl rfl vX6_depthOf ⟨Nat.le_of_ble_eq_true rfl, Nat.le_of_ble_eq_true rfl⟩) hK (hP.sub [0, 1, 2, 3, 4, 5, 6, 7, 8, 9] rfl) (va_recv hK.1 (hP.sub (ws' := [(a0, .inr (5, [.ref a_state, .ref a_readPage, .ref a_tape, .int f_taped, .int f_fault, .int f_broken, .int f_brokenAt, .int f_spot, .int f_here, .int f_token, .int f_value, .ref a_cutRow, .ref a_cutWeights, .ref a_isKept, .ref a_lanes, .ref a_lengths, .ref a_cells, .int f_torn]))]) [0] rfl) (ci := 5) (q0 := 0) rfl rfl) rfl hl.1 rfl (Nat.le_of_ble_eq_true rfl) dX6_upFrom_19 ⟨Nat.zero_le _, Nat.zero_le _⟩ (fun r_6 hw => ?_)
          refine lv_istore (lv' := [(5, .int r_6), (0, .ref a0), (2, .int p2), (3, .int x_2), (4, .int x_3)]) hx hb dX6_upFrom_22 hl (by decide) rfl (fun ls hl => ?_)
          refine lv_iload_n hx hb dX6_upFrom_24 rfl (lv_at hl 3 rfl) ?_
          refine lv_iconst (v := 1) hx hb dX6_upFrom_25 (by decide) ?_
          refine lv_isub hx hb dX6_upFrom_26 ?_
          refine lv_topi (fun x_7 ex_7 => ?_)
          have hw := hw x_7 ex_7
          refine lv_istore (lv' := [(6, .int x_7), (5, .int r_6), (0, .ref a0), (2, .int p2), (3, .int x_2), (4, .int x_3)]) hx hb dX6_upFrom_27 hl (by decide) rfl (fun ls hl => ?_)
          obtain ⟨I_8, mu_8, hI_8, hw⟩ := hw
          have lp_8 : ∀ (nn : Nat) (x_9 : Int32) (ls : Array Slot), mu_8 x_9 < nn → I_8 x_9 → lv_has ls 7 [(0, .ref a0), (2, .int p2), (4, .int x_3), (5, .int r_6), (6, .int x_9)] → W p l e rX6_upFrom s m args below meth c s.heap [] 0 0 (MQ below (vp_Si post) args s 0 0 (fun _ => False)) (F0 m 29 ls []) := by
            intro nn
            induction nn with
            | zero => exact fun _ _ h0 => absurd h0 (Nat.not_lt_zero _)
            | succ nn ih_8 =>
              intro x_9 ls hmu_8 hI_8 hl
              have hw := hw x_9 hI_8
              refine lv_iload hx hb dX6_upFrom_29 (lv_at hl 4 rfl) ?_
              refine lv_if_lt (tgt := 53) hx hb dX6_upFrom_31 (by decide) (fun c_10 => ?_) (fun c_10 => ?_)
              · have hw := hw.1 c_10
                refine lv_iload hx hb dX6_upFrom_53 (lv_at hl 4 rfl) ?_
                refine lv_if_ge (tgt := 63) hx hb dX6_upFrom_55 (by decide) (fun c_11 => ?_) (fun c_11 => ?_)
                · have hw := hw.1 c_11
                  refine lv_iload hx hb dX6_upFrom_63 (lv_at hl 4 rfl) ?_
                  refine lv_istore_n (lv' := [(3, .int x_9), (0, .ref a0), (2, .int p2), (4, .int x_3), (5, .int r_6), (6, .int x_9)]) hx hb dX6_upFrom_65 rfl hl (by decide) rfl (fun ls hl => ?_)
                  obtain ⟨x_12, ex_12⟩ : ∃ y : Int32, y = x_3 + (1) := ⟨_, rfl⟩
                  have hw := hw x_12 ex_12
                  refine lv_iinc (v := x_12) (lv' := [(4, .int x_12), (3, .int x_9), (0, .ref a0), (2, .int p2), (5, .int r_6), (6, .int x_9)]) hx hb dX6_upFrom_66 hl (k := 3) rfl (by rw [ex_12]; rfl) (by decide) rfl (fun ls hl => ?_)
                  refine lv_goto (tgt := 5) hx hb dX6_upFrom_69 (by decide) ?_
                  exact ih_1 x_9 x_12 ls (Nat.lt_of_lt_of_le hw.2 (Nat.le_of_lt_succ hmu_1)) hw.1 (lv_sub hl [2, 3, 1, 0] rfl)
                · have hw := hw.2 c_11
                  refine lv_bipush (v := -4) hx hb dX6_upFrom_58 (by decide) ?_
                  refine lv_goto (tgt := 65) hx hb dX6_upFrom_60 (by decide) ?_
                  refine lv_istore_n (lv' := [(3, .int (-4 : Int32)), (0, .ref a0), (2, .int p2), (4, .int x_3), (5, .int r_6), (6, .int x_9)]) hx hb dX6_upFrom_65 rfl hl (by decide) rfl (fun ls hl => ?_)
                  obtain ⟨x_13, ex_13⟩ : ∃ y : Int32, y = x_3 + (1) := ⟨_, rfl⟩
                  have hw := hw x_13 ex_13
                  refine lv_iinc (v := x_13) (lv' := [(4, .int x_13), (3, .int (-4 : Int32)), (0, .ref a0), (2, .int p2), (5, .int r_6), (6, .int x_9)]) hx hb dX6_upFrom_66 hl (k := 3) rfl (by rw [ex_13]; rfl) (by decide) rfl (fun ls hl => ?_)
                  refine lv_goto (tgt := 5) hx hb dX6_upFrom_69 (by decide) ?_
                  exact ih_1 (-4 : Int32) x_13 ls (Nat.lt_of_lt_of_le hw.2 (Nat.le_of_lt_succ hmu_1)) hw.1 (lv_sub hl [2, 3, 1, 0] rfl)
              · have hw := hw.2 c_10
                refine lv_aload_n hx hb dX6_upFrom_34 rfl (lv_at hl 0 rfl) ?_
                refine lv_iload hx hb dX6_upFrom_35 (lv_at hl 4 rfl) ?_
                refine z_ri [.int x_9] [] ⟨hx, hb, hml, hown, hts⟩ (kX6_depthOf l D cA a0 a_state a_readPage a_tape a_cutRow a_cutWeights a_isKept a_lanes a_lengths a_cells f_taped f_fault f_broken f_brokenAt f_spot f_here f_token f_value f_torn f_state f_readPage f_tape f_cutRow f_cutWeights f_isKept f_lanes f_lengths f_cells x_9 _ hw) (cwV 1 hts gX6_upFrom_X6_depthOf rfl rfl rfl vX6_depthOf ⟨Nat.le_of_ble_eq_true rfl, Nat.le_of_ble_eq_true rfl⟩) hK (hP.sub [0, 1, 2, 3, 4, 5, 6, 7, 8, 9] rfl) (va_recv hK.1 (hP.sub (ws' := [(a0, .inr (5, [.ref a_state, .ref a_readPage, .ref a_tape, .int f_taped, .int f_fault, .int f_broken, .int f_brokenAt, .int f_spot, .int f_here, .int f_token, .int f_value, .ref a_cutRow, .ref a_cutWeights, .ref a_isKept, .ref a_lanes, .ref a_lengths, .ref a_cells, .int f_torn]))]) [0] rfl) (ci := 5) (q0 := 0) rfl rfl) rfl hl.1 rfl (Nat.le_of_ble_eq_true rfl) dX6_upFrom_37 ⟨Nat.zero_le _, Nat.zero_le _⟩ (fun r_14 hw => ?_)
                refine lv_iload hx hb dX6_upFrom_40 (lv_at hl 3 rfl) ?_
                refine lv_iconst (v := 1) hx hb dX6_upFrom_42 (by decide) ?_
                refine lv_isub hx hb dX6_upFrom_43 ?_
                refine lv_icmp_eq (tgt := 53) hx hb dX6_upFrom_44 (by decide) (fun c_15 => ?_) (fun c_15 => ?_)
                · have hw := hw.1 c_15
                  refine lv_iload hx hb dX6_upFrom_53 (lv_at hl 4 rfl) ?_
                  refine lv_if_ge (tgt := 63) hx hb dX6_upFrom_55 (by decide) (fun c_16 => ?_) (fun c_16 => ?_)
                  · have hw := hw.1 c_16
                    refine lv_iload hx hb dX6_upFrom_63 (lv_at hl 4 rfl) ?_
                    refine lv_istore_n (lv' := [(3, .int x_9), (0, .ref a0), (2, .int p2), (4, .int x_3), (5, .int r_6), (6, .int x_9)]) hx hb dX6_upFrom_65 rfl hl (by decide) rfl (fun ls hl => ?_)
                    obtain ⟨x_17, ex_17⟩ : ∃ y : Int32, y = x_3 + (1) := ⟨_, rfl⟩
                    have hw := hw x_17 ex_17
                    refine lv_iinc (v := x_17) (lv' := [(4, .int x_17), (3, .int x_9), (0, .ref a0), (2, .int p2), (5, .int r_6), (6, .int x_9)]) hx hb dX6_upFrom_66 hl (k := 3) rfl (by rw [ex_17]; rfl) (by decide) rfl (fun ls hl => ?_)
                    refine lv_goto (tgt := 5) hx hb dX6_upFrom_69 (by decide) ?_
                    exact ih_1 x_9 x_17 ls (Nat.lt_of_lt_of_le hw.2 (Nat.le_of_lt_succ hmu_1)) hw.1 (lv_sub hl [2, 3, 1, 0] rfl)
                  · have hw := hw.2 c_16
                    refine lv_bipush (v := -4) hx hb dX6_upFrom_58 (by decide) ?_
                    refine lv_goto (tgt := 65) hx hb dX6_upFrom_60 (by decide) ?_
                    refine lv_istore_n (lv' := [(3, .int (-4 : Int32)), (0, .ref a0), (2, .int p2), (4, .int x_3), (5, .int r_6), (6, .int x_9)]) hx hb dX6_upFrom_65 rfl hl (by decide) rfl (fun ls hl => ?_)
                    obtain ⟨x_18, ex_18⟩ : ∃ y : Int32, y = x_3 + (1) := ⟨_, rfl⟩
                    have hw := hw x_18 ex_18
                    refine lv_iinc (v := x_18) (lv' := [(4, .int x_18), (3, .int (-4 : Int32)), (0, .ref a0), (2, .int p2), (5, .int r_6), (6, .int x_9)]) hx hb dX6_upFrom_66 hl (k := 3) rfl (by rw [ex_18]; rfl) (by decide) rfl (fun ls hl => ?_)
                    refine lv_goto (tgt := 5) hx hb dX6_upFrom_69 (by decide) ?_
                    exact ih_1 (-4 : Int32) x_18 ls (Nat.lt_of_lt_of_le hw.2 (Nat.le_of_lt_succ hmu_1)) hw.1 (lv_sub hl [2, 3, 1, 0] rfl)
                · have hw := hw.2 c_15
                  obtain ⟨x_19, ex_19⟩ : ∃ y : Int32, y = x_9 + (-1) := ⟨_, rfl⟩
                  have hw := hw x_19 ex_19
                  refine lv_iinc (v := x_19) (lv' := [(6, .int x_19), (0, .ref a0), (2, .int p2), (4, .int x_3), (5, .int r_6)]) hx hb dX6_upFrom_47 hl (k := 4) rfl (by rw [ex_19]; rfl) (by decide) rfl (fun ls hl => ?_)
                  refine lv_goto (tgt := 29) hx hb dX6_upFrom_50 (by decide) ?_
                  exact ih_8 x_19 ls (Nat.lt_of_lt_of_le hw.2 (Nat.le_of_lt_succ hmu_8)) hw.1 (lv_sub hl [1, 2, 3, 4, 0] rfl)
          exact lp_8 (mu_8 x_7 + 1) x_7 ls (Nat.lt_succ_self _) hI_8 (lv_sub hl [2, 3, 5, 1, 0] rfl)
  exact lp_1 (mu_1 p1 (0 : Int32) + 1) p1 (0 : Int32) ls (Nat.lt_succ_self _) hI_1 (lv_sub hl [2, 4, 1, 0] rfl)
def wX6_childrenOf (f_state : Nat → Int32) (p1 : Int32) (post : Int32 → Prop) : Prop := (∀ x_1 : Int32, x_1 = (p1 + (1 : Int32)) → (∃ (I_2 : Int32 → Int32 → Prop) (mu_2 : Int32 → Int32 → Nat), I_2 (0 : Int32) x_1 ∧ ∀ (x_3 : Int32) (x_4 : Int32), I_2 x_3 x_4 → (wX6_sizeOf f_state p1 (fun r_5 : Int32 => ((((p1 + r_5) ≤ x_4 → post x_3) ∧ (¬ (p1 + r_5) ≤ x_4 → (wX6_depthOf f_state x_4 (fun r_7 : Int32 => ((wX6_depthOf f_state p1 (fun r_8 : Int32 => (((¬ r_7 = (r_8 + (1 : Int32)) → (∀ x_10 : Int32, x_10 = (x_3 + (0 : Int32)) → (∀ x_11 : Int32, x_11 = x_4 + (1) → (I_2 x_10 x_11 ∧ mu_2 x_10 x_11 < mu_2 x_3 x_4)))) ∧ (r_7 = (r_8 + (1 : Int32)) → (∀ x_12 : Int32, x_12 = (x_3 + (1 : Int32)) → (∀ x_13 : Int32, x_13 = x_4 + (1) → (I_2 x_12 x_13 ∧ mu_2 x_12 x_13 < mu_2 x_3 x_4))))))))))))))))))
abbrev rX6_childrenOf : Room := { frames := 2, cells := 0, slots := 0, locals := 45 }
theorem vX6_childrenOf : yX6_childrenOf.cls = RX6 ∧ yX6_childrenOf.cls ≠ "java/lang/invoke/MethodHandle" ∧ yX6_childrenOf.cls ≠ "java/lang/invoke/VarHandle" ∧ (parseMethodDescriptor yX6_childrenOf.desc).map (fun d => d.parameters.length) = some 1 := by decide +kernel
set_option maxHeartbeats 4000000 in
set_option maxRecDepth 100000 in
theorem kX6_childrenOf (l : Launch) (D : va_G) (cA : Nat → ClassId) (a0 a_state a_readPage a_tape a_cutRow a_cutWeights a_isKept a_lanes a_lengths a_cells : Nat) (f_taped : Int32) (f_fault : Int32) (f_broken : Int32) (f_brokenAt : Int32) (f_spot : Int32) (f_here : Int32) (f_token : Int32) (f_value : Int32) (f_torn : Int32) (f_state : Nat → Int32) (f_readPage : Nat → Int32) (f_tape : Nat → Int32) (f_cutRow : Nat → Int32) (f_cutWeights : Nat → Int32) (f_isKept : Nat → Int32) (f_lanes : Nat → Int32) (f_lengths : Nat → Int32) (f_cells : Nat → Int64) (p1 : Int32) (post : Int32 → Prop) (h : wX6_childrenOf f_state p1 post) : Met l yX6_childrenOf wsX6_childrenOf rX6_childrenOf (zPr D cA [.ref a0, .int p1] [(a0, .inr (5, [.ref a_state, .ref a_readPage, .ref a_tape, .int f_taped, .int f_fault, .int f_broken, .int f_brokenAt, .int f_spot, .int f_here, .int f_token, .int f_value, .ref a_cutRow, .ref a_cutWeights, .ref a_isKept, .ref a_lanes, .ref a_lengths, .ref a_cells, .int f_torn])), (a_state, .inl (cA 0, 579, .inl f_state)), (a_readPage, .inl (cA 0, 193, .inl f_readPage)), (a_tape, .inl (cA 0, 160, .inl f_tape)), (a_cutRow, .inl (cA 0, 128, .inl f_cutRow)), (a_cutWeights, .inl (cA 0, 64, .inl f_cutWeights)), (a_isKept, .inl (cA 3, 2, .inl f_isKept)), (a_lanes, .inl (cA 0, 4, .inl f_lanes)), (a_lengths, .inl (cA 0, 4, .inl f_lengths)), (a_cells, .inl (cA 1, 160, .inr (.inl f_cells)))]) (vp_Si post) 0 0 (fun _ => False) := by
  refine z_ro (cc := cX6_childrenOf) (maxL := 4) (ret := (some .int)) (by decide) rfl (Nat.le_of_ble_eq_true rfl) ?_
  intro p e s m args below meth c ls hx hb hr hlk hml hown hts hK hP hl
  have hown : s.vm.findClass RX6 = some m.cls := hown
  have hl : lv_has ls 4 [(0, .ref a0), (1, .int p1)] := hl
  have hw := h
  unfold wX6_childrenOf at hw
  refine lv_iconst (v := 0) hx hb dX6_childrenOf_0 (by decide) ?_
  refine lv_istore_n (lv' := [(2, .int (0 : Int32)), (0, .ref a0), (1, .int p1)]) hx hb dX6_childrenOf_1 rfl hl (by decide) rfl (fun ls hl => ?_)
  refine lv_iload_n hx hb dX6_childrenOf_2 rfl (lv_at hl 2 rfl) ?_
  refine lv_iconst (v := 1) hx hb dX6_childrenOf_3 (by decide) ?_
  refine lv_iadd hx hb dX6_childrenOf_4 ?_
  refine lv_topi (fun x_1 ex_1 => ?_)
  have hw := hw x_1 ex_1
  refine lv_istore_n (lv' := [(3, .int x_1), (2, .int (0 : Int32)), (0, .ref a0), (1, .int p1)]) hx hb dX6_childrenOf_5 rfl hl (by decide) rfl (fun ls hl => ?_)
  obtain ⟨I_2, mu_2, hI_2, hw⟩ := hw
  have lp_2 : ∀ (nn : Nat) (x_3 : Int32) (x_4 : Int32) (ls : Array Slot), mu_2 x_3 x_4 < nn → I_2 x_3 x_4 → lv_has ls 4 [(0, .ref a0), (1, .int p1), (2, .int x_3), (3, .int x_4)] → W p l e rX6_childrenOf s m args below meth c s.heap [] 0 0 (MQ below (vp_Si post) args s 0 0 (fun _ => False)) (F0 m 6 ls []) := by
    intro nn
    induction nn with
    | zero => exact fun _ _ _ h0 => absurd h0 (Nat.not_lt_zero _)
    | succ nn ih_2 =>
      intro x_3 x_4 ls hmu_2 hI_2 hl
      have hw := hw x_3 x_4 hI_2
      refine lv_iload_n hx hb dX6_childrenOf_6 rfl (lv_at hl 3 rfl) ?_
      refine lv_iload_n hx hb dX6_childrenOf_7 rfl (lv_at hl 1 rfl) ?_
      refine lv_aload_n hx hb dX6_childrenOf_8 rfl (lv_at hl 0 rfl) ?_
      refine lv_iload_n hx hb dX6_childrenOf_9 rfl (lv_at hl 1 rfl) ?_
      refine z_ri [.int p1] [.int p1, .int x_4] ⟨hx, hb, hml, hown, hts⟩ (kX6_sizeOf l D cA a0 a_state a_readPage a_tape a_cutRow a_cutWeights a_isKept a_lanes a_lengths a_cells f_taped f_fault f_broken f_brokenAt f_spot f_here f_token f_value f_torn f_state f_readPage f_tape f_cutRow f_cutWeights f_isKept f_lanes f_lengths f_cells p1 _ hw) (cwV 1 hts gX6_childrenOf_X6_sizeOf rfl rfl rfl vX6_sizeOf ⟨Nat.le_of_ble_eq_true rfl, Nat.le_of_ble_eq_true rfl⟩) hK (hP.sub [0, 1, 2, 3, 4, 5, 6, 7, 8, 9] rfl) (va_recv hK.1 (hP.sub (ws' := [(a0, .inr (5, [.ref a_state, .ref a_readPage, .ref a_tape, .int f_taped, .int f_fault, .int f_broken, .int f_brokenAt, .int f_spot, .int f_here, .int f_token, .int f_value, .ref a_cutRow, .ref a_cutWeights, .ref a_isKept, .ref a_lanes, .ref a_lengths, .ref a_cells, .int f_torn]))]) [0] rfl) (ci := 5) (q0 := 0) rfl rfl) rfl hl.1 rfl (Nat.le_of_ble_eq_true rfl) dX6_childrenOf_10 ⟨Nat.zero_le _, Nat.zero_le _⟩ (fun r_5 hw => ?_)
      refine lv_iadd hx hb dX6_childrenOf_13 ?_
      refine lv_icmp_ge (tgt := 46) hx hb dX6_childrenOf_14 (by decide) (fun c_6 => ?_) (fun c_6 => ?_)
      · have hw := hw.1 c_6
        refine lv_iload_n hx hb dX6_childrenOf_46 rfl (lv_at hl 2 rfl) ?_
        exact z_iret hx hb hr hlk hw dX6_childrenOf_47
      · have hw := hw.2 c_6
        refine lv_iload_n hx hb dX6_childrenOf_17 rfl (lv_at hl 2 rfl) ?_
        refine lv_aload_n hx hb dX6_childrenOf_18 rfl (lv_at hl 0 rfl) ?_
        refine lv_iload_n hx hb dX6_childrenOf_19 rfl (lv_at hl 3 rfl) ?_
        refine z_ri [.int x_4] [.int x_3] ⟨hx, hb, hml, hown, hts⟩ (kX6_depthOf l D cA a0 a_state a_readPage a_tape a_cutRow a_cutWeights a_isKept a_lanes a_lengths a_cells f_taped f_fault f_broken f_brokenAt f_spot f_here f_token f_value f_torn f_state f_readPage f_tape f_cutRow f_cutWeights f_isKept f_lanes f_lengths f_cells x_4 _ hw) (cwV 1 hts gX6_childrenOf_X6_depthOf rfl rfl rfl vX6_depthOf ⟨Nat.le_of_ble_eq_true rfl, Nat.le_of_ble_eq_true rfl⟩) hK (hP.sub [0, 1, 2, 3, 4, 5, 6, 7, 8, 9] rfl) (va_recv hK.1 (hP.sub (ws' := [(a0, .inr (5, [.ref a_state, .ref a_readPage, .ref a_tape, .int f_taped, .int f_fault, .int f_broken, .int f_brokenAt, .int f_spot, .int f_here, .int f_token, .int f_value, .ref a_cutRow, .ref a_cutWeights, .ref a_isKept, .ref a_lanes, .ref a_lengths, .ref a_cells, .int f_torn]))]) [0] rfl) (ci := 5) (q0 := 0) rfl rfl) rfl hl.1 rfl (Nat.le_of_ble_eq_true rfl) dX6_childrenOf_20 ⟨Nat.zero_le _, Nat.zero_le _⟩ (fun r_7 hw => ?_)
        refine lv_aload_n hx hb dX6_childrenOf_23 rfl (lv_at hl 0 rfl) ?_
        refine lv_iload_n hx hb dX6_childrenOf_24 rfl (lv_at hl 1 rfl) ?_
        refine z_ri [.int p1] [.int r_7, .int x_3] ⟨hx, hb, hml, hown, hts⟩ (kX6_depthOf l D cA a0 a_state a_readPage a_tape a_cutRow a_cutWeights a_isKept a_lanes a_lengths a_cells f_taped f_fault f_broken f_brokenAt f_spot f_here f_token f_value f_torn f_state f_readPage f_tape f_cutRow f_cutWeights f_isKept f_lanes f_lengths f_cells p1 _ hw) (cwV 1 hts gX6_childrenOf_X6_depthOf rfl rfl rfl vX6_depthOf ⟨Nat.le_of_ble_eq_true rfl, Nat.le_of_ble_eq_true rfl⟩) hK (hP.sub [0, 1, 2, 3, 4, 5, 6, 7, 8, 9] rfl) (va_recv hK.1 (hP.sub (ws' := [(a0, .inr (5, [.ref a_state, .ref a_readPage, .ref a_tape, .int f_taped, .int f_fault, .int f_broken, .int f_brokenAt, .int f_spot, .int f_here, .int f_token, .int f_value, .ref a_cutRow, .ref a_cutWeights, .ref a_isKept, .ref a_lanes, .ref a_lengths, .ref a_cells, .int f_torn]))]) [0] rfl) (ci := 5) (q0 := 0) rfl rfl) rfl hl.1 rfl (Nat.le_of_ble_eq_true rfl) dX6_childrenOf_25 ⟨Nat.zero_le _, Nat.zero_le _⟩ (fun r_8 hw => ?_)
        refine lv_iconst (v := 1) hx hb dX6_childrenOf_28 (by decide) ?_
        refine lv_iadd hx hb dX6_childrenOf_29 ?_
        refine lv_icmp_ne (tgt := 37) hx hb dX6_childrenOf_30 (by decide) (fun c_9 => ?_) (fun c_9 => ?_)
        · have hw := hw.1 c_9
          refine lv_iconst (v := 0) hx hb dX6_childrenOf_37 (by decide) ?_
          refine lv_iadd hx hb dX6_childrenOf_38 ?_
          refine lv_topi (fun x_10 ex_10 => ?_)
          have hw := hw x_10 ex_10
          refine lv_istore_n (lv' := [(2, .int x_10), (0, .ref a0), (1, .int p1), (3, .int x_4)]) hx hb dX6_childrenOf_39 rfl hl (by decide) rfl (fun ls hl => ?_)
          obtain ⟨x_11, ex_11⟩ : ∃ y : Int32, y = x_4 + (1) := ⟨_, rfl⟩
          have hw := hw x_11 ex_11
          refine lv_iinc (v := x_11) (lv' := [(3, .int x_11), (2, .int x_10), (0, .ref a0), (1, .int p1)]) hx hb dX6_childrenOf_40 hl (k := 3) rfl (by rw [ex_11]; rfl) (by decide) rfl (fun ls hl => ?_)
          refine lv_goto (tgt := 6) hx hb dX6_childrenOf_43 (by decide) ?_
          exact ih_2 x_10 x_11 ls (Nat.lt_of_lt_of_le hw.2 (Nat.le_of_lt_succ hmu_2)) hw.1 (lv_sub hl [2, 3, 1, 0] rfl)
        · have hw := hw.2 c_9
          refine lv_iconst (v := 1) hx hb dX6_childrenOf_33 (by decide) ?_
          refine lv_goto (tgt := 38) hx hb dX6_childrenOf_34 (by decide) ?_
          refine lv_iadd hx hb dX6_childrenOf_38 ?_
          refine lv_topi (fun x_12 ex_12 => ?_)
          have hw := hw x_12 ex_12
          refine lv_istore_n (lv' := [(2, .int x_12), (0, .ref a0), (1, .int p1), (3, .int x_4)]) hx hb dX6_childrenOf_39 rfl hl (by decide) rfl (fun ls hl => ?_)
          obtain ⟨x_13, ex_13⟩ : ∃ y : Int32, y = x_4 + (1) := ⟨_, rfl⟩
          have hw := hw x_13 ex_13
          refine lv_iinc (v := x_13) (lv' := [(3, .int x_13), (2, .int x_12), (0, .ref a0), (1, .int p1)]) hx hb dX6_childrenOf_40 hl (k := 3) rfl (by rw [ex_13]; rfl) (by decide) rfl (fun ls hl => ?_)
          refine lv_goto (tgt := 6) hx hb dX6_childrenOf_43 (by decide) ?_
          exact ih_2 x_12 x_13 ls (Nat.lt_of_lt_of_le hw.2 (Nat.le_of_lt_succ hmu_2)) hw.1 (lv_sub hl [2, 3, 1, 0] rfl)
  exact lp_2 (mu_2 (0 : Int32) x_1 + 1) (0 : Int32) x_1 ls (Nat.lt_succ_self _) hI_2 (lv_sub hl [2, 3, 1, 0] rfl)
def wX6_childOf (f_state : Nat → Int32) (p1 : Int32) (p2 : Int32) (post : Int32 → Prop) : Prop := (∀ x_1 : Int32, x_1 = (p1 + (1 : Int32)) → (∃ (I_2 : Int32 → Int32 → Prop) (mu_2 : Int32 → Int32 → Nat), I_2 p2 x_1 ∧ ∀ (x_3 : Int32) (x_4 : Int32), I_2 x_3 x_4 → (wX6_sizeOf f_state p1 (fun r_5 : Int32 => ((((p1 + r_5) ≤ x_4 → post (-4 : Int32)) ∧ (¬ (p1 + r_5) ≤ x_4 → (wX6_depthOf f_state x_4 (fun r_7 : Int32 => ((wX6_depthOf f_state p1 (fun r_8 : Int32 => (((¬ r_7 = (r_8 + (1 : Int32)) → (∀ x_10 : Int32, x_10 = x_4 + (1) → (I_2 x_3 x_10 ∧ mu_2 x_3 x_10 < mu_2 x_3 x_4))) ∧ (r_7 = (r_8 + (1 : Int32)) → ((¬ x_3 = 0 → (∀ x_12 : Int32, x_12 = x_3 + (-1) → (∀ x_13 : Int32, x_13 = x_4 + (1) → (I_2 x_12 x_13 ∧ mu_2 x_12 x_13 < mu_2 x_3 x_4)))) ∧ (x_3 = 0 → post x_4)))))))))))))))))
abbrev rX6_childOf : Room := { frames := 2, cells := 0, slots := 0, locals := 45 }
theorem vX6_childOf : yX6_childOf.cls = RX6 ∧ yX6_childOf.cls ≠ "java/lang/invoke/MethodHandle" ∧ yX6_childOf.cls ≠ "java/lang/invoke/VarHandle" ∧ (parseMethodDescriptor yX6_childOf.desc).map (fun d => d.parameters.length) = some 2 := by decide +kernel
set_option maxHeartbeats 4000000 in
set_option maxRecDepth 100000 in
theorem kX6_childOf (l : Launch) (D : va_G) (cA : Nat → ClassId) (a0 a_state a_readPage a_tape a_cutRow a_cutWeights a_isKept a_lanes a_lengths a_cells : Nat) (f_taped : Int32) (f_fault : Int32) (f_broken : Int32) (f_brokenAt : Int32) (f_spot : Int32) (f_here : Int32) (f_token : Int32) (f_value : Int32) (f_torn : Int32) (f_state : Nat → Int32) (f_readPage : Nat → Int32) (f_tape : Nat → Int32) (f_cutRow : Nat → Int32) (f_cutWeights : Nat → Int32) (f_isKept : Nat → Int32) (f_lanes : Nat → Int32) (f_lengths : Nat → Int32) (f_cells : Nat → Int64) (p1 : Int32) (p2 : Int32) (post : Int32 → Prop) (h : wX6_childOf f_state p1 p2 post) : Met l yX6_childOf wsX6_childOf rX6_childOf (zPr D cA [.ref a0, .int p1, .int p2] [(a0, .inr (5, [.ref a_state, .ref a_readPage, .ref a_tape, .int f_taped, .int f_fault, .int f_broken, .int f_brokenAt, .int f_spot, .int f_here, .int f_token, .int f_value, .ref a_cutRow, .ref a_cutWeights, .ref a_isKept, .ref a_lanes, .ref a_lengths, .ref a_cells, .int f_torn])), (a_state, .inl (cA 0, 579, .inl f_state)), (a_readPage, .inl (cA 0, 193, .inl f_readPage)), (a_tape, .inl (cA 0, 160, .inl f_tape)), (a_cutRow, .inl (cA 0, 128, .inl f_cutRow)), (a_cutWeights, .inl (cA 0, 64, .inl f_cutWeights)), (a_isKept, .inl (cA 3, 2, .inl f_isKept)), (a_lanes, .inl (cA 0, 4, .inl f_lanes)), (a_lengths, .inl (cA 0, 4, .inl f_lengths)), (a_cells, .inl (cA 1, 160, .inr (.inl f_cells)))]) (vp_Si post) 0 0 (fun _ => False) := by
  refine z_ro (cc := cX6_childOf) (maxL := 5) (ret := (some .int)) (by decide) rfl (Nat.le_of_ble_eq_true rfl) ?_
  intro p e s m args below meth c ls hx hb hr hlk hml hown hts hK hP hl
  have hown : s.vm.findClass RX6 = some m.cls := hown
  have hl : lv_has ls 5 [(0, .ref a0), (1, .int p1), (2, .int p2)] := hl
  have hw := h
  unfold wX6_childOf at hw
  refine lv_iload_n hx hb dX6_childOf_0 rfl (lv_at hl 2 rfl) ?_
  refine lv_istore_n (lv' := [(3, .int p2), (0, .ref a0), (1, .int p1), (2, .int p2)]) hx hb dX6_childOf_1 rfl hl (by decide) rfl (fun ls hl => ?_)
  refine lv_iload_n hx hb dX6_childOf_2 rfl (lv_at hl 2 rfl) ?_
  refine lv_iconst (v := 1) hx hb dX6_childOf_3 (by decide) ?_
  refine lv_iadd hx hb dX6_childOf_4 ?_
  refine lv_topi (fun x_1 ex_1 => ?_)
  have hw := hw x_1 ex_1
  refine lv_istore (lv' := [(4, .int x_1), (3, .int p2), (0, .ref a0), (1, .int p1), (2, .int p2)]) hx hb dX6_childOf_5 hl (by decide) rfl (fun ls hl => ?_)
  obtain ⟨I_2, mu_2, hI_2, hw⟩ := hw
  have lp_2 : ∀ (nn : Nat) (x_3 : Int32) (x_4 : Int32) (ls : Array Slot), mu_2 x_3 x_4 < nn → I_2 x_3 x_4 → lv_has ls 5 [(0, .ref a0), (1, .int p1), (3, .int x_3), (4, .int x_4)] → W p l e rX6_childOf s m args below meth c s.heap [] 0 0 (MQ below (vp_Si post) args s 0 0 (fun _ => False)) (F0 m 7 ls []) := by
    intro nn
    induction nn with
    | zero => exact fun _ _ _ h0 => absurd h0 (Nat.not_lt_zero _)
    | succ nn ih_2 =>
      intro x_3 x_4 ls hmu_2 hI_2 hl
      have hw := hw x_3 x_4 hI_2
      refine lv_iload hx hb dX6_childOf_7 (lv_at hl 3 rfl) ?_
      refine lv_iload_n hx hb dX6_childOf_9 rfl (lv_at hl 1 rfl) ?_
      refine lv_aload_n hx hb dX6_childOf_10 rfl (lv_at hl 0 rfl) ?_
      refine lv_iload_n hx hb dX6_childOf_11 rfl (lv_at hl 1 rfl) ?_
      refine z_ri [.int p1] [.int p1, .int x_4] ⟨hx, hb, hml, hown, hts⟩ (kX6_sizeOf l D cA a0 a_state a_readPage a_tape a_cutRow a_cutWeights a_isKept a_lanes a_lengths a_cells f_taped f_fault f_broken f_brokenAt f_spot f_here f_token f_value f_torn f_state f_readPage f_tape f_cutRow f_cutWeights f_isKept f_lanes f_lengths f_cells p1 _ hw) (cwV 1 hts gX6_childOf_X6_sizeOf rfl rfl rfl vX6_sizeOf ⟨Nat.le_of_ble_eq_true rfl, Nat.le_of_ble_eq_true rfl⟩) hK (hP.sub [0, 1, 2, 3, 4, 5, 6, 7, 8, 9] rfl) (va_recv hK.1 (hP.sub (ws' := [(a0, .inr (5, [.ref a_state, .ref a_readPage, .ref a_tape, .int f_taped, .int f_fault, .int f_broken, .int f_brokenAt, .int f_spot, .int f_here, .int f_token, .int f_value, .ref a_cutRow, .ref a_cutWeights, .ref a_isKept, .ref a_lanes, .ref a_lengths, .ref a_cells, .int f_torn]))]) [0] rfl) (ci := 5) (q0 := 0) rfl rfl) rfl hl.1 rfl (Nat.le_of_ble_eq_true rfl) dX6_childOf_12 ⟨Nat.zero_le _, Nat.zero_le _⟩ (fun r_5 hw => ?_)
      refine lv_iadd hx hb dX6_childOf_15 ?_
      refine lv_icmp_ge (tgt := 51) hx hb dX6_childOf_16 (by decide) (fun c_6 => ?_) (fun c_6 => ?_)
      · have hw := hw.1 c_6
        refine lv_bipush (v := -4) hx hb dX6_childOf_51 (by decide) ?_
        exact z_iret hx hb hr hlk hw dX6_childOf_53
      · have hw := hw.2 c_6
        refine lv_aload_n hx hb dX6_childOf_19 rfl (lv_at hl 0 rfl) ?_
        refine lv_iload hx hb dX6_childOf_20 (lv_at hl 3 rfl) ?_
        refine z_ri [.int x_4] [] ⟨hx, hb, hml, hown, hts⟩ (kX6_depthOf l D cA a0 a_state a_readPage a_tape a_cutRow a_cutWeights a_isKept a_lanes a_lengths a_cells f_taped f_fault f_broken f_brokenAt f_spot f_here f_token f_value f_torn f_state f_readPage f_tape f_cutRow f_cutWeights f_isKept f_lanes f_lengths f_cells x_4 _ hw) (cwV 1 hts gX6_childOf_X6_depthOf rfl rfl rfl vX6_depthOf ⟨Nat.le_of_ble_eq_true rfl, Nat.le_of_ble_eq_true rfl⟩) hK (hP.sub [0, 1, 2, 3, 4, 5, 6, 7, 8, 9] rfl) (va_recv hK.1 (hP.sub (ws' := [(a0, .inr (5, [.ref a_state, .ref a_readPage, .ref a_tape, .int f_taped, .int f_fault, .int f_broken, .int f_brokenAt, .int f_spot, .int f_here, .int f_token, .int f_value, .ref a_cutRow, .ref a_cutWeights, .ref a_isKept, .ref a_lanes, .ref a_lengths, .ref a_cells, .int f_torn]))]) [0] rfl) (ci := 5) (q0 := 0) rfl rfl) rfl hl.1 rfl (Nat.le_of_ble_eq_true rfl) dX6_childOf_22 ⟨Nat.zero_le _, Nat.zero_le _⟩ (fun r_7 hw => ?_)
        refine lv_aload_n hx hb dX6_childOf_25 rfl (lv_at hl 0 rfl) ?_
        refine lv_iload_n hx hb dX6_childOf_26 rfl (lv_at hl 1 rfl) ?_
        refine z_ri [.int p1] [.int r_7] ⟨hx, hb, hml, hown, hts⟩ (kX6_depthOf l D cA a0 a_state a_readPage a_tape a_cutRow a_cutWeights a_isKept a_lanes a_lengths a_cells f_taped f_fault f_broken f_brokenAt f_spot f_here f_token f_value f_torn f_state f_readPage f_tape f_cutRow f_cutWeights f_isKept f_lanes f_lengths f_cells p1 _ hw) (cwV 1 hts gX6_childOf_X6_depthOf rfl rfl rfl vX6_depthOf ⟨Nat.le_of_ble_eq_true rfl, Nat.le_of_ble_eq_true rfl⟩) hK (hP.sub [0, 1, 2, 3, 4, 5, 6, 7, 8, 9] rfl) (va_recv hK.1 (hP.sub (ws' := [(a0, .inr (5, [.ref a_state, .ref a_readPage, .ref a_tape, .int f_taped, .int f_fault, .int f_broken, .int f_brokenAt, .int f_spot, .int f_here, .int f_token, .int f_value, .ref a_cutRow, .ref a_cutWeights, .ref a_isKept, .ref a_lanes, .ref a_lengths, .ref a_cells, .int f_torn]))]) [0] rfl) (ci := 5) (q0 := 0) rfl rfl) rfl hl.1 rfl (Nat.le_of_ble_eq_true rfl) dX6_childOf_27 ⟨Nat.zero_le _, Nat.zero_le _⟩ (fun r_8 hw => ?_)
        refine lv_iconst (v := 1) hx hb dX6_childOf_30 (by decide) ?_
        refine lv_iadd hx hb dX6_childOf_31 ?_
        refine lv_icmp_ne (tgt := 45) hx hb dX6_childOf_32 (by decide) (fun c_9 => ?_) (fun c_9 => ?_)
        · have hw := hw.1 c_9
          obtain ⟨x_10, ex_10⟩ : ∃ y : Int32, y = x_4 + (1) := ⟨_, rfl⟩
          have hw := hw x_10 ex_10
          refine lv_iinc (v := x_10) (lv' := [(4, .int x_10), (0, .ref a0), (1, .int p1), (3, .int x_3)]) hx hb dX6_childOf_45 hl (k := 3) rfl (by rw [ex_10]; rfl) (by decide) rfl (fun ls hl => ?_)
          refine lv_goto (tgt := 7) hx hb dX6_childOf_48 (by decide) ?_
          exact ih_2 x_3 x_10 ls (Nat.lt_of_lt_of_le hw.2 (Nat.le_of_lt_succ hmu_2)) hw.1 (lv_sub hl [1, 2, 3, 0] rfl)
        · have hw := hw.2 c_9
          refine lv_iload_n hx hb dX6_childOf_35 rfl (lv_at hl 2 rfl) ?_
          refine lv_if_ne (tgt := 42) hx hb dX6_childOf_36 (by decide) (fun c_11 => ?_) (fun c_11 => ?_)
          · have hw := hw.1 c_11
            obtain ⟨x_12, ex_12⟩ : ∃ y : Int32, y = x_3 + (-1) := ⟨_, rfl⟩
            have hw := hw x_12 ex_12
            refine lv_iinc (v := x_12) (lv' := [(3, .int x_12), (0, .ref a0), (1, .int p1), (4, .int x_4)]) hx hb dX6_childOf_42 hl (k := 2) rfl (by rw [ex_12]; rfl) (by decide) rfl (fun ls hl => ?_)
            obtain ⟨x_13, ex_13⟩ : ∃ y : Int32, y = x_4 + (1) := ⟨_, rfl⟩
            have hw := hw x_13 ex_13
            refine lv_iinc (v := x_13) (lv' := [(4, .int x_13), (3, .int x_12), (0, .ref a0), (1, .int p1)]) hx hb dX6_childOf_45 hl (k := 3) rfl (by rw [ex_13]; rfl) (by decide) rfl (fun ls hl => ?_)
            refine lv_goto (tgt := 7) hx hb dX6_childOf_48 (by decide) ?_
            exact ih_2 x_12 x_13 ls (Nat.lt_of_lt_of_le hw.2 (Nat.le_of_lt_succ hmu_2)) hw.1 (lv_sub hl [2, 3, 1, 0] rfl)
          · have hw := hw.2 c_11
            refine lv_iload hx hb dX6_childOf_39 (lv_at hl 3 rfl) ?_
            exact z_iret hx hb hr hlk hw dX6_childOf_41
  exact lp_2 (mu_2 p2 x_1 + 1) p2 x_1 ls (Nat.lt_succ_self _) hI_2 (lv_sub hl [2, 3, 1, 0] rfl)
def wX6_whichOf (f_state : Nat → Int32) (p1 : Int32) (post : Int32 → Prop) : Prop := (wX6_upFrom f_state p1 (1 : Int32) (fun r_1 : Int32 => ((wX6_depthOf f_state p1 (fun r_2 : Int32 => ((∀ x_3 : Int32, x_3 = (r_1 + (1 : Int32)) → (∃ (I_4 : Int32 → Int32 → Prop) (mu_4 : Int32 → Int32 → Nat), I_4 (0 : Int32) x_3 ∧ ∀ (x_5 : Int32) (x_6 : Int32), I_4 x_5 x_6 → ((r_1 = (-4 : Int32) → post x_5) ∧ (¬ r_1 = (-4 : Int32) → ((p1 ≤ x_6 → post x_5) ∧ (¬ p1 ≤ x_6 → (wX6_depthOf f_state x_6 (fun r_9 : Int32 => (((¬ r_9 = r_2 → (∀ x_11 : Int32, x_11 = (x_5 + (0 : Int32)) → (∀ x_12 : Int32, x_12 = x_6 + (1) → (I_4 x_11 x_12 ∧ mu_4 x_11 x_12 < mu_4 x_5 x_6)))) ∧ (r_9 = r_2 → (∀ x_13 : Int32, x_13 = (x_5 + (1 : Int32)) → (∀ x_14 : Int32, x_14 = x_6 + (1) → (I_4 x_13 x_14 ∧ mu_4 x_13 x_14 < mu_4 x_5 x_6))))))))))))))))))))
abbrev rX6_whichOf : Room := { frames := 3, cells := 0, slots := 0, locals := 70 }
theorem vX6_whichOf : yX6_whichOf.cls = RX6 ∧ yX6_whichOf.cls ≠ "java/lang/invoke/MethodHandle" ∧ yX6_whichOf.cls ≠ "java/lang/invoke/VarHandle" ∧ (parseMethodDescriptor yX6_whichOf.desc).map (fun d => d.parameters.length) = some 1 := by decide +kernel
set_option maxHeartbeats 4000000 in
set_option maxRecDepth 100000 in
theorem kX6_whichOf (l : Launch) (D : va_G) (cA : Nat → ClassId) (a0 a_state a_readPage a_tape a_cutRow a_cutWeights a_isKept a_lanes a_lengths a_cells : Nat) (f_taped : Int32) (f_fault : Int32) (f_broken : Int32) (f_brokenAt : Int32) (f_spot : Int32) (f_here : Int32) (f_token : Int32) (f_value : Int32) (f_torn : Int32) (f_state : Nat → Int32) (f_readPage : Nat → Int32) (f_tape : Nat → Int32) (f_cutRow : Nat → Int32) (f_cutWeights : Nat → Int32) (f_isKept : Nat → Int32) (f_lanes : Nat → Int32) (f_lengths : Nat → Int32) (f_cells : Nat → Int64) (p1 : Int32) (post : Int32 → Prop) (h : wX6_whichOf f_state p1 post) : Met l yX6_whichOf wsX6_whichOf rX6_whichOf (zPr D cA [.ref a0, .int p1] [(a0, .inr (5, [.ref a_state, .ref a_readPage, .ref a_tape, .int f_taped, .int f_fault, .int f_broken, .int f_brokenAt, .int f_spot, .int f_here, .int f_token, .int f_value, .ref a_cutRow, .ref a_cutWeights, .ref a_isKept, .ref a_lanes, .ref a_lengths, .ref a_cells, .int f_torn])), (a_state, .inl (cA 0, 579, .inl f_state)), (a_readPage, .inl (cA 0, 193, .inl f_readPage)), (a_tape, .inl (cA 0, 160, .inl f_tape)), (a_cutRow, .inl (cA 0, 128, .inl f_cutRow)), (a_cutWeights, .inl (cA 0, 64, .inl f_cutWeights)), (a_isKept, .inl (cA 3, 2, .inl f_isKept)), (a_lanes, .inl (cA 0, 4, .inl f_lanes)), (a_lengths, .inl (cA 0, 4, .inl f_lengths)), (a_cells, .inl (cA 1, 160, .inr (.inl f_cells)))]) (vp_Si post) 0 0 (fun _ => False) := by
  refine z_ro (cc := cX6_whichOf) (maxL := 6) (ret := (some .int)) (by decide) rfl (Nat.le_of_ble_eq_true rfl) ?_
  intro p e s m args below meth c ls hx hb hr hlk hml hown hts hK hP hl
  have hown : s.vm.findClass RX6 = some m.cls := hown
  have hl : lv_has ls 6 [(0, .ref a0), (1, .int p1)] := hl
  have hw := h
  unfold wX6_whichOf at hw
  refine lv_aload_n hx hb dX6_whichOf_0 rfl (lv_at hl 0 rfl) ?_
  refine lv_iload_n hx hb dX6_whichOf_1 rfl (lv_at hl 1 rfl) ?_
  refine lv_iconst (v := 1) hx hb dX6_whichOf_2 (by decide) ?_
  refine z_ri [.int p1, .int (1 : Int32)] [] ⟨hx, hb, hml, hown, hts⟩ (kX6_upFrom l D cA a0 a_state a_readPage a_tape a_cutRow a_cutWeights a_isKept a_lanes a_lengths a_cells f_taped f_fault f_broken f_brokenAt f_spot f_here f_token f_value f_torn f_state f_readPage f_tape f_cutRow f_cutWeights f_isKept f_lanes f_lengths f_cells p1 (1 : Int32) _ hw) (cwV 2 hts gX6_whichOf_X6_upFrom rfl rfl rfl vX6_upFrom ⟨Nat.le_of_ble_eq_true rfl, Nat.le_of_ble_eq_true rfl⟩) hK (hP.sub [0, 1, 2, 3, 4, 5, 6, 7, 8, 9] rfl) (va_recv hK.1 (hP.sub (ws' := [(a0, .inr (5, [.ref a_state, .ref a_readPage, .ref a_tape, .int f_taped, .int f_fault, .int f_broken, .int f_brokenAt, .int f_spot, .int f_here, .int f_token, .int f_value, .ref a_cutRow, .ref a_cutWeights, .ref a_isKept, .ref a_lanes, .ref a_lengths, .ref a_cells, .int f_torn]))]) [0] rfl) (ci := 5) (q0 := 0) rfl rfl) rfl hl.1 rfl (Nat.le_of_ble_eq_true rfl) dX6_whichOf_3 ⟨Nat.zero_le _, Nat.zero_le _⟩ (fun r_1 hw => ?_)
  refine lv_istore_n (lv' := [(2, .int r_1), (0, .ref a0), (1, .int p1)]) hx hb dX6_whichOf_6 rfl hl (by decide) rfl (fun ls hl => ?_)
  refine lv_aload_n hx hb dX6_whichOf_7 rfl (lv_at hl 1 rfl) ?_
  refine lv_iload_n hx hb dX6_whichOf_8 rfl (lv_at hl 2 rfl) ?_
  refine z_ri [.int p1] [] ⟨hx, hb, hml, hown, hts⟩ (kX6_depthOf l D cA a0 a_state a_readPage a_tape a_cutRow a_cutWeights a_isKept a_lanes a_lengths a_cells f_taped f_fault f_broken f_brokenAt f_spot f_here f_token f_value f_torn f_state f_readPage f_tape f_cutRow f_cutWeights f_isKept f_lanes f_lengths f_cells p1 _ hw) (cwV 1 hts gX6_whichOf_X6_depthOf rfl rfl rfl vX6_depthOf ⟨Nat.le_of_ble_eq_true rfl, Nat.le_of_ble_eq_true rfl⟩) hK (hP.sub [0, 1, 2, 3, 4, 5, 6, 7, 8, 9] rfl) (va_recv hK.1 (hP.sub (ws' := [(a0, .inr (5, [.ref a_state, .ref a_readPage, .ref a_tape, .int f_taped, .int f_fault, .int f_broken, .int f_brokenAt, .int f_spot, .int f_here, .int f_token, .int f_value, .ref a_cutRow, .ref a_cutWeights, .ref a_isKept, .ref a_lanes, .ref a_lengths, .ref a_cells, .int f_torn]))]) [0] rfl) (ci := 5) (q0 := 0) rfl rfl) rfl hl.1 rfl (Nat.le_of_ble_eq_true rfl) dX6_whichOf_9 ⟨Nat.zero_le _, Nat.zero_le _⟩ (fun r_2 hw => ?_)
  refine lv_istore_n (lv' := [(3, .int r_2), (2, .int r_1), (0, .ref a0), (1, .int p1)]) hx hb dX6_whichOf_12 rfl hl (by decide) rfl (fun ls hl => ?_)
  refine lv_iconst (v := 0) hx hb dX6_whichOf_13 (by decide) ?_
  refine lv_istore (lv' := [(4, .int (0 : Int32)), (3, .int r_2), (2, .int r_1), (0, .ref a0), (1, .int p1)]) hx hb dX6_whichOf_14 hl (by decide) rfl (fun ls hl => ?_)
  refine lv_iload_n hx hb dX6_whichOf_16 rfl (lv_at hl 2 rfl) ?_
  refine lv_iconst (v := 1) hx hb dX6_whichOf_17 (by decide) ?_
  refine lv_iadd hx hb dX6_whichOf_18 ?_
  refine lv_topi (fun x_3 ex_3 => ?_)
  have hw := hw x_3 ex_3
  refine lv_istore (lv' := [(5, .int x_3), (4, .int (0 : Int32)), (3, .int r_2), (2, .int r_1), (0, .ref a0), (1, .int p1)]) hx hb dX6_whichOf_19 hl (by decide) rfl (fun ls hl => ?_)
  obtain ⟨I_4, mu_4, hI_4, hw⟩ := hw
  have lp_4 : ∀ (nn : Nat) (x_5 : Int32) (x_6 : Int32) (ls : Array Slot), mu_4 x_5 x_6 < nn → I_4 x_5 x_6 → lv_has ls 6 [(0, .ref a0), (1, .int p1), (2, .int r_1), (3, .int r_2), (4, .int x_5), (5, .int x_6)] → W p l e rX6_whichOf s m args below meth c s.heap [] 0 0 (MQ below (vp_Si post) args s 0 0 (fun _ => False)) (F0 m 21 ls []) := by
    intro nn
    induction nn with
    | zero => exact fun _ _ _ h0 => absurd h0 (Nat.not_lt_zero _)
    | succ nn ih_4 =>
      intro x_5 x_6 ls hmu_4 hI_4 hl
      have hw := hw x_5 x_6 hI_4
      refine lv_iload_n hx hb dX6_whichOf_21 rfl (lv_at hl 2 rfl) ?_
      refine lv_bipush (v := -4) hx hb dX6_whichOf_22 (by decide) ?_
      refine lv_icmp_eq (tgt := 59) hx hb dX6_whichOf_24 (by decide) (fun c_7 => ?_) (fun c_7 => ?_)
      · have hw := hw.1 c_7
        refine lv_iload hx hb dX6_whichOf_59 (lv_at hl 4 rfl) ?_
        exact z_iret hx hb hr hlk hw dX6_whichOf_61
      · have hw := hw.2 c_7
        refine lv_iload hx hb dX6_whichOf_27 (lv_at hl 5 rfl) ?_
        refine lv_iload_n hx hb dX6_whichOf_29 rfl (lv_at hl 1 rfl) ?_
        refine lv_icmp_ge (tgt := 59) hx hb dX6_whichOf_30 (by decide) (fun c_8 => ?_) (fun c_8 => ?_)
        · have hw := hw.1 c_8
          refine lv_iload hx hb dX6_whichOf_59 (lv_at hl 4 rfl) ?_
          exact z_iret hx hb hr hlk hw dX6_whichOf_61
        · have hw := hw.2 c_8
          refine lv_iload hx hb dX6_whichOf_33 (lv_at hl 4 rfl) ?_
          refine lv_aload_n hx hb dX6_whichOf_35 rfl (lv_at hl 0 rfl) ?_
          refine lv_iload hx hb dX6_whichOf_36 (lv_at hl 5 rfl) ?_
          refine z_ri [.int x_6] [.int x_5] ⟨hx, hb, hml, hown, hts⟩ (kX6_depthOf l D cA a0 a_state a_readPage a_tape a_cutRow a_cutWeights a_isKept a_lanes a_lengths a_cells f_taped f_fault f_broken f_brokenAt f_spot f_here f_token f_value f_torn f_state f_readPage f_tape f_cutRow f_cutWeights f_isKept f_lanes f_lengths f_cells x_6 _ hw) (cwV 1 hts gX6_whichOf_X6_depthOf rfl rfl rfl vX6_depthOf ⟨Nat.le_of_ble_eq_true rfl, Nat.le_of_ble_eq_true rfl⟩) hK (hP.sub [0, 1, 2, 3, 4, 5, 6, 7, 8, 9] rfl) (va_recv hK.1 (hP.sub (ws' := [(a0, .inr (5, [.ref a_state, .ref a_readPage, .ref a_tape, .int f_taped, .int f_fault, .int f_broken, .int f_brokenAt, .int f_spot, .int f_here, .int f_token, .int f_value, .ref a_cutRow, .ref a_cutWeights, .ref a_isKept, .ref a_lanes, .ref a_lengths, .ref a_cells, .int f_torn]))]) [0] rfl) (ci := 5) (q0 := 0) rfl rfl) rfl hl.1 rfl (Nat.le_of_ble_eq_true rfl) dX6_whichOf_38 ⟨Nat.zero_le _, Nat.zero_le _⟩ (fun r_9 hw => ?_)
          refine lv_iload_n hx hb dX6_whichOf_41 rfl (lv_at hl 3 rfl) ?_
          refine lv_icmp_ne (tgt := 49) hx hb dX6_whichOf_42 (by decide) (fun c_10 => ?_) (fun c_10 => ?_)
          · have hw := hw.1 c_10
            refine lv_iconst (v := 0) hx hb dX6_whichOf_49 (by decide) ?_
            refine lv_iadd hx hb dX6_whichOf_50 ?_
            refine lv_topi (fun x_11 ex_11 => ?_)
            have hw := hw x_11 ex_11
            refine lv_istore (lv' := [(4, .int x_11), (0, .ref a0), (1, .int p1), (2, .int r_1), (3, .int r_2), (5, .int x_6)]) hx hb dX6_whichOf_51 hl (by decide) rfl (fun ls hl => ?_)
            obtain ⟨x_12, ex_12⟩ : ∃ y : Int32, y = x_6 + (1) := ⟨_, rfl⟩
            have hw := hw x_12 ex_12
            refine lv_iinc (v := x_12) (lv' := [(5, .int x_12), (4, .int x_11), (0, .ref a0), (1, .int p1), (2, .int r_1), (3, .int r_2)]) hx hb dX6_whichOf_53 hl (k := 5) rfl (by rw [ex_12]; rfl) (by decide) rfl (fun ls hl => ?_)
            refine lv_goto (tgt := 21) hx hb dX6_whichOf_56 (by decide) ?_
            exact ih_4 x_11 x_12 ls (Nat.lt_of_lt_of_le hw.2 (Nat.le_of_lt_succ hmu_4)) hw.1 (lv_sub hl [2, 3, 4, 5, 1, 0] rfl)
          · have hw := hw.2 c_10
            refine lv_iconst (v := 1) hx hb dX6_whichOf_45 (by decide) ?_
            refine lv_goto (tgt := 50) hx hb dX6_whichOf_46 (by decide) ?_
            refine lv_iadd hx hb dX6_whichOf_50 ?_
            refine lv_topi (fun x_13 ex_13 => ?_)
            have hw := hw x_13 ex_13
            refine lv_istore (lv' := [(4, .int x_13), (0, .ref a0), (1, .int p1), (2, .int r_1), (3, .int r_2), (5, .int x_6)]) hx hb dX6_whichOf_51 hl (by decide) rfl (fun ls hl => ?_)
            obtain ⟨x_14, ex_14⟩ : ∃ y : Int32, y = x_6 + (1) := ⟨_, rfl⟩
            have hw := hw x_14 ex_14
            refine lv_iinc (v := x_14) (lv' := [(5, .int x_14), (4, .int x_13), (0, .ref a0), (1, .int p1), (2, .int r_1), (3, .int r_2)]) hx hb dX6_whichOf_53 hl (k := 5) rfl (by rw [ex_14]; rfl) (by decide) rfl (fun ls hl => ?_)
            refine lv_goto (tgt := 21) hx hb dX6_whichOf_56 (by decide) ?_
            exact ih_4 x_13 x_14 ls (Nat.lt_of_lt_of_le hw.2 (Nat.le_of_lt_succ hmu_4)) hw.1 (lv_sub hl [2, 3, 4, 5, 1, 0] rfl)
  exact lp_4 (mu_4 (0 : Int32) x_3 + 1) (0 : Int32) x_3 ls (Nat.lt_succ_self _) hI_4 (lv_sub hl [4, 5, 3, 2, 1, 0] rfl)
def wX6_nextOf (f_state : Nat → Int32) (p1 : Int32) (p2 : Int32) (post : Int32 → Prop) : Prop := (wX6_upFrom f_state p1 (1 : Int32) (fun r_1 : Int32 => ((wX6_whichOf f_state p1 (fun r_2 : Int32 => ((∀ x_3 : Int32, x_3 = (r_2 + p2) → ((r_1 = (-4 : Int32) → post (-4 : Int32)) ∧ (¬ r_1 = (-4 : Int32) → ((0 ≤ x_3 → (wX6_childOf f_state r_1 x_3 (fun r_6 : Int32 => (post r_6)))) ∧ (¬ 0 ≤ x_3 → post (-4 : Int32))))))))))))
abbrev rX6_nextOf : Room := { frames := 4, cells := 0, slots := 0, locals := 95 }
theorem vX6_nextOf : yX6_nextOf.cls = RX6 ∧ yX6_nextOf.cls ≠ "java/lang/invoke/MethodHandle" ∧ yX6_nextOf.cls ≠ "java/lang/invoke/VarHandle" ∧ (parseMethodDescriptor yX6_nextOf.desc).map (fun d => d.parameters.length) = some 2 := by decide +kernel
set_option maxHeartbeats 4000000 in
set_option maxRecDepth 100000 in
theorem kX6_nextOf (l : Launch) (D : va_G) (cA : Nat → ClassId) (a0 a_state a_readPage a_tape a_cutRow a_cutWeights a_isKept a_lanes a_lengths a_cells : Nat) (f_taped : Int32) (f_fault : Int32) (f_broken : Int32) (f_brokenAt : Int32) (f_spot : Int32) (f_here : Int32) (f_token : Int32) (f_value : Int32) (f_torn : Int32) (f_state : Nat → Int32) (f_readPage : Nat → Int32) (f_tape : Nat → Int32) (f_cutRow : Nat → Int32) (f_cutWeights : Nat → Int32) (f_isKept : Nat → Int32) (f_lanes : Nat → Int32) (f_lengths : Nat → Int32) (f_cells : Nat → Int64) (p1 : Int32) (p2 : Int32) (post : Int32 → Prop) (h : wX6_nextOf f_state p1 p2 post) : Met l yX6_nextOf wsX6_nextOf rX6_nextOf (zPr D cA [.ref a0, .int p1, .int p2] [(a0, .inr (5, [.ref a_state, .ref a_readPage, .ref a_tape, .int f_taped, .int f_fault, .int f_broken, .int f_brokenAt, .int f_spot, .int f_here, .int f_token, .int f_value, .ref a_cutRow, .ref a_cutWeights, .ref a_isKept, .ref a_lanes, .ref a_lengths, .ref a_cells, .int f_torn])), (a_state, .inl (cA 0, 579, .inl f_state)), (a_readPage, .inl (cA 0, 193, .inl f_readPage)), (a_tape, .inl (cA 0, 160, .inl f_tape)), (a_cutRow, .inl (cA 0, 128, .inl f_cutRow)), (a_cutWeights, .inl (cA 0, 64, .inl f_cutWeights)), (a_isKept, .inl (cA 3, 2, .inl f_isKept)), (a_lanes, .inl (cA 0, 4, .inl f_lanes)), (a_lengths, .inl (cA 0, 4, .inl f_lengths)), (a_cells, .inl (cA 1, 160, .inr (.inl f_cells)))]) (vp_Si post) 0 0 (fun _ => False) := by
  refine z_ro (cc := cX6_nextOf) (maxL := 5) (ret := (some .int)) (by decide) rfl (Nat.le_of_ble_eq_true rfl) ?_
  intro p e s m args below meth c ls hx hb hr hlk hml hown hts hK hP hl
  have hown : s.vm.findClass RX6 = some m.cls := hown
  have hl : lv_has ls 5 [(0, .ref a0), (1, .int p1), (2, .int p2)] := hl
  have hw := h
  unfold wX6_nextOf at hw
  refine lv_aload_n hx hb dX6_nextOf_0 rfl (lv_at hl 0 rfl) ?_
  refine lv_iload_n hx hb dX6_nextOf_1 rfl (lv_at hl 1 rfl) ?_
  refine lv_iconst (v := 1) hx hb dX6_nextOf_2 (by decide) ?_
  refine z_ri [.int p1, .int (1 : Int32)] [] ⟨hx, hb, hml, hown, hts⟩ (kX6_upFrom l D cA a0 a_state a_readPage a_tape a_cutRow a_cutWeights a_isKept a_lanes a_lengths a_cells f_taped f_fault f_broken f_brokenAt f_spot f_here f_token f_value f_torn f_state f_readPage f_tape f_cutRow f_cutWeights f_isKept f_lanes f_lengths f_cells p1 (1 : Int32) _ hw) (cwV 2 hts gX6_nextOf_X6_upFrom rfl rfl rfl vX6_upFrom ⟨Nat.le_of_ble_eq_true rfl, Nat.le_of_ble_eq_true rfl⟩) hK (hP.sub [0, 1, 2, 3, 4, 5, 6, 7, 8, 9] rfl) (va_recv hK.1 (hP.sub (ws' := [(a0, .inr (5, [.ref a_state, .ref a_readPage, .ref a_tape, .int f_taped, .int f_fault, .int f_broken, .int f_brokenAt, .int f_spot, .int f_here, .int f_token, .int f_value, .ref a_cutRow, .ref a_cutWeights, .ref a_isKept, .ref a_lanes, .ref a_lengths, .ref a_cells, .int f_torn]))]) [0] rfl) (ci := 5) (q0 := 0) rfl rfl) rfl hl.1 rfl (Nat.le_of_ble_eq_true rfl) dX6_nextOf_3 ⟨Nat.zero_le _, Nat.zero_le _⟩ (fun r_1 hw => ?_)
  refine lv_istore_n (lv' := [(3, .int r_1), (0, .ref a0), (1, .int p1), (2, .int p2)]) hx hb dX6_nextOf_6 rfl hl (by decide) rfl (fun ls hl => ?_)
  refine lv_aload_n hx hb dX6_nextOf_7 rfl (lv_at hl 1 rfl) ?_
  refine lv_iload_n hx hb dX6_nextOf_8 rfl (lv_at hl 2 rfl) ?_
  refine z_ri [.int p1] [] ⟨hx, hb, hml, hown, hts⟩ (kX6_whichOf l D cA a0 a_state a_readPage a_tape a_cutRow a_cutWeights a_isKept a_lanes a_lengths a_cells f_taped f_fault f_broken f_brokenAt f_spot f_here f_token f_value f_torn f_state f_readPage f_tape f_cutRow f_cutWeights f_isKept f_lanes f_lengths f_cells p1 _ hw) (cwV 1 hts gX6_nextOf_X6_whichOf rfl rfl rfl vX6_whichOf ⟨Nat.le_of_ble_eq_true rfl, Nat.le_of_ble_eq_true rfl⟩) hK (hP.sub [0, 1, 2, 3, 4, 5, 6, 7, 8, 9] rfl) (va_recv hK.1 (hP.sub (ws' := [(a0, .inr (5, [.ref a_state, .ref a_readPage, .ref a_tape, .int f_taped, .int f_fault, .int f_broken, .int f_brokenAt, .int f_spot, .int f_here, .int f_token, .int f_value, .ref a_cutRow, .ref a_cutWeights, .ref a_isKept, .ref a_lanes, .ref a_lengths, .ref a_cells, .int f_torn]))]) [0] rfl) (ci := 5) (q0 := 0) rfl rfl) rfl hl.1 rfl (Nat.le_of_ble_eq_true rfl) dX6_nextOf_9 ⟨Nat.zero_le _, Nat.zero_le _⟩ (fun r_2 hw => ?_)
  refine lv_iload_n hx hb dX6_nextOf_12 rfl (lv_at hl 3 rfl) ?_
  refine lv_iadd hx hb dX6_nextOf_13 ?_
  refine lv_topi (fun x_3 ex_3 => ?_)
  have hw := hw x_3 ex_3
  refine lv_istore (lv' := [(4, .int x_3), (3, .int r_1), (0, .ref a0), (1, .int p1), (2, .int p2)]) hx hb dX6_nextOf_14 hl (by decide) rfl (fun ls hl => ?_)
  refine lv_iload_n hx hb dX6_nextOf_16 rfl (lv_at hl 1 rfl) ?_
  refine lv_bipush (v := -4) hx hb dX6_nextOf_17 (by decide) ?_
  refine lv_icmp_eq (tgt := 27) hx hb dX6_nextOf_19 (by decide) (fun c_4 => ?_) (fun c_4 => ?_)
  · have hw := hw.1 c_4
    refine lv_bipush (v := -4) hx hb dX6_nextOf_27 (by decide) ?_
    refine lv_goto (tgt := 39) hx hb dX6_nextOf_29 (by decide) ?_
    exact z_iret hx hb hr hlk hw dX6_nextOf_39
  · have hw := hw.2 c_4
    refine lv_iload hx hb dX6_nextOf_22 (lv_at hl 0 rfl) ?_
    refine lv_if_ge (tgt := 32) hx hb dX6_nextOf_24 (by decide) (fun c_5 => ?_) (fun c_5 => ?_)
    · have hw := hw.1 c_5
      refine lv_aload_n hx hb dX6_nextOf_32 rfl (lv_at hl 2 rfl) ?_
      refine lv_iload_n hx hb dX6_nextOf_33 rfl (lv_at hl 1 rfl) ?_
      refine lv_iload hx hb dX6_nextOf_34 (lv_at hl 0 rfl) ?_
      refine z_ri [.int r_1, .int x_3] [] ⟨hx, hb, hml, hown, hts⟩ (kX6_childOf l D cA a0 a_state a_readPage a_tape a_cutRow a_cutWeights a_isKept a_lanes a_lengths a_cells f_taped f_fault f_broken f_brokenAt f_spot f_here f_token f_value f_torn f_state f_readPage f_tape f_cutRow f_cutWeights f_isKept f_lanes f_lengths f_cells r_1 x_3 _ hw) (cwV 2 hts gX6_nextOf_X6_childOf rfl rfl rfl vX6_childOf ⟨Nat.le_of_ble_eq_true rfl, Nat.le_of_ble_eq_true rfl⟩) hK (hP.sub [0, 1, 2, 3, 4, 5, 6, 7, 8, 9] rfl) (va_recv hK.1 (hP.sub (ws' := [(a0, .inr (5, [.ref a_state, .ref a_readPage, .ref a_tape, .int f_taped, .int f_fault, .int f_broken, .int f_brokenAt, .int f_spot, .int f_here, .int f_token, .int f_value, .ref a_cutRow, .ref a_cutWeights, .ref a_isKept, .ref a_lanes, .ref a_lengths, .ref a_cells, .int f_torn]))]) [0] rfl) (ci := 5) (q0 := 0) rfl rfl) rfl hl.1 rfl (Nat.le_of_ble_eq_true rfl) dX6_nextOf_36 ⟨Nat.zero_le _, Nat.zero_le _⟩ (fun r_6 hw => ?_)
      exact z_iret hx hb hr hlk hw dX6_nextOf_39
    · have hw := hw.2 c_5
      refine lv_bipush (v := -4) hx hb dX6_nextOf_27 (by decide) ?_
      refine lv_goto (tgt := 39) hx hb dX6_nextOf_29 (by decide) ?_
      exact z_iret hx hb hr hlk hw dX6_nextOf_39
def wX6_leavesOf (f_state : Nat → Int32) (p1 : Int32) (post : Int32 → Prop) : Prop := (∃ (I_1 : Int32 → Int32 → Prop) (mu_1 : Int32 → Int32 → Nat), I_1 (0 : Int32) p1 ∧ ∀ (x_2 : Int32) (x_3 : Int32), I_1 x_2 x_3 → (wX6_sizeOf f_state p1 (fun r_4 : Int32 => ((((p1 + r_4) ≤ x_3 → post x_2) ∧ (¬ (p1 + r_4) ≤ x_3 → (wX6_sizeOf f_state x_3 (fun r_6 : Int32 => (((¬ r_6 = (1 : Int32) → (∀ x_8 : Int32, x_8 = (x_2 + (0 : Int32)) → (∀ x_9 : Int32, x_9 = x_3 + (1) → (I_1 x_8 x_9 ∧ mu_1 x_8 x_9 < mu_1 x_2 x_3)))) ∧ (r_6 = (1 : Int32) → (∀ x_10 : Int32, x_10 = (x_2 + (1 : Int32)) → (∀ x_11 : Int32, x_11 = x_3 + (1) → (I_1 x_10 x_11 ∧ mu_1 x_10 x_11 < mu_1 x_2 x_3))))))))))))))
abbrev rX6_leavesOf : Room := { frames := 2, cells := 0, slots := 0, locals := 45 }
theorem vX6_leavesOf : yX6_leavesOf.cls = RX6 ∧ yX6_leavesOf.cls ≠ "java/lang/invoke/MethodHandle" ∧ yX6_leavesOf.cls ≠ "java/lang/invoke/VarHandle" ∧ (parseMethodDescriptor yX6_leavesOf.desc).map (fun d => d.parameters.length) = some 1 := by decide +kernel
set_option maxHeartbeats 4000000 in
set_option maxRecDepth 100000 in
theorem kX6_leavesOf (l : Launch) (D : va_G) (cA : Nat → ClassId) (a0 a_state a_readPage a_tape a_cutRow a_cutWeights a_isKept a_lanes a_lengths a_cells : Nat) (f_taped : Int32) (f_fault : Int32) (f_broken : Int32) (f_brokenAt : Int32) (f_spot : Int32) (f_here : Int32) (f_token : Int32) (f_value : Int32) (f_torn : Int32) (f_state : Nat → Int32) (f_readPage : Nat → Int32) (f_tape : Nat → Int32) (f_cutRow : Nat → Int32) (f_cutWeights : Nat → Int32) (f_isKept : Nat → Int32) (f_lanes : Nat → Int32) (f_lengths : Nat → Int32) (f_cells : Nat → Int64) (p1 : Int32) (post : Int32 → Prop) (h : wX6_leavesOf f_state p1 post) : Met l yX6_leavesOf wsX6_leavesOf rX6_leavesOf (zPr D cA [.ref a0, .int p1] [(a0, .inr (5, [.ref a_state, .ref a_readPage, .ref a_tape, .int f_taped, .int f_fault, .int f_broken, .int f_brokenAt, .int f_spot, .int f_here, .int f_token, .int f_value, .ref a_cutRow, .ref a_cutWeights, .ref a_isKept, .ref a_lanes, .ref a_lengths, .ref a_cells, .int f_torn])), (a_state, .inl (cA 0, 579, .inl f_state)), (a_readPage, .inl (cA 0, 193, .inl f_readPage)), (a_tape, .inl (cA 0, 160, .inl f_tape)), (a_cutRow, .inl (cA 0, 128, .inl f_cutRow)), (a_cutWeights, .inl (cA 0, 64, .inl f_cutWeights)), (a_isKept, .inl (cA 3, 2, .inl f_isKept)), (a_lanes, .inl (cA 0, 4, .inl f_lanes)), (a_lengths, .inl (cA 0, 4, .inl f_lengths)), (a_cells, .inl (cA 1, 160, .inr (.inl f_cells)))]) (vp_Si post) 0 0 (fun _ => False) := by
  refine z_ro (cc := cX6_leavesOf) (maxL := 4) (ret := (some .int)) (by decide) rfl (Nat.le_of_ble_eq_true rfl) ?_
  intro p e s m args below meth c ls hx hb hr hlk hml hown hts hK hP hl
  have hown : s.vm.findClass RX6 = some m.cls := hown
  have hl : lv_has ls 4 [(0, .ref a0), (1, .int p1)] := hl
  have hw := h
  unfold wX6_leavesOf at hw
  refine lv_iconst (v := 0) hx hb dX6_leavesOf_0 (by decide) ?_
  refine lv_istore_n (lv' := [(2, .int (0 : Int32)), (0, .ref a0), (1, .int p1)]) hx hb dX6_leavesOf_1 rfl hl (by decide) rfl (fun ls hl => ?_)
  refine lv_iload_n hx hb dX6_leavesOf_2 rfl (lv_at hl 2 rfl) ?_
  refine lv_istore_n (lv' := [(3, .int p1), (2, .int (0 : Int32)), (0, .ref a0), (1, .int p1)]) hx hb dX6_leavesOf_3 rfl hl (by decide) rfl (fun ls hl => ?_)
  obtain ⟨I_1, mu_1, hI_1, hw⟩ := hw
  have lp_1 : ∀ (nn : Nat) (x_2 : Int32) (x_3 : Int32) (ls : Array Slot), mu_1 x_2 x_3 < nn → I_1 x_2 x_3 → lv_has ls 4 [(0, .ref a0), (1, .int p1), (2, .int x_2), (3, .int x_3)] → W p l e rX6_leavesOf s m args below meth c s.heap [] 0 0 (MQ below (vp_Si post) args s 0 0 (fun _ => False)) (F0 m 4 ls []) := by
    intro nn
    induction nn with
    | zero => exact fun _ _ _ h0 => absurd h0 (Nat.not_lt_zero _)
    | succ nn ih_1 =>
      intro x_2 x_3 ls hmu_1 hI_1 hl
      have hw := hw x_2 x_3 hI_1
      refine lv_iload_n hx hb dX6_leavesOf_4 rfl (lv_at hl 3 rfl) ?_
      refine lv_iload_n hx hb dX6_leavesOf_5 rfl (lv_at hl 1 rfl) ?_
      refine lv_aload_n hx hb dX6_leavesOf_6 rfl (lv_at hl 0 rfl) ?_
      refine lv_iload_n hx hb dX6_leavesOf_7 rfl (lv_at hl 1 rfl) ?_
      refine z_ri [.int p1] [.int p1, .int x_3] ⟨hx, hb, hml, hown, hts⟩ (kX6_sizeOf l D cA a0 a_state a_readPage a_tape a_cutRow a_cutWeights a_isKept a_lanes a_lengths a_cells f_taped f_fault f_broken f_brokenAt f_spot f_here f_token f_value f_torn f_state f_readPage f_tape f_cutRow f_cutWeights f_isKept f_lanes f_lengths f_cells p1 _ hw) (cwV 1 hts gX6_leavesOf_X6_sizeOf rfl rfl rfl vX6_sizeOf ⟨Nat.le_of_ble_eq_true rfl, Nat.le_of_ble_eq_true rfl⟩) hK (hP.sub [0, 1, 2, 3, 4, 5, 6, 7, 8, 9] rfl) (va_recv hK.1 (hP.sub (ws' := [(a0, .inr (5, [.ref a_state, .ref a_readPage, .ref a_tape, .int f_taped, .int f_fault, .int f_broken, .int f_brokenAt, .int f_spot, .int f_here, .int f_token, .int f_value, .ref a_cutRow, .ref a_cutWeights, .ref a_isKept, .ref a_lanes, .ref a_lengths, .ref a_cells, .int f_torn]))]) [0] rfl) (ci := 5) (q0 := 0) rfl rfl) rfl hl.1 rfl (Nat.le_of_ble_eq_true rfl) dX6_leavesOf_8 ⟨Nat.zero_le _, Nat.zero_le _⟩ (fun r_4 hw => ?_)
      refine lv_iadd hx hb dX6_leavesOf_11 ?_
      refine lv_icmp_ge (tgt := 38) hx hb dX6_leavesOf_12 (by decide) (fun c_5 => ?_) (fun c_5 => ?_)
      · have hw := hw.1 c_5
        refine lv_iload_n hx hb dX6_leavesOf_38 rfl (lv_at hl 2 rfl) ?_
        exact z_iret hx hb hr hlk hw dX6_leavesOf_39
      · have hw := hw.2 c_5
        refine lv_iload_n hx hb dX6_leavesOf_15 rfl (lv_at hl 2 rfl) ?_
        refine lv_aload_n hx hb dX6_leavesOf_16 rfl (lv_at hl 0 rfl) ?_
        refine lv_iload_n hx hb dX6_leavesOf_17 rfl (lv_at hl 3 rfl) ?_
        refine z_ri [.int x_3] [.int x_2] ⟨hx, hb, hml, hown, hts⟩ (kX6_sizeOf l D cA a0 a_state a_readPage a_tape a_cutRow a_cutWeights a_isKept a_lanes a_lengths a_cells f_taped f_fault f_broken f_brokenAt f_spot f_here f_token f_value f_torn f_state f_readPage f_tape f_cutRow f_cutWeights f_isKept f_lanes f_lengths f_cells x_3 _ hw) (cwV 1 hts gX6_leavesOf_X6_sizeOf rfl rfl rfl vX6_sizeOf ⟨Nat.le_of_ble_eq_true rfl, Nat.le_of_ble_eq_true rfl⟩) hK (hP.sub [0, 1, 2, 3, 4, 5, 6, 7, 8, 9] rfl) (va_recv hK.1 (hP.sub (ws' := [(a0, .inr (5, [.ref a_state, .ref a_readPage, .ref a_tape, .int f_taped, .int f_fault, .int f_broken, .int f_brokenAt, .int f_spot, .int f_here, .int f_token, .int f_value, .ref a_cutRow, .ref a_cutWeights, .ref a_isKept, .ref a_lanes, .ref a_lengths, .ref a_cells, .int f_torn]))]) [0] rfl) (ci := 5) (q0 := 0) rfl rfl) rfl hl.1 rfl (Nat.le_of_ble_eq_true rfl) dX6_leavesOf_18 ⟨Nat.zero_le _, Nat.zero_le _⟩ (fun r_6 hw => ?_)
        refine lv_iconst (v := 1) hx hb dX6_leavesOf_21 (by decide) ?_
        refine lv_icmp_ne (tgt := 29) hx hb dX6_leavesOf_22 (by decide) (fun c_7 => ?_) (fun c_7 => ?_)
        · have hw := hw.1 c_7
          refine lv_iconst (v := 0) hx hb dX6_leavesOf_29 (by decide) ?_
          refine lv_iadd hx hb dX6_leavesOf_30 ?_
          refine lv_topi (fun x_8 ex_8 => ?_)
          have hw := hw x_8 ex_8
          refine lv_istore_n (lv' := [(2, .int x_8), (0, .ref a0), (1, .int p1), (3, .int x_3)]) hx hb dX6_leavesOf_31 rfl hl (by decide) rfl (fun ls hl => ?_)
          obtain ⟨x_9, ex_9⟩ : ∃ y : Int32, y = x_3 + (1) := ⟨_, rfl⟩
          have hw := hw x_9 ex_9
          refine lv_iinc (v := x_9) (lv' := [(3, .int x_9), (2, .int x_8), (0, .ref a0), (1, .int p1)]) hx hb dX6_leavesOf_32 hl (k := 3) rfl (by rw [ex_9]; rfl) (by decide) rfl (fun ls hl => ?_)
          refine lv_goto (tgt := 4) hx hb dX6_leavesOf_35 (by decide) ?_
          exact ih_1 x_8 x_9 ls (Nat.lt_of_lt_of_le hw.2 (Nat.le_of_lt_succ hmu_1)) hw.1 (lv_sub hl [2, 3, 1, 0] rfl)
        · have hw := hw.2 c_7
          refine lv_iconst (v := 1) hx hb dX6_leavesOf_25 (by decide) ?_
          refine lv_goto (tgt := 30) hx hb dX6_leavesOf_26 (by decide) ?_
          refine lv_iadd hx hb dX6_leavesOf_30 ?_
          refine lv_topi (fun x_10 ex_10 => ?_)
          have hw := hw x_10 ex_10
          refine lv_istore_n (lv' := [(2, .int x_10), (0, .ref a0), (1, .int p1), (3, .int x_3)]) hx hb dX6_leavesOf_31 rfl hl (by decide) rfl (fun ls hl => ?_)
          obtain ⟨x_11, ex_11⟩ : ∃ y : Int32, y = x_3 + (1) := ⟨_, rfl⟩
          have hw := hw x_11 ex_11
          refine lv_iinc (v := x_11) (lv' := [(3, .int x_11), (2, .int x_10), (0, .ref a0), (1, .int p1)]) hx hb dX6_leavesOf_32 hl (k := 3) rfl (by rw [ex_11]; rfl) (by decide) rfl (fun ls hl => ?_)
          refine lv_goto (tgt := 4) hx hb dX6_leavesOf_35 (by decide) ?_
          exact ih_1 x_10 x_11 ls (Nat.lt_of_lt_of_le hw.2 (Nat.le_of_lt_succ hmu_1)) hw.1 (lv_sub hl [2, 3, 1, 0] rfl)
  exact lp_1 (mu_1 (0 : Int32) p1 + 1) (0 : Int32) p1 ls (Nat.lt_succ_self _) hI_1 (lv_sub hl [2, 3, 1, 0] rfl)
def wX6_deepestOf (f_state : Nat → Int32) (p1 : Int32) (post : Int32 → Prop) : Prop := (∃ (I_1 : Int32 → Int32 → Prop) (mu_1 : Int32 → Int32 → Nat), I_1 p1 p1 ∧ ∀ (x_2 : Int32) (x_3 : Int32), I_1 x_2 x_3 → (wX6_sizeOf f_state p1 (fun r_4 : Int32 => ((((p1 + r_4) ≤ x_3 → post x_2) ∧ (¬ (p1 + r_4) ≤ x_3 → (wX6_depthOf f_state x_3 (fun r_6 : Int32 => ((wX6_depthOf f_state x_2 (fun r_7 : Int32 => (((r_6 ≤ r_7 → (∀ x_9 : Int32, x_9 = x_3 + (1) → (I_1 x_2 x_9 ∧ mu_1 x_2 x_9 < mu_1 x_2 x_3))) ∧ (¬ r_6 ≤ r_7 → (∀ x_10 : Int32, x_10 = x_3 + (1) → (I_1 x_3 x_10 ∧ mu_1 x_3 x_10 < mu_1 x_2 x_3))))))))))))))))
abbrev rX6_deepestOf : Room := { frames := 2, cells := 0, slots := 0, locals := 45 }
theorem vX6_deepestOf : yX6_deepestOf.cls = RX6 ∧ yX6_deepestOf.cls ≠ "java/lang/invoke/MethodHandle" ∧ yX6_deepestOf.cls ≠ "java/lang/invoke/VarHandle" ∧ (parseMethodDescriptor yX6_deepestOf.desc).map (fun d => d.parameters.length) = some 1 := by decide +kernel
set_option maxHeartbeats 4000000 in
set_option maxRecDepth 100000 in
theorem kX6_deepestOf (l : Launch) (D : va_G) (cA : Nat → ClassId) (a0 a_state a_readPage a_tape a_cutRow a_cutWeights a_isKept a_lanes a_lengths a_cells : Nat) (f_taped : Int32) (f_fault : Int32) (f_broken : Int32) (f_brokenAt : Int32) (f_spot : Int32) (f_here : Int32) (f_token : Int32) (f_value : Int32) (f_torn : Int32) (f_state : Nat → Int32) (f_readPage : Nat → Int32) (f_tape : Nat → Int32) (f_cutRow : Nat → Int32) (f_cutWeights : Nat → Int32) (f_isKept : Nat → Int32) (f_lanes : Nat → Int32) (f_lengths : Nat → Int32) (f_cells : Nat → Int64) (p1 : Int32) (post : Int32 → Prop) (h : wX6_deepestOf f_state p1 post) : Met l yX6_deepestOf wsX6_deepestOf rX6_deepestOf (zPr D cA [.ref a0, .int p1] [(a0, .inr (5, [.ref a_state, .ref a_readPage, .ref a_tape, .int f_taped, .int f_fault, .int f_broken, .int f_brokenAt, .int f_spot, .int f_here, .int f_token, .int f_value, .ref a_cutRow, .ref a_cutWeights, .ref a_isKept, .ref a_lanes, .ref a_lengths, .ref a_cells, .int f_torn])), (a_state, .inl (cA 0, 579, .inl f_state)), (a_readPage, .inl (cA 0, 193, .inl f_readPage)), (a_tape, .inl (cA 0, 160, .inl f_tape)), (a_cutRow, .inl (cA 0, 128, .inl f_cutRow)), (a_cutWeights, .inl (cA 0, 64, .inl f_cutWeights)), (a_isKept, .inl (cA 3, 2, .inl f_isKept)), (a_lanes, .inl (cA 0, 4, .inl f_lanes)), (a_lengths, .inl (cA 0, 4, .inl f_lengths)), (a_cells, .inl (cA 1, 160, .inr (.inl f_cells)))]) (vp_Si post) 0 0 (fun _ => False) := by
  refine z_ro (cc := cX6_deepestOf) (maxL := 4) (ret := (some .int)) (by decide) rfl (Nat.le_of_ble_eq_true rfl) ?_
  intro p e s m args below meth c ls hx hb hr hlk hml hown hts hK hP hl
  have hown : s.vm.findClass RX6 = some m.cls := hown
  have hl : lv_has ls 4 [(0, .ref a0), (1, .int p1)] := hl
  have hw := h
  unfold wX6_deepestOf at hw
  refine lv_iload_n hx hb dX6_deepestOf_0 rfl (lv_at hl 1 rfl) ?_
  refine lv_istore_n (lv' := [(2, .int p1), (0, .ref a0), (1, .int p1)]) hx hb dX6_deepestOf_1 rfl hl (by decide) rfl (fun ls hl => ?_)
  refine lv_iload_n hx hb dX6_deepestOf_2 rfl (lv_at hl 2 rfl) ?_
  refine lv_istore_n (lv' := [(3, .int p1), (2, .int p1), (0, .ref a0), (1, .int p1)]) hx hb dX6_deepestOf_3 rfl hl (by decide) rfl (fun ls hl => ?_)
  obtain ⟨I_1, mu_1, hI_1, hw⟩ := hw
  have lp_1 : ∀ (nn : Nat) (x_2 : Int32) (x_3 : Int32) (ls : Array Slot), mu_1 x_2 x_3 < nn → I_1 x_2 x_3 → lv_has ls 4 [(0, .ref a0), (1, .int p1), (2, .int x_2), (3, .int x_3)] → W p l e rX6_deepestOf s m args below meth c s.heap [] 0 0 (MQ below (vp_Si post) args s 0 0 (fun _ => False)) (F0 m 4 ls []) := by
    intro nn
    induction nn with
    | zero => exact fun _ _ _ h0 => absurd h0 (Nat.not_lt_zero _)
    | succ nn ih_1 =>
      intro x_2 x_3 ls hmu_1 hI_1 hl
      have hw := hw x_2 x_3 hI_1
      refine lv_iload_n hx hb dX6_deepestOf_4 rfl (lv_at hl 3 rfl) ?_
      refine lv_iload_n hx hb dX6_deepestOf_5 rfl (lv_at hl 1 rfl) ?_
      refine lv_aload_n hx hb dX6_deepestOf_6 rfl (lv_at hl 0 rfl) ?_
      refine lv_iload_n hx hb dX6_deepestOf_7 rfl (lv_at hl 1 rfl) ?_
      refine z_ri [.int p1] [.int p1, .int x_3] ⟨hx, hb, hml, hown, hts⟩ (kX6_sizeOf l D cA a0 a_state a_readPage a_tape a_cutRow a_cutWeights a_isKept a_lanes a_lengths a_cells f_taped f_fault f_broken f_brokenAt f_spot f_here f_token f_value f_torn f_state f_readPage f_tape f_cutRow f_cutWeights f_isKept f_lanes f_lengths f_cells p1 _ hw) (cwV 1 hts gX6_deepestOf_X6_sizeOf rfl rfl rfl vX6_sizeOf ⟨Nat.le_of_ble_eq_true rfl, Nat.le_of_ble_eq_true rfl⟩) hK (hP.sub [0, 1, 2, 3, 4, 5, 6, 7, 8, 9] rfl) (va_recv hK.1 (hP.sub (ws' := [(a0, .inr (5, [.ref a_state, .ref a_readPage, .ref a_tape, .int f_taped, .int f_fault, .int f_broken, .int f_brokenAt, .int f_spot, .int f_here, .int f_token, .int f_value, .ref a_cutRow, .ref a_cutWeights, .ref a_isKept, .ref a_lanes, .ref a_lengths, .ref a_cells, .int f_torn]))]) [0] rfl) (ci := 5) (q0 := 0) rfl rfl) rfl hl.1 rfl (Nat.le_of_ble_eq_true rfl) dX6_deepestOf_8 ⟨Nat.zero_le _, Nat.zero_le _⟩ (fun r_4 hw => ?_)
      refine lv_iadd hx hb dX6_deepestOf_11 ?_
      refine lv_icmp_ge (tgt := 40) hx hb dX6_deepestOf_12 (by decide) (fun c_5 => ?_) (fun c_5 => ?_)
      · have hw := hw.1 c_5
        refine lv_iload_n hx hb dX6_deepestOf_40 rfl (lv_at hl 2 rfl) ?_
        exact z_iret hx hb hr hlk hw dX6_deepestOf_41
      · have hw := hw.2 c_5
        refine lv_aload_n hx hb dX6_deepestOf_15 rfl (lv_at hl 0 rfl) ?_
        refine lv_iload_n hx hb dX6_deepestOf_16 rfl (lv_at hl 3 rfl) ?_
        refine z_ri [.int x_3] [] ⟨hx, hb, hml, hown, hts⟩ (kX6_depthOf l D cA a0 a_state a_readPage a_tape a_cutRow a_cutWeights a_isKept a_lanes a_lengths a_cells f_taped f_fault f_broken f_brokenAt f_spot f_here f_token f_value f_torn f_state f_readPage f_tape f_cutRow f_cutWeights f_isKept f_lanes f_lengths f_cells x_3 _ hw) (cwV 1 hts gX6_deepestOf_X6_depthOf rfl rfl rfl vX6_depthOf ⟨Nat.le_of_ble_eq_true rfl, Nat.le_of_ble_eq_true rfl⟩) hK (hP.sub [0, 1, 2, 3, 4, 5, 6, 7, 8, 9] rfl) (va_recv hK.1 (hP.sub (ws' := [(a0, .inr (5, [.ref a_state, .ref a_readPage, .ref a_tape, .int f_taped, .int f_fault, .int f_broken, .int f_brokenAt, .int f_spot, .int f_here, .int f_token, .int f_value, .ref a_cutRow, .ref a_cutWeights, .ref a_isKept, .ref a_lanes, .ref a_lengths, .ref a_cells, .int f_torn]))]) [0] rfl) (ci := 5) (q0 := 0) rfl rfl) rfl hl.1 rfl (Nat.le_of_ble_eq_true rfl) dX6_deepestOf_17 ⟨Nat.zero_le _, Nat.zero_le _⟩ (fun r_6 hw => ?_)
        refine lv_aload_n hx hb dX6_deepestOf_20 rfl (lv_at hl 0 rfl) ?_
        refine lv_iload_n hx hb dX6_deepestOf_21 rfl (lv_at hl 2 rfl) ?_
        refine z_ri [.int x_2] [.int r_6] ⟨hx, hb, hml, hown, hts⟩ (kX6_depthOf l D cA a0 a_state a_readPage a_tape a_cutRow a_cutWeights a_isKept a_lanes a_lengths a_cells f_taped f_fault f_broken f_brokenAt f_spot f_here f_token f_value f_torn f_state f_readPage f_tape f_cutRow f_cutWeights f_isKept f_lanes f_lengths f_cells x_2 _ hw) (cwV 1 hts gX6_deepestOf_X6_depthOf rfl rfl rfl vX6_depthOf ⟨Nat.le_of_ble_eq_true rfl, Nat.le_of_ble_eq_true rfl⟩) hK (hP.sub [0, 1, 2, 3, 4, 5, 6, 7, 8, 9] rfl) (va_recv hK.1 (hP.sub (ws' := [(a0, .inr (5, [.ref a_state, .ref a_readPage, .ref a_tape, .int f_taped, .int f_fault, .int f_broken, .int f_brokenAt, .int f_spot, .int f_here, .int f_token, .int f_value, .ref a_cutRow, .ref a_cutWeights, .ref a_isKept, .ref a_lanes, .ref a_lengths, .ref a_cells, .int f_torn]))]) [0] rfl) (ci := 5) (q0 := 0) rfl rfl) rfl hl.1 rfl (Nat.le_of_ble_eq_true rfl) dX6_deepestOf_22 ⟨Nat.zero_le _, Nat.zero_le _⟩ (fun r_7 hw => ?_)
        refine lv_icmp_le (tgt := 32) hx hb dX6_deepestOf_25 (by decide) (fun c_8 => ?_) (fun c_8 => ?_)
        · have hw := hw.1 c_8
          refine lv_iload_n hx hb dX6_deepestOf_32 rfl (lv_at hl 2 rfl) ?_
          refine lv_istore_n (lv' := [(2, .int x_2), (0, .ref a0), (1, .int p1), (3, .int x_3)]) hx hb dX6_deepestOf_33 rfl hl (by decide) rfl (fun ls hl => ?_)
          obtain ⟨x_9, ex_9⟩ : ∃ y : Int32, y = x_3 + (1) := ⟨_, rfl⟩
          have hw := hw x_9 ex_9
          refine lv_iinc (v := x_9) (lv' := [(3, .int x_9), (2, .int x_2), (0, .ref a0), (1, .int p1)]) hx hb dX6_deepestOf_34 hl (k := 3) rfl (by rw [ex_9]; rfl) (by decide) rfl (fun ls hl => ?_)
          refine lv_goto (tgt := 4) hx hb dX6_deepestOf_37 (by decide) ?_
          exact ih_1 x_2 x_9 ls (Nat.lt_of_lt_of_le hw.2 (Nat.le_of_lt_succ hmu_1)) hw.1 (lv_sub hl [2, 3, 1, 0] rfl)
        · have hw := hw.2 c_8
          refine lv_iload_n hx hb dX6_deepestOf_28 rfl (lv_at hl 3 rfl) ?_
          refine lv_goto (tgt := 33) hx hb dX6_deepestOf_29 (by decide) ?_
          refine lv_istore_n (lv' := [(2, .int x_3), (0, .ref a0), (1, .int p1), (3, .int x_3)]) hx hb dX6_deepestOf_33 rfl hl (by decide) rfl (fun ls hl => ?_)
          obtain ⟨x_10, ex_10⟩ : ∃ y : Int32, y = x_3 + (1) := ⟨_, rfl⟩
          have hw := hw x_10 ex_10
          refine lv_iinc (v := x_10) (lv' := [(3, .int x_10), (2, .int x_3), (0, .ref a0), (1, .int p1)]) hx hb dX6_deepestOf_34 hl (k := 3) rfl (by rw [ex_10]; rfl) (by decide) rfl (fun ls hl => ?_)
          refine lv_goto (tgt := 4) hx hb dX6_deepestOf_37 (by decide) ?_
          exact ih_1 x_3 x_10 ls (Nat.lt_of_lt_of_le hw.2 (Nat.le_of_lt_succ hmu_1)) hw.1 (lv_sub hl [2, 3, 1, 0] rfl)
  exact lp_1 (mu_1 p1 p1 + 1) p1 p1 ls (Nat.lt_succ_self _) hI_1 (lv_sub hl [2, 3, 1, 0] rfl)
def wX6_fromBelow (f_state : Nat → Int32) (p1 : Int32) (post : Int32 → Prop) : Prop := (wX6_openOf f_state p1 (fun r_1 : Int32 => ((wX6_shutOf f_state r_1 (fun r_2 : Int32 => ((wX6_opensAt f_state r_2 (fun r_3 : Int32 => (post (r_2 - r_3))))))))))
abbrev rX6_fromBelow : Room := { frames := 2, cells := 0, slots := 0, locals := 44 }
theorem vX6_fromBelow : yX6_fromBelow.cls = RX6 ∧ yX6_fromBelow.cls ≠ "java/lang/invoke/MethodHandle" ∧ yX6_fromBelow.cls ≠ "java/lang/invoke/VarHandle" ∧ (parseMethodDescriptor yX6_fromBelow.desc).map (fun d => d.parameters.length) = some 1 := by decide +kernel
set_option maxHeartbeats 4000000 in
set_option maxRecDepth 100000 in
theorem kX6_fromBelow (l : Launch) (D : va_G) (cA : Nat → ClassId) (a0 a_state a_readPage a_tape a_cutRow a_cutWeights a_isKept a_lanes a_lengths a_cells : Nat) (f_taped : Int32) (f_fault : Int32) (f_broken : Int32) (f_brokenAt : Int32) (f_spot : Int32) (f_here : Int32) (f_token : Int32) (f_value : Int32) (f_torn : Int32) (f_state : Nat → Int32) (f_readPage : Nat → Int32) (f_tape : Nat → Int32) (f_cutRow : Nat → Int32) (f_cutWeights : Nat → Int32) (f_isKept : Nat → Int32) (f_lanes : Nat → Int32) (f_lengths : Nat → Int32) (f_cells : Nat → Int64) (p1 : Int32) (post : Int32 → Prop) (h : wX6_fromBelow f_state p1 post) : Met l yX6_fromBelow wsX6_fromBelow rX6_fromBelow (zPr D cA [.ref a0, .int p1] [(a0, .inr (5, [.ref a_state, .ref a_readPage, .ref a_tape, .int f_taped, .int f_fault, .int f_broken, .int f_brokenAt, .int f_spot, .int f_here, .int f_token, .int f_value, .ref a_cutRow, .ref a_cutWeights, .ref a_isKept, .ref a_lanes, .ref a_lengths, .ref a_cells, .int f_torn])), (a_state, .inl (cA 0, 579, .inl f_state)), (a_readPage, .inl (cA 0, 193, .inl f_readPage)), (a_tape, .inl (cA 0, 160, .inl f_tape)), (a_cutRow, .inl (cA 0, 128, .inl f_cutRow)), (a_cutWeights, .inl (cA 0, 64, .inl f_cutWeights)), (a_isKept, .inl (cA 3, 2, .inl f_isKept)), (a_lanes, .inl (cA 0, 4, .inl f_lanes)), (a_lengths, .inl (cA 0, 4, .inl f_lengths)), (a_cells, .inl (cA 1, 160, .inr (.inl f_cells)))]) (vp_Si post) 0 0 (fun _ => False) := by
  refine z_ro (cc := cX6_fromBelow) (maxL := 3) (ret := (some .int)) (by decide) rfl (Nat.le_of_ble_eq_true rfl) ?_
  intro p e s m args below meth c ls hx hb hr hlk hml hown hts hK hP hl
  have hown : s.vm.findClass RX6 = some m.cls := hown
  have hl : lv_has ls 3 [(0, .ref a0), (1, .int p1)] := hl
  have hw := h
  unfold wX6_fromBelow at hw
  refine lv_aload_n hx hb dX6_fromBelow_0 rfl (lv_at hl 0 rfl) ?_
  refine lv_aload_n hx hb dX6_fromBelow_1 rfl (lv_at hl 0 rfl) ?_
  refine lv_iload_n hx hb dX6_fromBelow_2 rfl (lv_at hl 1 rfl) ?_
  refine z_ri [.int p1] [.ref a0] ⟨hx, hb, hml, hown, hts⟩ (kX6_openOf l D cA a0 a_state a_readPage a_tape a_cutRow a_cutWeights a_isKept a_lanes a_lengths a_cells f_taped f_fault f_broken f_brokenAt f_spot f_here f_token f_value f_torn f_state f_readPage f_tape f_cutRow f_cutWeights f_isKept f_lanes f_lengths f_cells p1 _ hw) (cwV 1 hts gX6_fromBelow_X6_openOf rfl rfl rfl vX6_openOf ⟨Nat.le_of_ble_eq_true rfl, Nat.le_of_ble_eq_true rfl⟩) hK (hP.sub [0, 1, 2, 3, 4, 5, 6, 7, 8, 9] rfl) (va_recv hK.1 (hP.sub (ws' := [(a0, .inr (5, [.ref a_state, .ref a_readPage, .ref a_tape, .int f_taped, .int f_fault, .int f_broken, .int f_brokenAt, .int f_spot, .int f_here, .int f_token, .int f_value, .ref a_cutRow, .ref a_cutWeights, .ref a_isKept, .ref a_lanes, .ref a_lengths, .ref a_cells, .int f_torn]))]) [0] rfl) (ci := 5) (q0 := 0) rfl rfl) rfl hl.1 rfl (Nat.le_of_ble_eq_true rfl) dX6_fromBelow_3 ⟨Nat.zero_le _, Nat.zero_le _⟩ (fun r_1 hw => ?_)
  refine z_ri [.int r_1] [] ⟨hx, hb, hml, hown, hts⟩ (kX6_shutOf l D cA a0 a_state a_readPage a_tape a_cutRow a_cutWeights a_isKept a_lanes a_lengths a_cells f_taped f_fault f_broken f_brokenAt f_spot f_here f_token f_value f_torn f_state f_readPage f_tape f_cutRow f_cutWeights f_isKept f_lanes f_lengths f_cells r_1 _ hw) (cwV 1 hts gX6_fromBelow_X6_shutOf rfl rfl rfl vX6_shutOf ⟨Nat.le_of_ble_eq_true rfl, Nat.le_of_ble_eq_true rfl⟩) hK (hP.sub [0, 1, 2, 3, 4, 5, 6, 7, 8, 9] rfl) (va_recv hK.1 (hP.sub (ws' := [(a0, .inr (5, [.ref a_state, .ref a_readPage, .ref a_tape, .int f_taped, .int f_fault, .int f_broken, .int f_brokenAt, .int f_spot, .int f_here, .int f_token, .int f_value, .ref a_cutRow, .ref a_cutWeights, .ref a_isKept, .ref a_lanes, .ref a_lengths, .ref a_cells, .int f_torn]))]) [0] rfl) (ci := 5) (q0 := 0) rfl rfl) rfl hl.1 rfl (Nat.le_of_ble_eq_true rfl) dX6_fromBelow_6 ⟨Nat.zero_le _, Nat.zero_le _⟩ (fun r_2 hw => ?_)
  refine lv_istore_n (lv' := [(2, .int r_2), (0, .ref a0), (1, .int p1)]) hx hb dX6_fromBelow_9 rfl hl (by decide) rfl (fun ls hl => ?_)
  refine lv_iload_n hx hb dX6_fromBelow_10 rfl (lv_at hl 0 rfl) ?_
  refine lv_aload_n hx hb dX6_fromBelow_11 rfl (lv_at hl 1 rfl) ?_
  refine lv_iload_n hx hb dX6_fromBelow_12 rfl (lv_at hl 0 rfl) ?_
  refine z_ri [.int r_2] [.int r_2] ⟨hx, hb, hml, hown, hts⟩ (kX6_opensAt l D cA a0 a_state a_readPage a_tape a_cutRow a_cutWeights a_isKept a_lanes a_lengths a_cells f_taped f_fault f_broken f_brokenAt f_spot f_here f_token f_value f_torn f_state f_readPage f_tape f_cutRow f_cutWeights f_isKept f_lanes f_lengths f_cells r_2 _ hw) (cwV 1 hts gX6_fromBelow_X6_opensAt rfl rfl rfl vX6_opensAt ⟨Nat.le_of_ble_eq_true rfl, Nat.le_of_ble_eq_true rfl⟩) hK (hP.sub [0, 1, 2, 3, 4, 5, 6, 7, 8, 9] rfl) (va_recv hK.1 (hP.sub (ws' := [(a0, .inr (5, [.ref a_state, .ref a_readPage, .ref a_tape, .int f_taped, .int f_fault, .int f_broken, .int f_brokenAt, .int f_spot, .int f_here, .int f_token, .int f_value, .ref a_cutRow, .ref a_cutWeights, .ref a_isKept, .ref a_lanes, .ref a_lengths, .ref a_cells, .int f_torn]))]) [0] rfl) (ci := 5) (q0 := 0) rfl rfl) rfl hl.1 rfl (Nat.le_of_ble_eq_true rfl) dX6_fromBelow_13 ⟨Nat.zero_le _, Nat.zero_le _⟩ (fun r_3 hw => ?_)
  refine lv_isub hx hb dX6_fromBelow_16 ?_
  exact z_iret hx hb hr hlk hw dX6_fromBelow_17
def wX6_placeAsked (f_state : Nat → Int32) (p1 : Int32) (p2 : Int32) (post : Int32 → Prop) : Prop := (wX6_openOf f_state p1 (fun r_1 : Int32 => (((¬ p2 = 0 → ((¬ p2 = (1 : Int32) → (wX6_excessAt f_state r_1 (fun r_4 : Int32 => (post r_4)))) ∧ (p2 = (1 : Int32) → (wX6_shutOf f_state r_1 (fun r_5 : Int32 => (post r_5)))))) ∧ (p2 = 0 → post r_1)))))
abbrev rX6_placeAsked : Room := { frames := 1, cells := 0, slots := 0, locals := 23 }
theorem vX6_placeAsked : yX6_placeAsked.cls = RX6 ∧ yX6_placeAsked.cls ≠ "java/lang/invoke/MethodHandle" ∧ yX6_placeAsked.cls ≠ "java/lang/invoke/VarHandle" ∧ (parseMethodDescriptor yX6_placeAsked.desc).map (fun d => d.parameters.length) = some 2 := by decide +kernel
set_option maxHeartbeats 4000000 in
set_option maxRecDepth 100000 in
theorem kX6_placeAsked (l : Launch) (D : va_G) (cA : Nat → ClassId) (a0 a_state a_readPage a_tape a_cutRow a_cutWeights a_isKept a_lanes a_lengths a_cells : Nat) (f_taped : Int32) (f_fault : Int32) (f_broken : Int32) (f_brokenAt : Int32) (f_spot : Int32) (f_here : Int32) (f_token : Int32) (f_value : Int32) (f_torn : Int32) (f_state : Nat → Int32) (f_readPage : Nat → Int32) (f_tape : Nat → Int32) (f_cutRow : Nat → Int32) (f_cutWeights : Nat → Int32) (f_isKept : Nat → Int32) (f_lanes : Nat → Int32) (f_lengths : Nat → Int32) (f_cells : Nat → Int64) (p1 : Int32) (p2 : Int32) (post : Int32 → Prop) (h : wX6_placeAsked f_state p1 p2 post) : Met l yX6_placeAsked wsX6_placeAsked rX6_placeAsked (zPr D cA [.ref a0, .int p1, .int p2] [(a0, .inr (5, [.ref a_state, .ref a_readPage, .ref a_tape, .int f_taped, .int f_fault, .int f_broken, .int f_brokenAt, .int f_spot, .int f_here, .int f_token, .int f_value, .ref a_cutRow, .ref a_cutWeights, .ref a_isKept, .ref a_lanes, .ref a_lengths, .ref a_cells, .int f_torn])), (a_state, .inl (cA 0, 579, .inl f_state)), (a_readPage, .inl (cA 0, 193, .inl f_readPage)), (a_tape, .inl (cA 0, 160, .inl f_tape)), (a_cutRow, .inl (cA 0, 128, .inl f_cutRow)), (a_cutWeights, .inl (cA 0, 64, .inl f_cutWeights)), (a_isKept, .inl (cA 3, 2, .inl f_isKept)), (a_lanes, .inl (cA 0, 4, .inl f_lanes)), (a_lengths, .inl (cA 0, 4, .inl f_lengths)), (a_cells, .inl (cA 1, 160, .inr (.inl f_cells)))]) (vp_Si post) 0 0 (fun _ => False) := by
  refine z_ro (cc := cX6_placeAsked) (maxL := 4) (ret := (some .int)) (by decide) rfl (Nat.le_of_ble_eq_true rfl) ?_
  intro p e s m args below meth c ls hx hb hr hlk hml hown hts hK hP hl
  have hown : s.vm.findClass RX6 = some m.cls := hown
  have hl : lv_has ls 4 [(0, .ref a0), (1, .int p1), (2, .int p2)] := hl
  have hw := h
  unfold wX6_placeAsked at hw
  refine lv_aload_n hx hb dX6_placeAsked_0 rfl (lv_at hl 0 rfl) ?_
  refine lv_iload_n hx hb dX6_placeAsked_1 rfl (lv_at hl 1 rfl) ?_
  refine z_ri [.int p1] [] ⟨hx, hb, hml, hown, hts⟩ (kX6_openOf l D cA a0 a_state a_readPage a_tape a_cutRow a_cutWeights a_isKept a_lanes a_lengths a_cells f_taped f_fault f_broken f_brokenAt f_spot f_here f_token f_value f_torn f_state f_readPage f_tape f_cutRow f_cutWeights f_isKept f_lanes f_lengths f_cells p1 _ hw) (cwV 1 hts gX6_placeAsked_X6_openOf rfl rfl rfl vX6_openOf ⟨Nat.le_of_ble_eq_true rfl, Nat.le_of_ble_eq_true rfl⟩) hK (hP.sub [0, 1, 2, 3, 4, 5, 6, 7, 8, 9] rfl) (va_recv hK.1 (hP.sub (ws' := [(a0, .inr (5, [.ref a_state, .ref a_readPage, .ref a_tape, .int f_taped, .int f_fault, .int f_broken, .int f_brokenAt, .int f_spot, .int f_here, .int f_token, .int f_value, .ref a_cutRow, .ref a_cutWeights, .ref a_isKept, .ref a_lanes, .ref a_lengths, .ref a_cells, .int f_torn]))]) [0] rfl) (ci := 5) (q0 := 0) rfl rfl) rfl hl.1 rfl (Nat.le_of_ble_eq_true rfl) dX6_placeAsked_2 ⟨Nat.zero_le _, Nat.zero_le _⟩ (fun r_1 hw => ?_)
  refine lv_istore_n (lv' := [(3, .int r_1), (0, .ref a0), (1, .int p1), (2, .int p2)]) hx hb dX6_placeAsked_5 rfl hl (by decide) rfl (fun ls hl => ?_)
  refine lv_iload_n hx hb dX6_placeAsked_6 rfl (lv_at hl 3 rfl) ?_
  refine lv_if_ne (tgt := 14) hx hb dX6_placeAsked_7 (by decide) (fun c_2 => ?_) (fun c_2 => ?_)
  · have hw := hw.1 c_2
    refine lv_iload_n hx hb dX6_placeAsked_14 rfl (lv_at hl 3 rfl) ?_
    refine lv_iconst (v := 1) hx hb dX6_placeAsked_15 (by decide) ?_
    refine lv_icmp_ne (tgt := 27) hx hb dX6_placeAsked_16 (by decide) (fun c_3 => ?_) (fun c_3 => ?_)
    · have hw := hw.1 c_3
      refine lv_aload_n hx hb dX6_placeAsked_27 rfl (lv_at hl 1 rfl) ?_
      refine lv_iload_n hx hb dX6_placeAsked_28 rfl (lv_at hl 0 rfl) ?_
      refine z_ri [.int r_1] [] ⟨hx, hb, hml, hown, hts⟩ (kX6_excessAt l D cA a0 a_state a_readPage a_tape a_cutRow a_cutWeights a_isKept a_lanes a_lengths a_cells f_taped f_fault f_broken f_brokenAt f_spot f_here f_token f_value f_torn f_state f_readPage f_tape f_cutRow f_cutWeights f_isKept f_lanes f_lengths f_cells r_1 _ hw) (cwV 1 hts gX6_placeAsked_X6_excessAt rfl rfl rfl vX6_excessAt ⟨Nat.le_of_ble_eq_true rfl, Nat.le_of_ble_eq_true rfl⟩) hK (hP.sub [0, 1, 2, 3, 4, 5, 6, 7, 8, 9] rfl) (va_recv hK.1 (hP.sub (ws' := [(a0, .inr (5, [.ref a_state, .ref a_readPage, .ref a_tape, .int f_taped, .int f_fault, .int f_broken, .int f_brokenAt, .int f_spot, .int f_here, .int f_token, .int f_value, .ref a_cutRow, .ref a_cutWeights, .ref a_isKept, .ref a_lanes, .ref a_lengths, .ref a_cells, .int f_torn]))]) [0] rfl) (ci := 5) (q0 := 0) rfl rfl) rfl hl.1 rfl (Nat.le_of_ble_eq_true rfl) dX6_placeAsked_29 ⟨Nat.zero_le _, Nat.zero_le _⟩ (fun r_4 hw => ?_)
      exact z_iret hx hb hr hlk hw dX6_placeAsked_32
    · have hw := hw.2 c_3
      refine lv_aload_n hx hb dX6_placeAsked_19 rfl (lv_at hl 1 rfl) ?_
      refine lv_iload_n hx hb dX6_placeAsked_20 rfl (lv_at hl 0 rfl) ?_
      refine z_ri [.int r_1] [] ⟨hx, hb, hml, hown, hts⟩ (kX6_shutOf l D cA a0 a_state a_readPage a_tape a_cutRow a_cutWeights a_isKept a_lanes a_lengths a_cells f_taped f_fault f_broken f_brokenAt f_spot f_here f_token f_value f_torn f_state f_readPage f_tape f_cutRow f_cutWeights f_isKept f_lanes f_lengths f_cells r_1 _ hw) (cwV 1 hts gX6_placeAsked_X6_shutOf rfl rfl rfl vX6_shutOf ⟨Nat.le_of_ble_eq_true rfl, Nat.le_of_ble_eq_true rfl⟩) hK (hP.sub [0, 1, 2, 3, 4, 5, 6, 7, 8, 9] rfl) (va_recv hK.1 (hP.sub (ws' := [(a0, .inr (5, [.ref a_state, .ref a_readPage, .ref a_tape, .int f_taped, .int f_fault, .int f_broken, .int f_brokenAt, .int f_spot, .int f_here, .int f_token, .int f_value, .ref a_cutRow, .ref a_cutWeights, .ref a_isKept, .ref a_lanes, .ref a_lengths, .ref a_cells, .int f_torn]))]) [0] rfl) (ci := 5) (q0 := 0) rfl rfl) rfl hl.1 rfl (Nat.le_of_ble_eq_true rfl) dX6_placeAsked_21 ⟨Nat.zero_le _, Nat.zero_le _⟩ (fun r_5 hw => ?_)
      refine lv_goto (tgt := 32) hx hb dX6_placeAsked_24 (by decide) ?_
      exact z_iret hx hb hr hlk hw dX6_placeAsked_32
  · have hw := hw.2 c_2
    refine lv_iload_n hx hb dX6_placeAsked_10 rfl (lv_at hl 0 rfl) ?_
    refine lv_goto (tgt := 32) hx hb dX6_placeAsked_11 (by decide) ?_
    exact z_iret hx hb hr hlk hw dX6_placeAsked_32
