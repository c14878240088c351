/-! written by wip/whole/gen.py -/
def wX6_isRow (f_readPage : Nat → Int32) (p1 : Int32) (post : Int32 → Prop) : Prop := ((¬ (p1 - p1 / (2 : Int32) * (2 : Int32)) = 0 → (∃ (I_2 : Int32 → Int32 → Int32 → Prop) (mu_2 : Int32 → Int32 → Int32 → Nat), I_2 (0 : Int32) (0 : Int32) (0 : Int32) ∧ ∀ (x_3 : Int32) (x_4 : Int32) (x_5 : Int32), I_2 x_3 x_4 x_5 → ((p1 ≤ x_5 → ((x_4 = 0 → post (0 : Int32)) ∧ (¬ x_4 = 0 → ((¬ x_3 = 0 → post (0 : Int32)) ∧ (x_3 = 0 → post (1 : Int32)))))) ∧ (¬ p1 ≤ x_5 → (vp_in x_5 193 ∧ ((¬ (f_readPage x_5.toNatClampNeg) = (1 : Int32) → (∀ x_10 : Int32, x_10 = (x_3 + (-1 : Int32)) → ((x_4 = 0 → (∀ x_12 : Int32, x_12 = x_5 + (1) → (I_2 x_10 (0 : Int32) x_12 ∧ mu_2 x_10 (0 : Int32) x_12 < mu_2 x_3 x_4 x_5))) ∧ (¬ x_4 = 0 → ((0 < x_10 → (∀ x_14 : Int32, x_14 = x_5 + (1) → (I_2 x_10 (1 : Int32) x_14 ∧ mu_2 x_10 (1 : Int32) x_14 < mu_2 x_3 x_4 x_5))) ∧ (¬ 0 < x_10 → ((¬ x_10 = 0 → (∀ x_16 : Int32, x_16 = x_5 + (1) → (I_2 x_10 (0 : Int32) x_16 ∧ mu_2 x_10 (0 : Int32) x_16 < mu_2 x_3 x_4 x_5))) ∧ (x_10 = 0 → ((¬ x_5 = (p1 - (1 : Int32)) → (∀ x_18 : Int32, x_18 = x_5 + (1) → (I_2 x_10 (0 : Int32) x_18 ∧ mu_2 x_10 (0 : Int32) x_18 < mu_2 x_3 x_4 x_5))) ∧ (x_5 = (p1 - (1 : Int32)) → (∀ x_19 : Int32, x_19 = x_5 + (1) → (I_2 x_10 (1 : Int32) x_19 ∧ mu_2 x_10 (1 : Int32) x_19 < mu_2 x_3 x_4 x_5)))))))))))) ∧ ((f_readPage x_5.toNatClampNeg) = (1 : Int32) → (∀ x_20 : Int32, x_20 = (x_3 + (1 : Int32)) → ((x_4 = 0 → (∀ x_22 : Int32, x_22 = x_5 + (1) → (I_2 x_20 (0 : Int32) x_22 ∧ mu_2 x_20 (0 : Int32) x_22 < mu_2 x_3 x_4 x_5))) ∧ (¬ x_4 = 0 → ((0 < x_20 → (∀ x_24 : Int32, x_24 = x_5 + (1) → (I_2 x_20 (1 : Int32) x_24 ∧ mu_2 x_20 (1 : Int32) x_24 < mu_2 x_3 x_4 x_5))) ∧ (¬ 0 < x_20 → ((¬ x_20 = 0 → (∀ x_26 : Int32, x_26 = x_5 + (1) → (I_2 x_20 (0 : Int32) x_26 ∧ mu_2 x_20 (0 : Int32) x_26 < mu_2 x_3 x_4 x_5))) ∧ (x_20 = 0 → ((¬ x_5 = (p1 - (1 : Int32)) → (∀ x_28 : Int32, x_28 = x_5 + (1) → (I_2 x_20 (0 : Int32) x_28 ∧ mu_2 x_20 (0 : Int32) x_28 < mu_2 x_3 x_4 x_5))) ∧ (x_5 = (p1 - (1 : Int32)) → (∀ x_29 : Int32, x_29 = x_5 + (1) → (I_2 x_20 (1 : Int32) x_29 ∧ mu_2 x_20 (1 : Int32) x_29 < mu_2 x_3 x_4 x_5)))))))))))))))))) ∧ ((p1 - p1 / (2 : Int32) * (2 : Int32)) = 0 → (∃ (I_30 : Int32 → Int32 → Int32 → Prop) (mu_30 : Int32 → Int32 → Int32 → Nat), I_30 (0 : Int32) (1 : Int32) (0 : Int32) ∧ ∀ (x_31 : Int32) (x_32 : Int32) (x_33 : Int32), I_30 x_31 x_32 x_33 → ((p1 ≤ x_33 → ((x_32 = 0 → post (0 : Int32)) ∧ (¬ x_32 = 0 → ((¬ x_31 = 0 → post (0 : Int32)) ∧ (x_31 = 0 → post (1 : Int32)))))) ∧ (¬ p1 ≤ x_33 → (vp_in x_33 193 ∧ ((¬ (f_readPage x_33.toNatClampNeg) = (1 : Int32) → (∀ x_38 : Int32, x_38 = (x_31 + (-1 : Int32)) → ((x_32 = 0 → (∀ x_40 : Int32, x_40 = x_33 + (1) → (I_30 x_38 (0 : Int32) x_40 ∧ mu_30 x_38 (0 : Int32) x_40 < mu_30 x_31 x_32 x_33))) ∧ (¬ x_32 = 0 → ((0 < x_38 → (∀ x_42 : Int32, x_42 = x_33 + (1) → (I_30 x_38 (1 : Int32) x_42 ∧ mu_30 x_38 (1 : Int32) x_42 < mu_30 x_31 x_32 x_33))) ∧ (¬ 0 < x_38 → ((¬ x_38 = 0 → (∀ x_44 : Int32, x_44 = x_33 + (1) → (I_30 x_38 (0 : Int32) x_44 ∧ mu_30 x_38 (0 : Int32) x_44 < mu_30 x_31 x_32 x_33))) ∧ (x_38 = 0 → ((¬ x_33 = (p1 - (1 : Int32)) → (∀ x_46 : Int32, x_46 = x_33 + (1) → (I_30 x_38 (0 : Int32) x_46 ∧ mu_30 x_38 (0 : Int32) x_46 < mu_30 x_31 x_32 x_33))) ∧ (x_33 = (p1 - (1 : Int32)) → (∀ x_47 : Int32, x_47 = x_33 + (1) → (I_30 x_38 (1 : Int32) x_47 ∧ mu_30 x_38 (1 : Int32) x_47 < mu_30 x_31 x_32 x_33)))))))))))) ∧ ((f_readPage x_33.toNatClampNeg) = (1 : Int32) → (∀ x_48 : Int32, x_48 = (x_31 + (1 : Int32)) → ((x_32 = 0 → (∀ x_50 : Int32, x_50 = x_33 + (1) → (I_30 x_48 (0 : Int32) x_50 ∧ mu_30 x_48 (0 : Int32) x_50 < mu_30 x_31 x_32 x_33))) ∧ (¬ x_32 = 0 → ((0 < x_48 → (∀ x_52 : Int32, x_52 = x_33 + (1) → (I_30 x_48 (1 : Int32) x_52 ∧ mu_30 x_48 (1 : Int32) x_52 < mu_30 x_31 x_32 x_33))) ∧ (¬ 0 < x_48 → ((¬ x_48 = 0 → (∀ x_54 : Int32, x_54 = x_33 + (1) → (I_30 x_48 (0 : Int32) x_54 ∧ mu_30 x_48 (0 : Int32) x_54 < mu_30 x_31 x_32 x_33))) ∧ (x_48 = 0 → ((¬ x_33 = (p1 - (1 : Int32)) → (∀ x_56 : Int32, x_56 = x_33 + (1) → (I_30 x_48 (0 : Int32) x_56 ∧ mu_30 x_48 (0 : Int32) x_56 < mu_30 x_31 x_32 x_33))) ∧ (x_33 = (p1 - (1 : Int32)) → (∀ x_57 : Int32, x_57 = x_33 + (1) → (I_30 x_48 (1 : Int32) x_57 ∧ mu_30 x_48 (1 : Int32) x_57 < mu_30 x_31 x_32 x_33)))))))))))))))))))
abbrev rX6_isRow : Room := { frames := 0, cells := 0, slots := 0, locals := 0 }
theorem vX6_isRow : yX6_isRow.cls = RX6 ∧ yX6_isRow.cls ≠ "java/lang/invoke/MethodHandle" ∧ yX6_isRow.cls ≠ "java/lang/invoke/VarHandle" ∧ (parseMethodDescriptor yX6_isRow.desc).map (fun d => d.parameters.length) = some 1 := by decide +kernel
set_option maxHeartbeats 4000000 in
set_option maxRecDepth 100000 in
theorem kX6_isRow (l : Launch) (D : va_G) (cA : Nat → ClassId) (a0 a_state a_readPage a_tape a_cutRow a_cutWeights a_isKept a_lanes a_lengths a_cells : Nat) (f_taped : Int32) (f_fault : Int32) (f_broken : Int32) (f_brokenAt : Int32) (f_spot : Int32) (f_here : Int32) (f_token : Int32) (f_value : Int32) (f_torn : Int32) (f_state : Nat → Int32) (f_readPage : Nat → Int32) (f_tape : Nat → Int32) (f_cutRow : Nat → Int32) (f_cutWeights : Nat → Int32) (f_isKept : Nat → Int32) (f_lanes : Nat → Int32) (f_lengths : Nat → Int32) (f_cells : Nat → Int64) (p1 : Int32) (post : Int32 → Prop) (h : wX6_isRow f_readPage p1 post) : Met l yX6_isRow wsX6_isRow rX6_isRow (zPr D cA [.ref a0, .int p1] [(a0, .inr (5, [.ref a_state, .ref a_readPage, .ref a_tape, .int f_taped, .int f_fault, .int f_broken, .int f_brokenAt, .int f_spot, .int f_here, .int f_token, .int f_value, .ref a_cutRow, .ref a_cutWeights, .ref a_isKept, .ref a_lanes, .ref a_lengths, .ref a_cells, .int f_torn])), (a_state, .inl (cA 0, 579, .inl f_state)), (a_readPage, .inl (cA 0, 193, .inl f_readPage)), (a_tape, .inl (cA 0, 160, .inl f_tape)), (a_cutRow, .inl (cA 0, 128, .inl f_cutRow)), (a_cutWeights, .inl (cA 0, 64, .inl f_cutWeights)), (a_isKept, .inl (cA 3, 2, .inl f_isKept)), (a_lanes, .inl (cA 0, 4, .inl f_lanes)), (a_lengths, .inl (cA 0, 4, .inl f_lengths)), (a_cells, .inl (cA 1, 160, .inr (.inl f_cells)))]) (vp_Si post) 0 0 (fun _ => False) := by
  refine z_ro (cc := cX6_isRow) (maxL := 5) (ret := (some .boolean)) (by decide) rfl (Nat.le_of_ble_eq_true rfl) ?_
  intro p e s m args below meth c ls hx hb hr hlk hml hown hts hK hP hl
  have hown : s.vm.findClass RX6 = some m.cls := hown
  have hl : lv_has ls 5 [(0, .ref a0), (1, .int p1)] := hl
  have hw := h
  unfold wX6_isRow at hw
  have iwX6 : ∀ w ∈ wsX60, w ∈ wsX6_isRow := fun w h9 => List.mem_cons_of_mem _ (List.mem_append_right _ h9)
  have kf13 := hts (.fieldLink RX6 13 "ExcessTreeModel" "readPage" "[I") (by decide +kernel)
  refine lv_iconst (v := 0) hx hb dX6_isRow_0 (by decide) ?_
  refine lv_istore_n (lv' := [(2, .int (0 : Int32)), (0, .ref a0), (1, .int p1)]) hx hb dX6_isRow_1 rfl hl (by decide) rfl (fun ls hl => ?_)
  refine lv_iload_n hx hb dX6_isRow_2 rfl (lv_at hl 2 rfl) ?_
  refine lv_iconst (v := 2) hx hb dX6_isRow_3 (by decide) ?_
  refine lv_irem hx hb dX6_isRow_4 (by decide) ?_
  refine lv_if_ne (tgt := 12) hx hb dX6_isRow_5 (by decide) (fun c_1 => ?_) (fun c_1 => ?_)
  · have hw := hw.1 c_1
    refine lv_iconst (v := 0) hx hb dX6_isRow_12 (by decide) ?_
    refine lv_istore_n (lv' := [(3, .int (0 : Int32)), (2, .int (0 : Int32)), (0, .ref a0), (1, .int p1)]) hx hb dX6_isRow_13 rfl hl (by decide) rfl (fun ls hl => ?_)
    refine lv_iconst (v := 0) hx hb dX6_isRow_14 (by decide) ?_
    refine lv_istore (lv' := [(4, .int (0 : Int32)), (3, .int (0 : Int32)), (2, .int (0 : Int32)), (0, .ref a0), (1, .int p1)]) hx hb dX6_isRow_15 hl (by decide) rfl (fun ls hl => ?_)
    obtain ⟨I_2, mu_2, hI_2, hw⟩ := hw
    have lp_2 : ∀ (nn : Nat) (x_3 : Int32) (x_4 : Int32) (x_5 : Int32) (ls : Array Slot), mu_2 x_3 x_4 x_5 < nn → I_2 x_3 x_4 x_5 → lv_has ls 5 [(0, .ref a0), (1, .int p1), (2, .int x_3), (3, .int x_4), (4, .int x_5)] → W p l e rX6_isRow s m args below meth c s.heap [] 0 0 (MQ below (vp_Si post) args s 0 0 (fun _ => False)) (F0 m 17 ls []) := by
      intro nn
      induction nn with
      | zero => exact fun _ _ _ _ h0 => absurd h0 (Nat.not_lt_zero _)
      | succ nn ih_2 =>
        intro x_3 x_4 x_5 ls hmu_2 hI_2 hl
        have hw := hw x_3 x_4 x_5 hI_2
        refine lv_iload hx hb dX6_isRow_17 (lv_at hl 4 rfl) ?_
        refine lv_iload_n hx hb dX6_isRow_19 rfl (lv_at hl 1 rfl) ?_
        refine lv_icmp_ge (tgt := 74) hx hb dX6_isRow_20 (by decide) (fun c_6 => ?_) (fun c_6 => ?_)
        · have hw := hw.1 c_6
          refine lv_iload_n hx hb dX6_isRow_74 rfl (lv_at hl 3 rfl) ?_
          refine lv_if_eq (tgt := 86) hx hb dX6_isRow_75 (by decide) (fun c_7 => ?_) (fun c_7 => ?_)
          · have hw := hw.1 c_7
            refine lv_iconst (v := 0) hx hb dX6_isRow_86 (by decide) ?_
            exact z_zret hx hb hr hlk rfl hw dX6_isRow_87
          · have hw := hw.2 c_7
            refine lv_iload_n hx hb dX6_isRow_78 rfl (lv_at hl 2 rfl) ?_
            refine lv_if_ne (tgt := 86) hx hb dX6_isRow_79 (by decide) (fun c_8 => ?_) (fun c_8 => ?_)
            · have hw := hw.1 c_8
              refine lv_iconst (v := 0) hx hb dX6_isRow_86 (by decide) ?_
              exact z_zret hx hb hr hlk rfl hw dX6_isRow_87
            · have hw := hw.2 c_8
              refine lv_iconst (v := 1) hx hb dX6_isRow_82 (by decide) ?_
              refine lv_goto (tgt := 87) hx hb dX6_isRow_83 (by decide) ?_
              exact z_zret hx hb hr hlk rfl hw dX6_isRow_87
        · have hw := hw.2 c_6
          refine lv_iload_n hx hb dX6_isRow_23 rfl (lv_at hl 2 rfl) ?_
          refine lv_aload_n hx hb dX6_isRow_24 rfl (lv_at hl 0 rfl) ?_
          refine va_get (D := D) (ci := 5) (v := .ref a_readPage) (C := RX6) (T := TX6) (N := 18) hx hb hts iwX6 hown hK.1 hP 0 rfl rfl 1 (by decide) kf13 (fun _ h9 => h9) rfl dX6_isRow_25 ?_
          refine lv_iload hx hb dX6_isRow_28 (lv_at hl 4 rfl) ?_
          have hq := hw.1
          have hw := hw.2
          refine va_iald hx hb hK.1 hP 2 0 rfl rfl hq dX6_isRow_30 ?_
          refine lv_iconst (v := 1) hx hb dX6_isRow_31 (by decide) ?_
          refine lv_icmp_ne (tgt := 39) hx hb dX6_isRow_32 (by decide) (fun c_9 => ?_) (fun c_9 => ?_)
          · have hw := hw.1 c_9
            refine lv_iconst (v := -1) hx hb dX6_isRow_39 (by decide) ?_
            refine lv_iadd hx hb dX6_isRow_40 ?_
            refine lv_topi (fun x_10 ex_10 => ?_)
            have hw := hw x_10 ex_10
            refine lv_istore_n (lv' := [(2, .int x_10), (0, .ref a0), (1, .int p1), (3, .int x_4), (4, .int x_5)]) hx hb dX6_isRow_41 rfl hl (by decide) rfl (fun ls hl => ?_)
            refine lv_iload_n hx hb dX6_isRow_42 rfl (lv_at hl 3 rfl) ?_
            refine lv_if_eq (tgt := 66) hx hb dX6_isRow_43 (by decide) (fun c_11 => ?_) (fun c_11 => ?_)
            · have hw := hw.1 c_11
              refine lv_iconst (v := 0) hx hb dX6_isRow_66 (by decide) ?_
              refine lv_istore_n (lv' := [(3, .int (0 : Int32)), (2, .int x_10), (0, .ref a0), (1, .int p1), (4, .int x_5)]) hx hb dX6_isRow_67 rfl hl (by decide) rfl (fun ls hl => ?_)
              obtain ⟨x_12, ex_12⟩ : ∃ y : Int32, y = x_5 + (1) := ⟨_, rfl⟩
              have hw := hw x_12 ex_12
              refine lv_iinc (v := x_12) (lv' := [(4, .int x_12), (3, .int (0 : Int32)), (2, .int x_10), (0, .ref a0), (1, .int p1)]) hx hb dX6_isRow_68 hl (k := 4) rfl (by rw [ex_12]; rfl) (by decide) rfl (fun ls hl => ?_)
              refine lv_goto (tgt := 17) hx hb dX6_isRow_71 (by decide) ?_
              exact ih_2 x_10 (0 : Int32) x_12 ls (Nat.lt_of_lt_of_le hw.2 (Nat.le_of_lt_succ hmu_2)) hw.1 (lv_sub hl [3, 4, 2, 1, 0] rfl)
            · have hw := hw.2 c_11
              refine lv_iload_n hx hb dX6_isRow_46 rfl (lv_at hl 0 rfl) ?_
              refine lv_if_gt (tgt := 62) hx hb dX6_isRow_47 (by decide) (fun c_13 => ?_) (fun c_13 => ?_)
              · have hw := hw.1 c_13
                refine lv_iconst (v := 1) hx hb dX6_isRow_62 (by decide) ?_
                refine lv_goto (tgt := 67) hx hb dX6_isRow_63 (by decide) ?_
                refine lv_istore_n (lv' := [(3, .int (1 : Int32)), (2, .int x_10), (0, .ref a0), (1, .int p1), (4, .int x_5)]) hx hb dX6_isRow_67 rfl hl (by decide) rfl (fun ls hl => ?_)
                obtain ⟨x_14, ex_14⟩ : ∃ y : Int32, y = x_5 + (1) := ⟨_, rfl⟩
                have hw := hw x_14 ex_14
                refine lv_iinc (v := x_14) (lv' := [(4, .int x_14), (3, .int (1 : Int32)), (2, .int x_10), (0, .ref a0), (1, .int p1)]) hx hb dX6_isRow_68 hl (k := 4) rfl (by rw [ex_14]; rfl) (by decide) rfl (fun ls hl => ?_)
                refine lv_goto (tgt := 17) hx hb dX6_isRow_71 (by decide) ?_
                exact ih_2 x_10 (1 : Int32) x_14 ls (Nat.lt_of_lt_of_le hw.2 (Nat.le_of_lt_succ hmu_2)) hw.1 (lv_sub hl [3, 4, 2, 1, 0] rfl)
              · have hw := hw.2 c_13
                refine lv_iload_n hx hb dX6_isRow_50 rfl (lv_at hl 0 rfl) ?_
                refine lv_if_ne (tgt := 66) hx hb dX6_isRow_51 (by decide) (fun c_15 => ?_) (fun c_15 => ?_)
                · have hw := hw.1 c_15
                  refine lv_iconst (v := 0) hx hb dX6_isRow_66 (by decide) ?_
                  refine lv_istore_n (lv' := [(3, .int (0 : Int32)), (2, .int x_10), (0, .ref a0), (1, .int p1), (4, .int x_5)]) hx hb dX6_isRow_67 rfl hl (by decide) rfl (fun ls hl => ?_)
                  obtain ⟨x_16, ex_16⟩ : ∃ y : Int32, y = x_5 + (1) := ⟨_, rfl⟩
                  have hw := hw x_16 ex_16
                  refine lv_iinc (v := x_16) (lv' := [(4, .int x_16), (3, .int (0 : Int32)), (2, .int x_10), (0, .ref a0), (1, .int p1)]) hx hb dX6_isRow_68 hl (k := 4) rfl (by rw [ex_16]; rfl) (by decide) rfl (fun ls hl => ?_)
                  refine lv_goto (tgt := 17) hx hb dX6_isRow_71 (by decide) ?_
                  exact ih_2 x_10 (0 : Int32) x_16 ls (Nat.lt_of_lt_of_le hw.2 (Nat.le_of_lt_succ hmu_2)) hw.1 (lv_sub hl [3, 4, 2, 1, 0] rfl)
                · have hw := hw.2 c_15
                  refine lv_iload hx hb dX6_isRow_54 (lv_at hl 4 rfl) ?_
                  refine lv_iload_n hx hb dX6_isRow_56 rfl (lv_at hl 2 rfl) ?_
                  refine lv_iconst (v := 1) hx hb dX6_isRow_57 (by decide) ?_
                  refine lv_isub hx hb dX6_isRow_58 ?_
                  refine lv_icmp_ne (tgt := 66) hx hb dX6_isRow_59 (by decide) (fun c_17 => ?_) (fun c_17 => ?_)
                  · have hw := hw.1 c_17
                    refine lv_iconst (v := 0) hx hb dX6_isRow_66 (by decide) ?_
                    refine lv_istore_n (lv' := [(3, .int (0 : Int32)), (2, .int x_10), (0, .ref a0), (1, .int p1), (4, .int x_5)]) hx hb dX6_isRow_67 rfl hl (by decide) rfl (fun ls hl => ?_)
                    obtain ⟨x_18, ex_18⟩ : ∃ y : Int32, y = x_5 + (1) := ⟨_, rfl⟩
                    have hw := hw x_18 ex_18
                    refine lv_iinc (v := x_18) (lv' := [(4, .int x_18), (3, .int (0 : Int32)), (2, .int x_10), (0, .ref a0), (1, .int p1)]) hx hb dX6_isRow_68 hl (k := 4) rfl (by rw [ex_18]; rfl) (by decide) rfl (fun ls hl => ?_)
                    refine lv_goto (tgt := 17) hx hb dX6_isRow_71 (by decide) ?_
                    exact ih_2 x_10 (0 : Int32) x_18 ls (Nat.lt_of_lt_of_le hw.2 (Nat.le_of_lt_succ hmu_2)) hw.1 (lv_sub hl [3, 4, 2, 1, 0] rfl)
                  · have hw := hw.2 c_17
                    refine lv_iconst (v := 1) hx hb dX6_isRow_62 (by decide) ?_
                    refine lv_goto (tgt := 67) hx hb dX6_isRow_63 (by decide) ?_
                    refine lv_istore_n (lv' := [(3, .int (1 : Int32)), (2, .int x_10), (0, .ref a0), (1, .int p1), (4, .int x_5)]) hx hb dX6_isRow_67 rfl hl (by decide) rfl (fun ls hl => ?_)
                    obtain ⟨x_19, ex_19⟩ : ∃ y : Int32, y = x_5 + (1) := ⟨_, rfl⟩
                    have hw := hw x_19 ex_19
                    refine lv_iinc (v := x_19) (lv' := [(4, .int x_19), (3, .int (1 : Int32)), (2, .int x_10), (0, .ref a0), (1, .int p1)]) hx hb dX6_isRow_68 hl (k := 4) rfl (by rw [ex_19]; rfl) (by decide) rfl (fun ls hl => ?_)
                    refine lv_goto (tgt := 17) hx hb dX6_isRow_71 (by decide) ?_
                    exact ih_2 x_10 (1 : Int32) x_19 ls (Nat.lt_of_lt_of_le hw.2 (Nat.le_of_lt_succ hmu_2)) hw.1 (lv_sub hl [3, 4, 2, 1, 0] rfl)
          · have hw := hw.2 c_9
            refine lv_iconst (v := 1) hx hb dX6_isRow_35 (by decide) ?_
            refine lv_goto (tgt := 40) hx hb dX6_isRow_36 (by decide) ?_
            refine lv_iadd hx hb dX6_isRow_40 ?_
            refine lv_topi (fun x_20 ex_20 => ?_)
            have hw := hw x_20 ex_20
            refine lv_istore_n (lv' := [(2, .int x_20), (0, .ref a0), (1, .int p1), (3, .int x_4), (4, .int x_5)]) hx hb dX6_isRow_41 rfl hl (by decide) rfl (fun ls hl => ?_)
            refine lv_iload_n hx hb dX6_isRow_42 rfl (lv_at hl 3 rfl) ?_
            refine lv_if_eq (tgt := 66) hx hb dX6_isRow_43 (by decide) (fun c_21 => ?_) (fun c_21 => ?_)
            · have hw := hw.1 c_21
              refine lv_iconst (v := 0) hx hb dX6_isRow_66 (by decide) ?_
              refine lv_istore_n (lv' := [(3, .int (0 : Int32)), (2, .int x_20), (0, .ref a0), (1, .int p1), (4, .int x_5)]) hx hb dX6_isRow_67 rfl hl (by decide) rfl (fun ls hl => ?_)
              obtain ⟨x_22, ex_22⟩ : ∃ y : Int32, y = x_5 + (1) := ⟨_, rfl⟩
              have hw := hw x_22 ex_22
              refine lv_iinc (v := x_22) (lv' := [(4, .int x_22), (3, .int (0 : Int32)), (2, .int x_20), (0, .ref a0), (1, .int p1)]) hx hb dX6_isRow_68 hl (k := 4) rfl (by rw [ex_22]; rfl) (by decide) rfl (fun ls hl => ?_)
              refine lv_goto (tgt := 17) hx hb dX6_isRow_71 (by decide) ?_
              exact ih_2 x_20 (0 : Int32) x_22 ls (Nat.lt_of_lt_of_le hw.2 (Nat.le_of_lt_succ hmu_2)) hw.1 (lv_sub hl [3, 4, 2, 1, 0] rfl)
            · have hw := hw.2 c_21
              refine lv_iload_n hx hb dX6_isRow_46 rfl (lv_at hl 0 rfl) ?_
              refine lv_if_gt (tgt := 62) hx hb dX6_isRow_47 (by decide) (fun c_23 => ?_) (fun c_23 => ?_)
              · have hw := hw.1 c_23
                refine lv_iconst (v := 1) hx hb dX6_isRow_62 (by decide) ?_
                refine lv_goto (tgt := 67) hx hb dX6_isRow_63 (by decide) ?_
                refine lv_istore_n (lv' := [(3, .int (1 : Int32)), (2, .int x_20), (0, .ref a0), (1, .int p1), (4, .int x_5)]) hx hb dX6_isRow_67 rfl hl (by decide) rfl (fun ls hl => ?_)
                obtain ⟨x_24, ex_24⟩ : ∃ y : Int32, y = x_5 + (1) := ⟨_, rfl⟩
                have hw := hw x_24 ex_24
                refine lv_iinc (v := x_24) (lv' := [(4, .int x_24), (3, .int (1 : Int32)), (2, .int x_20), (0, .ref a0), (1, .int p1)]) hx hb dX6_isRow_68 hl (k := 4) rfl (by rw [ex_24]; rfl) (by decide) rfl (fun ls hl => ?_)
                refine lv_goto (tgt := 17) hx hb dX6_isRow_71 (by decide) ?_
                exact ih_2 x_20 (1 : Int32) x_24 ls (Nat.lt_of_lt_of_le hw.2 (Nat.le_of_lt_succ hmu_2)) hw.1 (lv_sub hl [3, 4, 2, 1, 0] rfl)
              · have hw := hw.2 c_23
                refine lv_iload_n hx hb dX6_isRow_50 rfl (lv_at hl 0 rfl) ?_
                refine lv_if_ne (tgt := 66) hx hb dX6_isRow_51 (by decide) (fun c_25 => ?_) (fun c_25 => ?_)
                · have hw := hw.1 c_25
                  refine lv_iconst (v := 0) hx hb dX6_isRow_66 (by decide) ?_
                  refine lv_istore_n (lv' := [(3, .int (0 : Int32)), (2, .int x_20), (0, .ref a0), (1, .int p1), (4, .int x_5)]) hx hb dX6_isRow_67 rfl hl (by decide) rfl (fun ls hl => ?_)
                  obtain ⟨x_26, ex_26⟩ : ∃ y : Int32, y = x_5 + (1) := ⟨_, rfl⟩
                  have hw := hw x_26 ex_26
                  refine lv_iinc (v := x_26) (lv' := [(4, .int x_26), (3, .int (0 : Int32)), (2, .int x_20), (0, .ref a0), (1, .int p1)]) hx hb dX6_isRow_68 hl (k := 4) rfl (by rw [ex_26]; rfl) (by decide) rfl (fun ls hl => ?_)
                  refine lv_goto (tgt := 17) hx hb dX6_isRow_71 (by decide) ?_
                  exact ih_2 x_20 (0 : Int32) x_26 ls (Nat.lt_of_lt_of_le hw.2 (Nat.le_of_lt_succ hmu_2)) hw.1 (lv_sub hl [3, 4, 2, 1, 0] rfl)
                · have hw := hw.2 c_25
                  refine lv_iload hx hb dX6_isRow_54 (lv_at hl 4 rfl) ?_
                  refine lv_iload_n hx hb dX6_isRow_56 rfl (lv_at hl 2 rfl) ?_
                  refine lv_iconst (v := 1) hx hb dX6_isRow_57 (by decide) ?_
                  refine lv_isub hx hb dX6_isRow_58 ?_
                  refine lv_icmp_ne (tgt := 66) hx hb dX6_isRow_59 (by decide) (fun c_27 => ?_) (fun c_27 => ?_)
                  · have hw := hw.1 c_27
                    refine lv_iconst (v := 0) hx hb dX6_isRow_66 (by decide) ?_
                    refine lv_istore_n (lv' := [(3, .int (0 : Int32)), (2, .int x_20), (0, .ref a0), (1, .int p1), (4, .int x_5)]) hx hb dX6_isRow_67 rfl hl (by decide) rfl (fun ls hl => ?_)
                    obtain ⟨x_28, ex_28⟩ : ∃ y : Int32, y = x_5 + (1) := ⟨_, rfl⟩
                    have hw := hw x_28 ex_28
                    refine lv_iinc (v := x_28) (lv' := [(4, .int x_28), (3, .int (0 : Int32)), (2, .int x_20), (0, .ref a0), (1, .int p1)]) hx hb dX6_isRow_68 hl (k := 4) rfl (by rw [ex_28]; rfl) (by decide) rfl (fun ls hl => ?_)
                    refine lv_goto (tgt := 17) hx hb dX6_isRow_71 (by decide) ?_
                    exact ih_2 x_20 (0 : Int32) x_28 ls (Nat.lt_of_lt_of_le hw.2 (Nat.le_of_lt_succ hmu_2)) hw.1 (lv_sub hl [3, 4, 2, 1, 0] rfl)
                  · have hw := hw.2 c_27
                    refine lv_iconst (v := 1) hx hb dX6_isRow_62 (by decide) ?_
                    refine lv_goto (tgt := 67) hx hb dX6_isRow_63 (by decide) ?_
                    refine lv_istore_n (lv' := [(3, .int (1 : Int32)), (2, .int x_20), (0, .ref a0), (1, .int p1), (4, .int x_5)]) hx hb dX6_isRow_67 rfl hl (by decide) rfl (fun ls hl => ?_)
                    obtain ⟨x_29, ex_29⟩ : ∃ y : Int32, y = x_5 + (1) := ⟨_, rfl⟩
                    have hw := hw x_29 ex_29
                    refine lv_iinc (v := x_29) (lv' := [(4, .int x_29), (3, .int (1 : Int32)), (2, .int x_20), (0, .ref a0), (1, .int p1)]) hx hb dX6_isRow_68 hl (k := 4) rfl (by rw [ex_29]; rfl) (by decide) rfl (fun ls hl => ?_)
                    refine lv_goto (tgt := 17) hx hb dX6_isRow_71 (by decide) ?_
                    exact ih_2 x_20 (1 : Int32) x_29 ls (Nat.lt_of_lt_of_le hw.2 (Nat.le_of_lt_succ hmu_2)) hw.1 (lv_sub hl [3, 4, 2, 1, 0] rfl)
    exact lp_2 (mu_2 (0 : Int32) (0 : Int32) (0 : Int32) + 1) (0 : Int32) (0 : Int32) (0 : Int32) ls (Nat.lt_succ_self _) hI_2 (lv_sub hl [3, 4, 2, 1, 0] rfl)
  · have hw := hw.2 c_1
    refine lv_iconst (v := 1) hx hb dX6_isRow_8 (by decide) ?_
    refine lv_goto (tgt := 13) hx hb dX6_isRow_9 (by decide) ?_
    refine lv_istore_n (lv' := [(3, .int (1 : Int32)), (2, .int (0 : Int32)), (0, .ref a0), (1, .int p1)]) hx hb dX6_isRow_13 rfl hl (by decide) rfl (fun ls hl => ?_)
    refine lv_iconst (v := 0) hx hb dX6_isRow_14 (by decide) ?_
    refine lv_istore (lv' := [(4, .int (0 : Int32)), (3, .int (1 : Int32)), (2, .int (0 : Int32)), (0, .ref a0), (1, .int p1)]) hx hb dX6_isRow_15 hl (by decide) rfl (fun ls hl => ?_)
    obtain ⟨I_30, mu_30, hI_30, hw⟩ := hw
    have lp_30 : ∀ (nn : Nat) (x_31 : Int32) (x_32 : Int32) (x_33 : Int32) (ls : Array Slot), mu_30 x_31 x_32 x_33 < nn → I_30 x_31 x_32 x_33 → lv_has ls 5 [(0, .ref a0), (1, .int p1), (2, .int x_31), (3, .int x_32), (4, .int x_33)] → W p l e rX6_isRow s m args below meth c s.heap [] 0 0 (MQ below (vp_Si post) args s 0 0 (fun _ => False)) (F0 m 17 ls []) := by
      intro nn
      induction nn with
      | zero => exact fun _ _ _ _ h0 => absurd h0 (Nat.not_lt_zero _)
      | succ nn ih_30 =>
        intro x_31 x_32 x_33 ls hmu_30 hI_30 hl
        have hw := hw x_31 x_32 x_33 hI_30
        refine lv_iload hx hb dX6_isRow_17 (lv_at hl 4 rfl) ?_
        refine lv_iload_n hx hb dX6_isRow_19 rfl (lv_at hl 1 rfl) ?_
        refine lv_icmp_ge (tgt := 74) hx hb dX6_isRow_20 (by decide) (fun c_34 => ?_) (fun c_34 => ?_)
        · have hw := hw.1 c_34
          refine lv_iload_n hx hb dX6_isRow_74 rfl (lv_at hl 3 rfl) ?_
          refine lv_if_eq (tgt := 86) hx hb dX6_isRow_75 (by decide) (fun c_35 => ?_) (fun c_35 => ?_)
          · have hw := hw.1 c_35
            refine lv_iconst (v := 0) hx hb dX6_isRow_86 (by decide) ?_
            exact z_zret hx hb hr hlk rfl hw dX6_isRow_87
          · have hw := hw.2 c_35
            refine lv_iload_n hx hb dX6_isRow_78 rfl (lv_at hl 2 rfl) ?_
            refine lv_if_ne (tgt := 86) hx hb dX6_isRow_79 (by decide) (fun c_36 => ?_) (fun c_36 => ?_)
            · have hw := hw.1 c_36
              refine lv_iconst (v := 0) hx hb dX6_isRow_86 (by decide) ?_
              exact z_zret hx hb hr hlk rfl hw dX6_isRow_87
            · have hw := hw.2 c_36
              refine lv_iconst (v := 1) hx hb dX6_isRow_82 (by decide) ?_
              refine lv_goto (tgt := 87) hx hb dX6_isRow_83 (by decide) ?_
              exact z_zret hx hb hr hlk rfl hw dX6_isRow_87
        · have hw := hw.2 c_34
          refine lv_iload_n hx hb dX6_isRow_23 rfl (lv_at hl 2 rfl) ?_
          refine lv_aload_n hx hb dX6_isRow_24 rfl (lv_at hl 0 rfl) ?_
          refine va_get (D := D) (ci := 5) (v := .ref a_readPage) (C := RX6) (T := TX6) (N := 18) hx hb hts iwX6 hown hK.1 hP 0 rfl rfl 1 (by decide) kf13 (fun _ h9 => h9) rfl dX6_isRow_25 ?_
          refine lv_iload hx hb dX6_isRow_28 (lv_at hl 4 rfl) ?_
          have hq := hw.1
          have hw := hw.2
          refine va_iald hx hb hK.1 hP 2 0 rfl rfl hq dX6_isRow_30 ?_
          refine lv_iconst (v := 1) hx hb dX6_isRow_31 (by decide) ?_
          refine lv_icmp_ne (tgt := 39) hx hb dX6_isRow_32 (by decide) (fun c_37 => ?_) (fun c_37 => ?_)
          · have hw := hw.1 c_37
            refine lv_iconst (v := -1) hx hb dX6_isRow_39 (by decide) ?_
            refine lv_iadd hx hb dX6_isRow_40 ?_
            refine lv_topi (fun x_38 ex_38 => ?_)
            have hw := hw x_38 ex_38
            refine lv_istore_n (lv' := [(2, .int x_38), (0, .ref a0), (1, .int p1), (3, .int x_32), (4, .int x_33)]) hx hb dX6_isRow_41 rfl hl (by decide) rfl (fun ls hl => ?_)
            refine lv_iload_n hx hb dX6_isRow_42 rfl (lv_at hl 3 rfl) ?_
            refine lv_if_eq (tgt := 66) hx hb dX6_isRow_43 (by decide) (fun c_39 => ?_) (fun c_39 => ?_)
            · have hw := hw.1 c_39
              refine lv_iconst (v := 0) hx hb dX6_isRow_66 (by decide) ?_
              refine lv_istore_n (lv' := [(3, .int (0 : Int32)), (2, .int x_38), (0, .ref a0), (1, .int p1), (4, .int x_33)]) hx hb dX6_isRow_67 rfl hl (by decide) rfl (fun ls hl => ?_)
              obtain ⟨x_40, ex_40⟩ : ∃ y : Int32, y = x_33 + (1) := ⟨_, rfl⟩
              have hw := hw x_40 ex_40
              refine lv_iinc (v := x_40) (lv' := [(4, .int x_40), (3, .int (0 : Int32)), (2, .int x_38), (0, .ref a0), (1, .int p1)]) hx hb dX6_isRow_68 hl (k := 4) rfl (by rw [ex_40]; rfl) (by decide) rfl (fun ls hl => ?_)
              refine lv_goto (tgt := 17) hx hb dX6_isRow_71 (by decide) ?_
              exact ih_30 x_38 (0 : Int32) x_40 ls (Nat.lt_of_lt_of_le hw.2 (Nat.le_of_lt_succ hmu_30)) hw.1 (lv_sub hl [3, 4, 2, 1, 0] rfl)
            · have hw := hw.2 c_39
              refine lv_iload_n hx hb dX6_isRow_46 rfl (lv_at hl 0 rfl) ?_
              refine lv_if_gt (tgt := 62) hx hb dX6_isRow_47 (by decide) (fun c_41 => ?_) (fun c_41 => ?_)
              · have hw := hw.1 c_41
                refine lv_iconst (v := 1) hx hb dX6_isRow_62 (by decide) ?_
                refine lv_goto (tgt := 67) hx hb dX6_isRow_63 (by decide) ?_
                refine lv_istore_n (lv' := [(3, .int (1 : Int32)), (2, .int x_38), (0, .ref a0), (1, .int p1), (4, .int x_33)]) hx hb dX6_isRow_67 rfl hl (by decide) rfl (fun ls hl => ?_)
                obtain ⟨x_42, ex_42⟩ : ∃ y : Int32, y = x_33 + (1) := ⟨_, rfl⟩
                have hw := hw x_42 ex_42
                refine lv_iinc (v := x_42) (lv' := [(4, .int x_42), (3, .int (1 : Int32)), (2, .int x_38), (0, .ref a0), (1, .int p1)]) hx hb dX6_isRow_68 hl (k := 4) rfl (by rw [ex_42]; rfl) (by decide) rfl (fun ls hl => ?_)
                refine lv_goto (tgt := 17) hx hb dX6_isRow_71 (by decide) ?_
                exact ih_30 x_38 (1 : Int32) x_42 ls (Nat.lt_of_lt_of_le hw.2 (Nat.le_of_lt_succ hmu_30)) hw.1 (lv_sub hl [3, 4, 2, 1, 0] rfl)
              · have hw := hw.2 c_41
                refine lv_iload_n hx hb dX6_isRow_50 rfl (lv_at hl 0 rfl) ?_
                refine lv_if_ne (tgt := 66) hx hb dX6_isRow_51 (by decide) (fun c_43 => ?_) (fun c_43 => ?_)
                · have hw := hw.1 c_43
                  refine lv_iconst (v := 0) hx hb dX6_isRow_66 (by decide) ?_
                  refine lv_istore_n (lv' := [(3, .int (0 : Int32)), (2, .int x_38), (0, .ref a0), (1, .int p1), (4, .int x_33)]) hx hb dX6_isRow_67 rfl hl (by decide) rfl (fun ls hl => ?_)
                  obtain ⟨x_44, ex_44⟩ : ∃ y : Int32, y = x_33 + (1) := ⟨_, rfl⟩
                  have hw := hw x_44 ex_44
                  refine lv_iinc (v := x_44) (lv' := [(4, .int x_44), (3, .int (0 : Int32)), (2, .int x_38), (0, .ref a0), (1, .int p1)]) hx hb dX6_isRow_68 hl (k := 4) rfl (by rw [ex_44]; rfl) (by decide) rfl (fun ls hl => ?_)
                  refine lv_goto (tgt := 17) hx hb dX6_isRow_71 (by decide) ?_
                  exact ih_30 x_38 (0 : Int32) x_44 ls (Nat.lt_of_lt_of_le hw.2 (Nat.le_of_lt_succ hmu_30)) hw.1 (lv_sub hl [3, 4, 2, 1, 0] rfl)
                · have hw := hw.2 c_43
                  refine lv_iload hx hb dX6_isRow_54 (lv_at hl 4 rfl) ?_
                  refine lv_iload_n hx hb dX6_isRow_56 rfl (lv_at hl 2 rfl) ?_
                  refine lv_iconst (v := 1) hx hb dX6_isRow_57 (by decide) ?_
                  refine lv_isub hx hb dX6_isRow_58 ?_
                  refine lv_icmp_ne (tgt := 66) hx hb dX6_isRow_59 (by decide) (fun c_45 => ?_) (fun c_45 => ?_)
                  · have hw := hw.1 c_45
                    refine lv_iconst (v := 0) hx hb dX6_isRow_66 (by decide) ?_
                    refine lv_istore_n (lv' := [(3, .int (0 : Int32)), (2, .int x_38), (0, .ref a0), (1, .int p1), (4, .int x_33)]) hx hb dX6_isRow_67 rfl hl (by decide) rfl (fun ls hl => ?_)
                    obtain ⟨x_46, ex_46⟩ : ∃ y : Int32, y = x_33 + (1) := ⟨_, rfl⟩
                    have hw := hw x_46 ex_46
                    refine lv_iinc (v := x_46) (lv' := [(4, .int x_46), (3, .int (0 : Int32)), (2, .int x_38), (0, .ref a0), (1, .int p1)]) hx hb dX6_isRow_68 hl (k := 4) rfl (by rw [ex_46]; rfl) (by decide) rfl (fun ls hl => ?_)
                    refine lv_goto (tgt := 17) hx hb dX6_isRow_71 (by decide) ?_
                    exact ih_30 x_38 (0 : Int32) x_46 ls (Nat.lt_of_lt_of_le hw.2 (Nat.le_of_lt_succ hmu_30)) hw.1 (lv_sub hl [3, 4, 2, 1, 0] rfl)
                  · have hw := hw.2 c_45
                    refine lv_iconst (v := 1) hx hb dX6_isRow_62 (by decide) ?_
                    refine lv_goto (tgt := 67) hx hb dX6_isRow_63 (by decide) ?_
                    refine lv_istore_n (lv' := [(3, .int (1 : Int32)), (2, .int x_38), (0, .ref a0), (1, .int p1), (4, .int x_33)]) hx hb dX6_isRow_67 rfl hl (by decide) rfl (fun ls hl => ?_)
                    obtain ⟨x_47, ex_47⟩ : ∃ y : Int32, y = x_33 + (1) := ⟨_, rfl⟩
                    have hw := hw x_47 ex_47
                    refine lv_iinc (v := x_47) (lv' := [(4, .int x_47), (3, .int (1 : Int32)), (2, .int x_38), (0, .ref a0), (1, .int p1)]) hx hb dX6_isRow_68 hl (k := 4) rfl (by rw [ex_47]; rfl) (by decide) rfl (fun ls hl => ?_)
                    refine lv_goto (tgt := 17) hx hb dX6_isRow_71 (by decide) ?_
                    exact ih_30 x_38 (1 : Int32) x_47 ls (Nat.lt_of_lt_of_le hw.2 (Nat.le_of_lt_succ hmu_30)) hw.1 (lv_sub hl [3, 4, 2, 1, 0] rfl)
          · have hw := hw.2 c_37
            refine lv_iconst (v := 1) hx hb dX6_isRow_35 (by decide) ?_
            refine lv_goto (tgt := 40) hx hb dX6_isRow_36 (by decide) ?_
            refine lv_iadd hx hb dX6_isRow_40 ?_
            refine lv_topi (fun x_48 ex_48 => ?_)
            have hw := hw x_48 ex_48
            refine lv_istore_n (lv' := [(2, .int x_48), (0, .ref a0), (1, .int p1), (3, .int x_32), (4, .int x_33)]) hx hb dX6_isRow_41 rfl hl (by decide) rfl (fun ls hl => ?_)
            refine lv_iload_n hx hb dX6_isRow_42 rfl (lv_at hl 3 rfl) ?_
            refine lv_if_eq (tgt := 66) hx hb dX6_isRow_43 (by decide) (fun c_49 => ?_) (fun c_49 => ?_)
            · have hw := hw.1 c_49
              refine lv_iconst (v := 0) hx hb dX6_isRow_66 (by decide) ?_
              refine lv_istore_n (lv' := [(3, .int (0 : Int32)), (2, .int x_48), (0, .ref a0), (1, .int p1), (4, .int x_33)]) hx hb dX6_isRow_67 rfl hl (by decide) rfl (fun ls hl => ?_)
              obtain ⟨x_50, ex_50⟩ : ∃ y : Int32, y = x_33 + (1) := ⟨_, rfl⟩
              have hw := hw x_50 ex_50
              refine lv_iinc (v := x_50) (lv' := [(4, .int x_50), (3, .int (0 : Int32)), (2, .int x_48), (0, .ref a0), (1, .int p1)]) hx hb dX6_isRow_68 hl (k := 4) rfl (by rw [ex_50]; rfl) (by decide) rfl (fun ls hl => ?_)
              refine lv_goto (tgt := 17) hx hb dX6_isRow_71 (by decide) ?_
              exact ih_30 x_48 (0 : Int32) x_50 ls (Nat.lt_of_lt_of_le hw.2 (Nat.le_of_lt_succ hmu_30)) hw.1 (lv_sub hl [3, 4, 2, 1, 0] rfl)
            · have hw := hw.2 c_49
              refine lv_iload_n hx hb dX6_isRow_46 rfl (lv_at hl 0 rfl) ?_
              refine lv_if_gt (tgt := 62) hx hb dX6_isRow_47 (by decide) (fun c_51 => ?_) (fun c_51 => ?_)
              · have hw := hw.1 c_51
                refine lv_iconst (v := 1) hx hb dX6_isRow_62 (by decide) ?_
                refine lv_goto (tgt := 67) hx hb dX6_isRow_63 (by decide) ?_
                refine lv_istore_n (lv' := [(3, .int (1 : Int32)), (2, .int x_48), (0, .ref a0), (1, .int p1), (4, .int x_33)]) hx hb dX6_isRow_67 rfl hl (by decide) rfl (fun ls hl => ?_)
                obtain ⟨x_52, ex_52⟩ : ∃ y : Int32, y = x_33 + (1) := ⟨_, rfl⟩
                have hw := hw x_52 ex_52
                refine lv_iinc (v := x_52) (lv' := [(4, .int x_52), (3, .int (1 : Int32)), (2, .int x_48), (0, .ref a0), (1, .int p1)]) hx hb dX6_isRow_68 hl (k := 4) rfl (by rw [ex_52]; rfl) (by decide) rfl (fun ls hl => ?_)
                refine lv_goto (tgt := 17) hx hb dX6_isRow_71 (by decide) ?_
                exact ih_30 x_48 (1 : Int32) x_52 ls (Nat.lt_of_lt_of_le hw.2 (Nat.le_of_lt_succ hmu_30)) hw.1 (lv_sub hl [3, 4, 2, 1, 0] rfl)
              · have hw := hw.2 c_51
                refine lv_iload_n hx hb dX6_isRow_50 rfl (lv_at hl 0 rfl) ?_
                refine lv_if_ne (tgt := 66) hx hb dX6_isRow_51 (by decide) (fun c_53 => ?_) (fun c_53 => ?_)
                · have hw := hw.1 c_53
                  refine lv_iconst (v := 0) hx hb dX6_isRow_66 (by decide) ?_
                  refine lv_istore_n (lv' := [(3, .int (0 : Int32)), (2, .int x_48), (0, .ref a0), (1, .int p1), (4, .int x_33)]) hx hb dX6_isRow_67 rfl hl (by decide) rfl (fun ls hl => ?_)
                  obtain ⟨x_54, ex_54⟩ : ∃ y : Int32, y = x_33 + (1) := ⟨_, rfl⟩
                  have hw := hw x_54 ex_54
                  refine lv_iinc (v := x_54) (lv' := [(4, .int x_54), (3, .int (0 : Int32)), (2, .int x_48), (0, .ref a0), (1, .int p1)]) hx hb dX6_isRow_68 hl (k := 4) rfl (by rw [ex_54]; rfl) (by decide) rfl (fun ls hl => ?_)
                  refine lv_goto (tgt := 17) hx hb dX6_isRow_71 (by decide) ?_
                  exact ih_30 x_48 (0 : Int32) x_54 ls (Nat.lt_of_lt_of_le hw.2 (Nat.le_of_lt_succ hmu_30)) hw.1 (lv_sub hl [3, 4, 2, 1, 0] rfl)
                · have hw := hw.2 c_53
                  refine lv_iload hx hb dX6_isRow_54 (lv_at hl 4 rfl) ?_
                  refine lv_iload_n hx hb dX6_isRow_56 rfl (lv_at hl 2 rfl) ?_
                  refine lv_iconst (v := 1) hx hb dX6_isRow_57 (by decide) ?_
                  refine lv_isub hx hb dX6_isRow_58 ?_
                  refine lv_icmp_ne (tgt := 66) hx hb dX6_isRow_59 (by decide) (fun c_55 => ?_) (fun c_55 => ?_)
                  · have hw := hw.1 c_55
                    refine lv_iconst (v := 0) hx hb dX6_isRow_66 (by decide) ?_
                    refine lv_istore_n (lv' := [(3, .int (0 : Int32)), (2, .int x_48), (0, .ref a0), (1, .int p1), (4, .int x_33)]) hx hb dX6_isRow_67 rfl hl (by decide) rfl (fun ls hl => ?_)
                    obtain ⟨x_56, ex_56⟩ : ∃ y : Int32, y = x_33 + (1) := ⟨_, rfl⟩
                    have hw := hw x_56 ex_56
                    refine lv_iinc (v := x_56) (lv' := [(4, .int x_56), (3, .int (0 : Int32)), (2, .int x_48), (0, .ref a0), (1, .int p1)]) hx hb dX6_isRow_68 hl (k := 4) rfl (by rw [ex_56]; rfl) (by decide) rfl (fun ls hl => ?_)
                    refine lv_goto (tgt := 17) hx hb dX6_isRow_71 (by decide) ?_
                    exact ih_30 x_48 (0 : Int32) x_56 ls (Nat.lt_of_lt_of_le hw.2 (Nat.le_of_lt_succ hmu_30)) hw.1 (lv_sub hl [3, 4, 2, 1, 0] rfl)
                  · have hw := hw.2 c_55
                    refine lv_iconst (v := 1) hx hb dX6_isRow_62 (by decide) ?_
                    refine lv_goto (tgt := 67) hx hb dX6_isRow_63 (by decide) ?_
                    refine lv_istore_n (lv' := [(3, .int (1 : Int32)), (2, .int x_48), (0, .ref a0), (1, .int p1), (4, .int x_33)]) hx hb dX6_isRow_67 rfl hl (by decide) rfl (fun ls hl => ?_)
                    obtain ⟨x_57, ex_57⟩ : ∃ y : Int32, y = x_33 + (1) := ⟨_, rfl⟩
                    have hw := hw x_57 ex_57
                    refine lv_iinc (v := x_57) (lv' := [(4, .int x_57), (3, .int (1 : Int32)), (2, .int x_48), (0, .ref a0), (1, .int p1)]) hx hb dX6_isRow_68 hl (k := 4) rfl (by rw [ex_57]; rfl) (by decide) rfl (fun ls hl => ?_)
                    refine lv_goto (tgt := 17) hx hb dX6_isRow_71 (by decide) ?_
                    exact ih_30 x_48 (1 : Int32) x_57 ls (Nat.lt_of_lt_of_le hw.2 (Nat.le_of_lt_succ hmu_30)) hw.1 (lv_sub hl [3, 4, 2, 1, 0] rfl)
    exact lp_30 (mu_30 (0 : Int32) (1 : Int32) (0 : Int32) + 1) (0 : Int32) (1 : Int32) (0 : Int32) ls (Nat.lt_succ_self _) hI_30 (lv_sub hl [3, 4, 2, 1, 0] rfl)
def wX6_read (f_state : Nat → Int32) (f_readPage : Nat → Int32) (f_lanes : Nat → Int32) (f_lengths : Nat → Int32) (f_cells : Nat → Int64) (p1 : Int32) (p2 : Int32) (p3 : Int32) (p4 : Int32) (post : Int32 → ((Nat → Int32) × (Nat → Int32)) → Prop) : Prop := (wX6_in ((p1).toInt64) (0 : Int64) (3 : Int64) (fun r_1 : Int32 => (((r_1 = 0 → post (-1 : Int32) (f_state, f_readPage)) ∧ (¬ r_1 = 0 → (wX6_in ((p2).toInt64) (0 : Int64) (2 : Int64) (fun r_3 : Int32 => (((r_3 = 0 → post (-1 : Int32) (f_state, f_readPage)) ∧ (¬ r_3 = 0 → ((p3 < 0 → post (-1 : Int32) (f_state, f_readPage)) ∧ (¬ p3 < 0 → (wX6_in ((p4).toInt64) (0 : Int64) (128 : Int64) (fun r_6 : Int32 => (((¬ r_6 = 0 → (∃ (I_8 : Int32 → (Nat → Int32) → Prop) (mu_8 : Int32 → (Nat → Int32) → Nat), I_8 (0 : Int32) f_readPage ∧ ∀ (x_9 : Int32) (f_readPage_10 : Nat → Int32), I_8 x_9 f_readPage_10 → ((p4 ≤ x_9 → (wX6_isRow f_readPage_10 p4 (fun r_12 : Int32 => (((¬ r_12 = 0 → (∃ (I_14 : Int32 → (Nat → Int32) → Prop) (mu_14 : Int32 → (Nat → Int32) → Nat), I_14 (0 : Int32) f_state ∧ ∀ (x_15 : Int32) (f_state_16 : Nat → Int32), I_14 x_15 f_state_16 → ((p4 ≤ x_15 → (∃ (I_18 : Int32 → (Nat → Int32) → Prop) (mu_18 : Int32 → (Nat → Int32) → Nat), I_18 (0 : Int32) f_state_16 ∧ ∀ (x_19 : Int32) (f_state_20 : Nat → Int32), I_18 x_19 f_state_20 → (((64 : Int32) ≤ x_19 → (∀ x_22 : Int32, x_22 = (p4 / (2 : Int32)) → (vp_in (192 : Int32) 579 ∧ (wX6_many (upd f_state_20 (192 : Int32).toNatClampNeg x_22) (fun r_23 : Int32 => (post r_23 ((upd f_state_20 (192 : Int32).toNatClampNeg x_22), f_readPage_10))))))) ∧ (¬ (64 : Int32) ≤ x_19 → (vp_in ((128 : Int32) + x_19) 579 ∧ (∀ x_24 : Int32, x_24 = x_19 + (1) → (I_18 x_24 (upd f_state_20 ((128 : Int32) + x_19).toNatClampNeg (0 : Int32)) ∧ mu_18 x_24 (upd f_state_20 ((128 : Int32) + x_19).toNatClampNeg (0 : Int32)) < mu_18 x_19 f_state_20))))))) ∧ (¬ p4 ≤ x_15 → (vp_in x_15 193 ∧ (∀ x_25 : Int32, x_25 = (f_readPage_10 x_15.toNatClampNeg) → (vp_in x_15 579 ∧ (∀ x_26 : Int32, x_26 = x_15 + (1) → (I_14 x_26 (upd f_state_16 x_15.toNatClampNeg x_25) ∧ mu_14 x_26 (upd f_state_16 x_15.toNatClampNeg x_25) < mu_14 x_15 f_state_16))))))))) ∧ (r_12 = 0 → post (-2 : Int32) (f_state, f_readPage_10))))))) ∧ (¬ p4 ≤ x_9 → (∀ x_27 : Int64, x_27 = (((p3).toInt64) + ((x_9).toInt64)) → (wX6_foundAt f_lanes f_lengths p1 p2 x_27 (fun r_28 : Int32 => (((r_28 ≤ 0 → (wX6_wide p2 (fun r_30 : Int32 => ((¬ ((r_30).toInt64) = 0 ∧ (vp_in (((40 : Int32) * p1) + (((x_27 / ((r_30).toInt64))).toInt32)) 160 ∧ (wX6_wide p2 (fun r_31 : Int32 => ((¬ ((r_31).toInt64) = 0 ∧ (∀ x_32 : Int32, x_32 = ((((zlshr (f_cells (((40 : Int32) * p1) + (((x_27 / ((r_30).toInt64))).toInt32)).toNatClampNeg) (((x_27 - x_27 / ((r_31).toInt64) * ((r_31).toInt64))).toInt32)) &&& (1 : Int64))).toInt32) → (vp_in x_9 193 ∧ (∀ x_33 : Int32, x_33 = x_9 + (1) → (I_8 x_33 (upd f_readPage_10 x_9.toNatClampNeg x_32) ∧ mu_8 x_33 (upd f_readPage_10 x_9.toNatClampNeg x_32) < mu_8 x_9 f_readPage_10)))))))))))))) ∧ (¬ r_28 ≤ 0 → post ((-10 : Int32) - r_28) (f_state, f_readPage_10))))))))))) ∧ (r_6 = 0 → post (-1 : Int32) (f_state, f_readPage))))))))))))))))))
abbrev rX6_read : Room := { frames := 2, cells := 0, slots := 0, locals := 44 }
theorem vX6_read : yX6_read.cls = RX6 ∧ yX6_read.cls ≠ "java/lang/invoke/MethodHandle" ∧ yX6_read.cls ≠ "java/lang/invoke/VarHandle" ∧ (parseMethodDescriptor yX6_read.desc).map (fun d => d.parameters.length) = some 4 := by decide +kernel
set_option maxHeartbeats 4000000 in
set_option maxRecDepth 100000 in
theorem kX6_read (l : Launch) (D : va_G) (cA : Nat → ClassId) (a0 a_state a_readPage a_tape a_cutRow a_cutWeights a_isKept a_lanes a_lengths a_cells : Nat) (f_taped : Int32) (f_fault : Int32) (f_broken : Int32) (f_brokenAt : Int32) (f_spot : Int32) (f_here : Int32) (f_token : Int32) (f_value : Int32) (f_torn : Int32) (f_state : Nat → Int32) (f_readPage : Nat → Int32) (f_tape : Nat → Int32) (f_cutRow : Nat → Int32) (f_cutWeights : Nat → Int32) (f_isKept : Nat → Int32) (f_lanes : Nat → Int32) (f_lengths : Nat → Int32) (f_cells : Nat → Int64) (sz : Nat) (p1 : Int32) (p2 : Int32) (p3 : Int32) (p4 : Int32) (post : Int32 → ((Nat → Int32) × (Nat → Int32)) → Prop) (h : wX6_read f_state f_readPage f_lanes f_lengths f_cells p1 p2 p3 p4 post) : Met l yX6_read wsX6_read rX6_read (zPw D cA [.ref a0, .int p1, .int p2, .int p3, .int p4] [(a0, .inr (5, [.ref a_state, .ref a_readPage, .ref a_tape, .int f_taped, .int f_fault, .int f_broken, .int f_brokenAt, .int f_spot, .int f_here, .int f_token, .int f_value, .ref a_cutRow, .ref a_cutWeights, .ref a_isKept, .ref a_lanes, .ref a_lengths, .ref a_cells, .int f_torn])), (a_state, .inl (cA 0, 579, .inl f_state)), (a_readPage, .inl (cA 0, 193, .inl f_readPage)), (a_tape, .inl (cA 0, 160, .inl f_tape)), (a_cutRow, .inl (cA 0, 128, .inl f_cutRow)), (a_cutWeights, .inl (cA 0, 64, .inl f_cutWeights)), (a_isKept, .inl (cA 3, 2, .inl f_isKept)), (a_lanes, .inl (cA 0, 4, .inl f_lanes)), (a_lengths, .inl (cA 0, 4, .inl f_lengths)), (a_cells, .inl (cA 1, 160, .inr (.inl f_cells)))] sz) (va_Qi post (zB D (va_A [(a0, .inr (5, [.ref a_state, .ref a_readPage, .ref a_tape, .int f_taped, .int f_fault, .int f_broken, .int f_brokenAt, .int f_spot, .int f_here, .int f_token, .int f_value, .ref a_cutRow, .ref a_cutWeights, .ref a_isKept, .ref a_lanes, .ref a_lengths, .ref a_cells, .int f_torn])), (a_state, .inl (cA 0, 579, .inl f_state)), (a_readPage, .inl (cA 0, 193, .inl f_readPage)), (a_tape, .inl (cA 0, 160, .inl f_tape)), (a_cutRow, .inl (cA 0, 128, .inl f_cutRow)), (a_cutWeights, .inl (cA 0, 64, .inl f_cutWeights)), (a_isKept, .inl (cA 3, 2, .inl f_isKept)), (a_lanes, .inl (cA 0, 4, .inl f_lanes)), (a_lengths, .inl (cA 0, 4, .inl f_lengths)), (a_cells, .inl (cA 1, 160, .inr (.inl f_cells)))] sz) (fun u : (Nat → Int32) × (Nat → Int32) => [(a0, .inr (5, [.ref a_state, .ref a_readPage, .ref a_tape, .int f_taped, .int f_fault, .int f_broken, .int f_brokenAt, .int f_spot, .int f_here, .int f_token, .int f_value, .ref a_cutRow, .ref a_cutWeights, .ref a_isKept, .ref a_lanes, .ref a_lengths, .ref a_cells, .int f_torn])), (a_state, .inl (cA 0, 579, .inl u.1)), (a_readPage, .inl (cA 0, 193, .inl u.2)), (a_tape, .inl (cA 0, 160, .inl f_tape)), (a_cutRow, .inl (cA 0, 128, .inl f_cutRow)), (a_cutWeights, .inl (cA 0, 64, .inl f_cutWeights)), (a_isKept, .inl (cA 3, 2, .inl f_isKept)), (a_lanes, .inl (cA 0, 4, .inl f_lanes)), (a_lengths, .inl (cA 0, 4, .inl f_lengths)), (a_cells, .inl (cA 1, 160, .inr (.inl f_cells)))])) (va_A [(a0, .inr (5, [.ref a_state, .ref a_readPage, .ref a_tape, .int f_taped, .int f_fault, .int f_broken, .int f_brokenAt, .int f_spot, .int f_here, .int f_token, .int f_value, .ref a_cutRow, .ref a_cutWeights, .ref a_isKept, .ref a_lanes, .ref a_lengths, .ref a_cells, .int f_torn])), (a_state, .inl (cA 0, 579, .inl f_state)), (a_readPage, .inl (cA 0, 193, .inl f_readPage)), (a_tape, .inl (cA 0, 160, .inl f_tape)), (a_cutRow, .inl (cA 0, 128, .inl f_cutRow)), (a_cutWeights, .inl (cA 0, 64, .inl f_cutWeights)), (a_isKept, .inl (cA 3, 2, .inl f_isKept)), (a_lanes, .inl (cA 0, 4, .inl f_lanes)), (a_lengths, .inl (cA 0, 4, .inl f_lengths)), (a_cells, .inl (cA 1, 160, .inr (.inl f_cells)))] sz)) 0 0 (va_A [(a0, .inr (5, [.ref a_state, .ref a_readPage, .ref a_tape, .int f_taped, .int f_fault, .int f_broken, .int f_brokenAt, .int f_spot, .int f_here, .int f_token, .int f_value, .ref a_cutRow, .ref a_cutWeights, .ref a_isKept, .ref a_lanes, .ref a_lengths, .ref a_cells, .int f_torn])), (a_state, .inl (cA 0, 579, .inl f_state)), (a_readPage, .inl (cA 0, 193, .inl f_readPage)), (a_tape, .inl (cA 0, 160, .inl f_tape)), (a_cutRow, .inl (cA 0, 128, .inl f_cutRow)), (a_cutWeights, .inl (cA 0, 64, .inl f_cutWeights)), (a_isKept, .inl (cA 3, 2, .inl f_isKept)), (a_lanes, .inl (cA 0, 4, .inl f_lanes)), (a_lengths, .inl (cA 0, 4, .inl f_lengths)), (a_cells, .inl (cA 1, 160, .inr (.inl f_cells)))] sz) := by
  refine z_rw (Qc := fun A => va_Qi post (zB D A (fun u : (Nat → Int32) × (Nat → Int32) => [(a0, .inr (5, [.ref a_state, .ref a_readPage, .ref a_tape, .int f_taped, .int f_fault, .int f_broken, .int f_brokenAt, .int f_spot, .int f_here, .int f_token, .int f_value, .ref a_cutRow, .ref a_cutWeights, .ref a_isKept, .ref a_lanes, .ref a_lengths, .ref a_cells, .int f_torn])), (a_state, .inl (cA 0, 579, .inl u.1)), (a_readPage, .inl (cA 0, 193, .inl u.2)), (a_tape, .inl (cA 0, 160, .inl f_tape)), (a_cutRow, .inl (cA 0, 128, .inl f_cutRow)), (a_cutWeights, .inl (cA 0, 64, .inl f_cutWeights)), (a_isKept, .inl (cA 3, 2, .inl f_isKept)), (a_lanes, .inl (cA 0, 4, .inl f_lanes)), (a_lengths, .inl (cA 0, 4, .inl f_lengths)), (a_cells, .inl (cA 1, 160, .inr (.inl f_cells)))])) A) (cc := cX6_read) (maxL := 9) (ret := (some .int)) (by decide) rfl (Nat.le_of_ble_eq_true rfl) ?_
  intro p e s m args below meth c ls A hx hb hr hlk hml hown hts hK hP hD hS hA hl
  have hown : s.vm.findClass RX6 = some m.cls := hown
  have hl : lv_has ls 9 [(0, .ref a0), (1, .int p1), (2, .int p2), (3, .int p3), (4, .int p4)] := hl
  have hw := h
  unfold wX6_read at hw
  have kl118 := hts (.constantLong RX6 118 (3)) (by decide +kernel)
  have kl109 := hts (.constantLong RX6 109 (2)) (by decide +kernel)
  have kl206 := hts (.constantLong RX6 206 (128)) (by decide +kernel)
  have iwX6 : ∀ w ∈ wsX60, w ∈ wsX6_read := fun w h9 => List.mem_cons_of_mem _ (List.mem_append_right _ h9)
  have kf7 := hts (.fieldLink RX6 7 "ExcessTreeModel" "state" "[I") (by decide +kernel)
  have kf13 := hts (.fieldLink RX6 13 "ExcessTreeModel" "readPage" "[I") (by decide +kernel)
  have kf35 := hts (.fieldLink RX6 35 "ExcessTreeModel" "cells" "[J") (by decide +kernel)
  refine lv_iload_n hx hb dX6_read_0 rfl (lv_at hl 1 rfl) ?_
  refine lv_i2l (v := ((p1).toInt64)) hx hb dX6_read_1 rfl ?_
  refine lv_lconst (v := 0) hx hb dX6_read_2 (by decide) ?_
  refine lv_ldc2 (v := 3) hx hb hown kl118 dX6_read_3 ?_
  refine z_si [.long ((p1).toInt64), .long (0 : Int64), .long (3 : Int64)] [] ⟨hx, hb, hml, hown, hts⟩ (kX6_in l D cA ((p1).toInt64) (0 : Int64) (3 : Int64) _ hw) (va_cwS 3 hts gX6_read_X6_in rfl rfl rfl vX6_in ⟨Nat.le_of_ble_eq_true rfl, Nat.le_of_ble_eq_true rfl⟩) hK z_p0 rfl hl.1 rfl (Nat.le_of_ble_eq_true rfl) dX6_read_6 ⟨Nat.zero_le _, Nat.zero_le _⟩ (fun r_1 hw => ?_)
  refine lv_if_eq (tgt := 41) hx hb dX6_read_9 (by decide) (fun c_2 => ?_) (fun c_2 => ?_)
  · have hw := hw.1 c_2
    refine lv_iconst (v := -1) hx hb dX6_read_41 (by decide) ?_
    exact z_iretw (f_state, f_readPage) hx hb hr hlk hw hP hD hS dX6_read_42
  · have hw := hw.2 c_2
    refine lv_iload_n hx hb dX6_read_12 rfl (lv_at hl 2 rfl) ?_
    refine lv_i2l (v := ((p2).toInt64)) hx hb dX6_read_13 rfl ?_
    refine lv_lconst (v := 0) hx hb dX6_read_14 (by decide) ?_
    refine lv_ldc2 (v := 2) hx hb hown kl109 dX6_read_15 ?_
    refine z_si [.long ((p2).toInt64), .long (0 : Int64), .long (2 : Int64)] [] ⟨hx, hb, hml, hown, hts⟩ (kX6_in l D cA ((p2).toInt64) (0 : Int64) (2 : Int64) _ hw) (va_cwS 3 hts gX6_read_X6_in rfl rfl rfl vX6_in ⟨Nat.le_of_ble_eq_true rfl, Nat.le_of_ble_eq_true rfl⟩) hK z_p0 rfl hl.1 rfl (Nat.le_of_ble_eq_true rfl) dX6_read_18 ⟨Nat.zero_le _, Nat.zero_le _⟩ (fun r_3 hw => ?_)
    refine lv_if_eq (tgt := 41) hx hb dX6_read_21 (by decide) (fun c_4 => ?_) (fun c_4 => ?_)
    · have hw := hw.1 c_4
      refine lv_iconst (v := -1) hx hb dX6_read_41 (by decide) ?_
      exact z_iretw (f_state, f_readPage) hx hb hr hlk hw hP hD hS dX6_read_42
    · have hw := hw.2 c_4
      refine lv_iload_n hx hb dX6_read_24 rfl (lv_at hl 3 rfl) ?_
      refine lv_if_lt (tgt := 41) hx hb dX6_read_25 (by decide) (fun c_5 => ?_) (fun c_5 => ?_)
      · have hw := hw.1 c_5
        refine lv_iconst (v := -1) hx hb dX6_read_41 (by decide) ?_
        exact z_iretw (f_state, f_readPage) hx hb hr hlk hw hP hD hS dX6_read_42
      · have hw := hw.2 c_5
        refine lv_iload hx hb dX6_read_28 (lv_at hl 4 rfl) ?_
        refine lv_i2l (v := ((p4).toInt64)) hx hb dX6_read_30 rfl ?_
        refine lv_lconst (v := 0) hx hb dX6_read_31 (by decide) ?_
        refine lv_ldc2 (v := 128) hx hb hown kl206 dX6_read_32 ?_
        refine z_si [.long ((p4).toInt64), .long (0 : Int64), .long (128 : Int64)] [] ⟨hx, hb, hml, hown, hts⟩ (kX6_in l D cA ((p4).toInt64) (0 : Int64) (128 : Int64) _ hw) (va_cwS 3 hts gX6_read_X6_in rfl rfl rfl vX6_in ⟨Nat.le_of_ble_eq_true rfl, Nat.le_of_ble_eq_true rfl⟩) hK z_p0 rfl hl.1 rfl (Nat.le_of_ble_eq_true rfl) dX6_read_35 ⟨Nat.zero_le _, Nat.zero_le _⟩ (fun r_6 hw => ?_)
        refine lv_if_ne (tgt := 43) hx hb dX6_read_38 (by decide) (fun c_7 => ?_) (fun c_7 => ?_)
        · have hw := hw.1 c_7
          refine lv_iconst (v := 0) hx hb dX6_read_43 (by decide) ?_
          refine lv_istore (lv' := [(5, .int (0 : Int32)), (0, .ref a0), (1, .int p1), (2, .int p2), (3, .int p3), (4, .int p4)]) hx hb dX6_read_44 hl (by decide) rfl (fun ls hl => ?_)
          obtain ⟨I_8, mu_8, hI_8, hw⟩ := hw
          have lp_8 : ∀ (nn : Nat) (x_9 : Int32) (f_readPage_10 : Nat → Int32) (H : Heap) (locs : List Loc) (ls : Array Slot), mu_8 x_9 f_readPage_10 < nn → I_8 x_9 f_readPage_10 → va_P D vwCl [(a0, .inr (5, [.ref a_state, .ref a_readPage, .ref a_tape, .int f_taped, .int f_fault, .int f_broken, .int f_brokenAt, .int f_spot, .int f_here, .int f_token, .int f_value, .ref a_cutRow, .ref a_cutWeights, .ref a_isKept, .ref a_lanes, .ref a_lengths, .ref a_cells, .int f_torn])), (a_state, .inl (cA 0, 579, .inl f_state)), (a_readPage, .inl (cA 0, 193, .inl f_readPage_10)), (a_tape, .inl (cA 0, 160, .inl f_tape)), (a_cutRow, .inl (cA 0, 128, .inl f_cutRow)), (a_cutWeights, .inl (cA 0, 64, .inl f_cutWeights)), (a_isKept, .inl (cA 3, 2, .inl f_isKept)), (a_lanes, .inl (cA 0, 4, .inl f_lanes)), (a_lengths, .inl (cA 0, 4, .inl f_lengths)), (a_cells, .inl (cA 1, 160, .inr (.inl f_cells)))] H → va_D A [(a0, .inr (5, [.ref a_state, .ref a_readPage, .ref a_tape, .int f_taped, .int f_fault, .int f_broken, .int f_brokenAt, .int f_spot, .int f_here, .int f_token, .int f_value, .ref a_cutRow, .ref a_cutWeights, .ref a_isKept, .ref a_lanes, .ref a_lengths, .ref a_cells, .int f_torn])), (a_state, .inl (cA 0, 579, .inl f_state)), (a_readPage, .inl (cA 0, 193, .inl f_readPage_10)), (a_tape, .inl (cA 0, 160, .inl f_tape)), (a_cutRow, .inl (cA 0, 128, .inl f_cutRow)), (a_cutWeights, .inl (cA 0, 64, .inl f_cutWeights)), (a_isKept, .inl (cA 3, 2, .inl f_isKept)), (a_lanes, .inl (cA 0, 4, .inl f_lanes)), (a_lengths, .inl (cA 0, 4, .inl f_lengths)), (a_cells, .inl (cA 1, 160, .inr (.inl f_cells)))] → va_S A s.heap H locs → lv_has ls 9 [(0, .ref a0), (1, .int p1), (2, .int p2), (3, .int p3), (4, .int p4), (5, .int x_9)] → W p l e rX6_read s m args below meth c H locs 0 0 (MQ below (va_Qi post (zB D A (fun u : (Nat → Int32) × (Nat → Int32) => [(a0, .inr (5, [.ref a_state, .ref a_readPage, .ref a_tape, .int f_taped, .int f_fault, .int f_broken, .int f_brokenAt, .int f_spot, .int f_here, .int f_token, .int f_value, .ref a_cutRow, .ref a_cutWeights, .ref a_isKept, .ref a_lanes, .ref a_lengths, .ref a_cells, .int f_torn])), (a_state, .inl (cA 0, 579, .inl u.1)), (a_readPage, .inl (cA 0, 193, .inl u.2)), (a_tape, .inl (cA 0, 160, .inl f_tape)), (a_cutRow, .inl (cA 0, 128, .inl f_cutRow)), (a_cutWeights, .inl (cA 0, 64, .inl f_cutWeights)), (a_isKept, .inl (cA 3, 2, .inl f_isKept)), (a_lanes, .inl (cA 0, 4, .inl f_lanes)), (a_lengths, .inl (cA 0, 4, .inl f_lengths)), (a_cells, .inl (cA 1, 160, .inr (.inl f_cells)))])) A) args s 0 0 A) (F0 m 46 ls []) := by
            intro nn
            induction nn with
            | zero => exact fun _ _ _ _ _ h0 => absurd h0 (Nat.not_lt_zero _)
            | succ nn ih_8 =>
              intro x_9 f_readPage_10 H locs ls hmu_8 hI_8 hP hD hS hl
              have hw := hw x_9 f_readPage_10 hI_8
              refine lv_iload hx hb dX6_read_46 (lv_at hl 5 rfl) ?_
              refine lv_iload hx hb dX6_read_48 (lv_at hl 4 rfl) ?_
              refine lv_icmp_ge (tgt := 127) hx hb dX6_read_50 (by decide) (fun c_11 => ?_) (fun c_11 => ?_)
              · have hw := hw.1 c_11
                refine lv_aload_n hx hb dX6_read_127 rfl (lv_at hl 0 rfl) ?_
                refine lv_iload hx hb dX6_read_128 (lv_at hl 4 rfl) ?_
                refine z_ri [.int p4] [] ⟨hx, hb, hml, hown, hts⟩ (kX6_isRow l D cA a0 a_state a_readPage a_tape a_cutRow a_cutWeights a_isKept a_lanes a_lengths a_cells f_taped f_fault f_broken f_brokenAt f_spot f_here f_token f_value f_torn f_state f_readPage_10 f_tape f_cutRow f_cutWeights f_isKept f_lanes f_lengths f_cells p4 _ hw) (cwV 1 hts gX6_read_X6_isRow rfl rfl rfl vX6_isRow ⟨Nat.le_of_ble_eq_true rfl, Nat.le_of_ble_eq_true rfl⟩) hK (hP.sub [0, 1, 2, 3, 4, 5, 6, 7, 8, 9] rfl) (va_recv hK.1 (hP.sub (ws' := [(a0, .inr (5, [.ref a_state, .ref a_readPage, .ref a_tape, .int f_taped, .int f_fault, .int f_broken, .int f_brokenAt, .int f_spot, .int f_here, .int f_token, .int f_value, .ref a_cutRow, .ref a_cutWeights, .ref a_isKept, .ref a_lanes, .ref a_lengths, .ref a_cells, .int f_torn]))]) [0] rfl) (ci := 5) (q0 := 0) rfl rfl) rfl hl.1 rfl (Nat.le_of_ble_eq_true rfl) dX6_read_130 ⟨Nat.zero_le _, Nat.zero_le _⟩ (fun r_12 hw => ?_)
                refine lv_if_ne (tgt := 139) hx hb dX6_read_133 (by decide) (fun c_13 => ?_) (fun c_13 => ?_)
                · have hw := hw.1 c_13
                  refine lv_iconst (v := 0) hx hb dX6_read_139 (by decide) ?_
                  refine lv_istore (lv' := [(5, .int (0 : Int32)), (0, .ref a0), (1, .int p1), (2, .int p2), (3, .int p3), (4, .int p4)]) hx hb dX6_read_140 hl (by decide) rfl (fun ls hl => ?_)
                  obtain ⟨I_14, mu_14, hI_14, hw⟩ := hw
                  have lp_14 : ∀ (nn : Nat) (x_15 : Int32) (f_state_16 : Nat → Int32) (H : Heap) (locs : List Loc) (ls : Array Slot), mu_14 x_15 f_state_16 < nn → I_14 x_15 f_state_16 → va_P D vwCl [(a0, .inr (5, [.ref a_state, .ref a_readPage, .ref a_tape, .int f_taped, .int f_fault, .int f_broken, .int f_brokenAt, .int f_spot, .int f_here, .int f_token, .int f_value, .ref a_cutRow, .ref a_cutWeights, .ref a_isKept, .ref a_lanes, .ref a_lengths, .ref a_cells, .int f_torn])), (a_state, .inl (cA 0, 579, .inl f_state_16)), (a_readPage, .inl (cA 0, 193, .inl f_readPage_10)), (a_tape, .inl (cA 0, 160, .inl f_tape)), (a_cutRow, .inl (cA 0, 128, .inl f_cutRow)), (a_cutWeights, .inl (cA 0, 64, .inl f_cutWeights)), (a_isKept, .inl (cA 3, 2, .inl f_isKept)), (a_lanes, .inl (cA 0, 4, .inl f_lanes)), (a_lengths, .inl (cA 0, 4, .inl f_lengths)), (a_cells, .inl (cA 1, 160, .inr (.inl f_cells)))] H → va_D A [(a0, .inr (5, [.ref a_state, .ref a_readPage, .ref a_tape, .int f_taped, .int f_fault, .int f_broken, .int f_brokenAt, .int f_spot, .int f_here, .int f_token, .int f_value, .ref a_cutRow, .ref a_cutWeights, .ref a_isKept, .ref a_lanes, .ref a_lengths, .ref a_cells, .int f_torn])), (a_state, .inl (cA 0, 579, .inl f_state_16)), (a_readPage, .inl (cA 0, 193, .inl f_readPage_10)), (a_tape, .inl (cA 0, 160, .inl f_tape)), (a_cutRow, .inl (cA 0, 128, .inl f_cutRow)), (a_cutWeights, .inl (cA 0, 64, .inl f_cutWeights)), (a_isKept, .inl (cA 3, 2, .inl f_isKept)), (a_lanes, .inl (cA 0, 4, .inl f_lanes)), (a_lengths, .inl (cA 0, 4, .inl f_lengths)), (a_cells, .inl (cA 1, 160, .inr (.inl f_cells)))] → va_S A s.heap H locs → lv_has ls 9 [(0, .ref a0), (4, .int p4), (5, .int x_15)] → W p l e rX6_read s m args below meth c H locs 0 0 (MQ below (va_Qi post (zB D A (fun u : (Nat → Int32) × (Nat → Int32) => [(a0, .inr (5, [.ref a_state, .ref a_readPage, .ref a_tape, .int f_taped, .int f_fault, .int f_broken, .int f_brokenAt, .int f_spot, .int f_here, .int f_token, .int f_value, .ref a_cutRow, .ref a_cutWeights, .ref a_isKept, .ref a_lanes, .ref a_lengths, .ref a_cells, .int f_torn])), (a_state, .inl (cA 0, 579, .inl u.1)), (a_readPage, .inl (cA 0, 193, .inl u.2)), (a_tape, .inl (cA 0, 160, .inl f_tape)), (a_cutRow, .inl (cA 0, 128, .inl f_cutRow)), (a_cutWeights, .inl (cA 0, 64, .inl f_cutWeights)), (a_isKept, .inl (cA 3, 2, .inl f_isKept)), (a_lanes, .inl (cA 0, 4, .inl f_lanes)), (a_lengths, .inl (cA 0, 4, .inl f_lengths)), (a_cells, .inl (cA 1, 160, .inr (.inl f_cells)))])) A) args s 0 0 A) (F0 m 142 ls []) := by
                    intro nn
                    induction nn with
                    | zero => exact fun _ _ _ _ _ h0 => absurd h0 (Nat.not_lt_zero _)
                    | succ nn ih_14 =>
                      intro x_15 f_state_16 H locs ls hmu_14 hI_14 hP hD hS hl
                      have hw := hw x_15 f_state_16 hI_14
                      refine lv_iload hx hb dX6_read_142 (lv_at hl 2 rfl) ?_
                      refine lv_iload hx hb dX6_read_144 (lv_at hl 1 rfl) ?_
                      refine lv_icmp_ge (tgt := 169) hx hb dX6_read_146 (by decide) (fun c_17 => ?_) (fun c_17 => ?_)
                      · have hw := hw.1 c_17
                        refine lv_iconst (v := 0) hx hb dX6_read_169 (by decide) ?_
                        refine lv_istore (lv' := [(5, .int (0 : Int32)), (0, .ref a0), (4, .int p4)]) hx hb dX6_read_170 hl (by decide) rfl (fun ls hl => ?_)
                        obtain ⟨I_18, mu_18, hI_18, hw⟩ := hw
                        have lp_18 : ∀ (nn : Nat) (x_19 : Int32) (f_state_20 : Nat → Int32) (H : Heap) (locs : List Loc) (ls : Array Slot), mu_18 x_19 f_state_20 < nn → I_18 x_19 f_state_20 → va_P D vwCl [(a0, .inr (5, [.ref a_state, .ref a_readPage, .ref a_tape, .int f_taped, .int f_fault, .int f_broken, .int f_brokenAt, .int f_spot, .int f_here, .int f_token, .int f_value, .ref a_cutRow, .ref a_cutWeights, .ref a_isKept, .ref a_lanes, .ref a_lengths, .ref a_cells, .int f_torn])), (a_state, .inl (cA 0, 579, .inl f_state_20)), (a_readPage, .inl (cA 0, 193, .inl f_readPage_10)), (a_tape, .inl (cA 0, 160, .inl f_tape)), (a_cutRow, .inl (cA 0, 128, .inl f_cutRow)), (a_cutWeights, .inl (cA 0, 64, .inl f_cutWeights)), (a_isKept, .inl (cA 3, 2, .inl f_isKept)), (a_lanes, .inl (cA 0, 4, .inl f_lanes)), (a_lengths, .inl (cA 0, 4, .inl f_lengths)), (a_cells, .inl (cA 1, 160, .inr (.inl f_cells)))] H → va_D A [(a0, .inr (5, [.ref a_state, .ref a_readPage, .ref a_tape, .int f_taped, .int f_fault, .int f_broken, .int f_brokenAt, .int f_spot, .int f_here, .int f_token, .int f_value, .ref a_cutRow, .ref a_cutWeights, .ref a_isKept, .ref a_lanes, .ref a_lengths, .ref a_cells, .int f_torn])), (a_state, .inl (cA 0, 579, .inl f_state_20)), (a_readPage, .inl (cA 0, 193, .inl f_readPage_10)), (a_tape, .inl (cA 0, 160, .inl f_tape)), (a_cutRow, .inl (cA 0, 128, .inl f_cutRow)), (a_cutWeights, .inl (cA 0, 64, .inl f_cutWeights)), (a_isKept, .inl (cA 3, 2, .inl f_isKept)), (a_lanes, .inl (cA 0, 4, .inl f_lanes)), (a_lengths, .inl (cA 0, 4, .inl f_lengths)), (a_cells, .inl (cA 1, 160, .inr (.inl f_cells)))] → va_S A s.heap H locs → lv_has ls 9 [(0, .ref a0), (4, .int p4), (5, .int x_19)] → W p l e rX6_read s m args below meth c H locs 0 0 (MQ below (va_Qi post (zB D A (fun u : (Nat → Int32) × (Nat → Int32) => [(a0, .inr (5, [.ref a_state, .ref a_readPage, .ref a_tape, .int f_taped, .int f_fault, .int f_broken, .int f_brokenAt, .int f_spot, .int f_here, .int f_token, .int f_value, .ref a_cutRow, .ref a_cutWeights, .ref a_isKept, .ref a_lanes, .ref a_lengths, .ref a_cells, .int f_torn])), (a_state, .inl (cA 0, 579, .inl u.1)), (a_readPage, .inl (cA 0, 193, .inl u.2)), (a_tape, .inl (cA 0, 160, .inl f_tape)), (a_cutRow, .inl (cA 0, 128, .inl f_cutRow)), (a_cutWeights, .inl (cA 0, 64, .inl f_cutWeights)), (a_isKept, .inl (cA 3, 2, .inl f_isKept)), (a_lanes, .inl (cA 0, 4, .inl f_lanes)), (a_lengths, .inl (cA 0, 4, .inl f_lengths)), (a_cells, .inl (cA 1, 160, .inr (.inl f_cells)))])) A) args s 0 0 A) (F0 m 172 ls []) := by
                          intro nn
                          induction nn with
                          | zero => exact fun _ _ _ _ _ h0 => absurd h0 (Nat.not_lt_zero _)
                          | succ nn ih_18 =>
                            intro x_19 f_state_20 H locs ls hmu_18 hI_18 hP hD hS hl
                            have hw := hw x_19 f_state_20 hI_18
                            refine lv_iload hx hb dX6_read_172 (lv_at hl 2 rfl) ?_
                            refine lv_bipush (v := 64) hx hb dX6_read_174 (by decide) ?_
                            refine lv_icmp_ge (tgt := 197) hx hb dX6_read_176 (by decide) (fun c_21 => ?_) (fun c_21 => ?_)
                            · have hw := hw.1 c_21
                              refine lv_aload_n hx hb dX6_read_197 rfl (lv_at hl 0 rfl) ?_
                              refine va_get (D := D) (ci := 5) (v := .ref a_state) (C := RX6) (T := TX6) (N := 18) hx hb hts iwX6 hown hK.1 hP 0 rfl rfl 0 (by decide) kf7 (fun _ h9 => h9) rfl dX6_read_198 ?_
                              refine lv_sipush (v := 192) hx hb dX6_read_201 (by decide) ?_
                              refine lv_iload hx hb dX6_read_204 (lv_at hl 1 rfl) ?_
                              refine lv_iconst (v := 2) hx hb dX6_read_206 (by decide) ?_
                              refine lv_idiv hx hb dX6_read_207 (by decide) ?_
                              refine lv_topi (fun x_22 ex_22 => ?_)
                              have hw := hw x_22 ex_22
                              have hq := hw.1
                              have hw := hw.2
                              refine va_iast hx hb hK.1 hP hD hS 1 0 rfl rfl hq dX6_read_208 (fun H locs hP hD hS => ?_)
                              have hP : va_P D vwCl [(a0, .inr (5, [.ref a_state, .ref a_readPage, .ref a_tape, .int f_taped, .int f_fault, .int f_broken, .int f_brokenAt, .int f_spot, .int f_here, .int f_token, .int f_value, .ref a_cutRow, .ref a_cutWeights, .ref a_isKept, .ref a_lanes, .ref a_lengths, .ref a_cells, .int f_torn])), (a_state, .inl (cA 0, 579, .inl (upd f_state_20 (192 : Int32).toNatClampNeg x_22))), (a_readPage, .inl (cA 0, 193, .inl f_readPage_10)), (a_tape, .inl (cA 0, 160, .inl f_tape)), (a_cutRow, .inl (cA 0, 128, .inl f_cutRow)), (a_cutWeights, .inl (cA 0, 64, .inl f_cutWeights)), (a_isKept, .inl (cA 3, 2, .inl f_isKept)), (a_lanes, .inl (cA 0, 4, .inl f_lanes)), (a_lengths, .inl (cA 0, 4, .inl f_lengths)), (a_cells, .inl (cA 1, 160, .inr (.inl f_cells)))] H := hP
                              have hD : va_D A [(a0, .inr (5, [.ref a_state, .ref a_readPage, .ref a_tape, .int f_taped, .int f_fault, .int f_broken, .int f_brokenAt, .int f_spot, .int f_here, .int f_token, .int f_value, .ref a_cutRow, .ref a_cutWeights, .ref a_isKept, .ref a_lanes, .ref a_lengths, .ref a_cells, .int f_torn])), (a_state, .inl (cA 0, 579, .inl (upd f_state_20 (192 : Int32).toNatClampNeg x_22))), (a_readPage, .inl (cA 0, 193, .inl f_readPage_10)), (a_tape, .inl (cA 0, 160, .inl f_tape)), (a_cutRow, .inl (cA 0, 128, .inl f_cutRow)), (a_cutWeights, .inl (cA 0, 64, .inl f_cutWeights)), (a_isKept, .inl (cA 3, 2, .inl f_isKept)), (a_lanes, .inl (cA 0, 4, .inl f_lanes)), (a_lengths, .inl (cA 0, 4, .inl f_lengths)), (a_cells, .inl (cA 1, 160, .inr (.inl f_cells)))] := hD
                              refine lv_aload_n hx hb dX6_read_209 rfl (lv_at hl 0 rfl) ?_
                              refine z_ri [] [] ⟨hx, hb, hml, hown, hts⟩ (kX6_many l D cA a0 a_state a_readPage a_tape a_cutRow a_cutWeights a_isKept a_lanes a_lengths a_cells f_taped f_fault f_broken f_brokenAt f_spot f_here f_token f_value f_torn (upd f_state_20 (192 : Int32).toNatClampNeg x_22) f_readPage_10 f_tape f_cutRow f_cutWeights f_isKept f_lanes f_lengths f_cells _ hw) (cwV 0 hts gX6_read_X6_many rfl rfl rfl vX6_many ⟨Nat.le_of_ble_eq_true rfl, Nat.le_of_ble_eq_true rfl⟩) hK (hP.sub [0, 1, 2, 3, 4, 5, 6, 7, 8, 9] rfl) (va_recv hK.1 (hP.sub (ws' := [(a0, .inr (5, [.ref a_state, .ref a_readPage, .ref a_tape, .int f_taped, .int f_fault, .int f_broken, .int f_brokenAt, .int f_spot, .int f_here, .int f_token, .int f_value, .ref a_cutRow, .ref a_cutWeights, .ref a_isKept, .ref a_lanes, .ref a_lengths, .ref a_cells, .int f_torn]))]) [0] rfl) (ci := 5) (q0 := 0) rfl rfl) rfl hl.1 rfl (Nat.le_of_ble_eq_true rfl) dX6_read_210 ⟨Nat.zero_le _, Nat.zero_le _⟩ (fun r_23 hw => ?_)
                              exact z_iretw ((upd f_state_20 (192 : Int32).toNatClampNeg x_22), f_readPage_10) hx hb hr hlk hw hP hD hS dX6_read_213
                            · have hw := hw.2 c_21
                              refine lv_aload_n hx hb dX6_read_179 rfl (lv_at hl 0 rfl) ?_
                              refine va_get (D := D) (ci := 5) (v := .ref a_state) (C := RX6) (T := TX6) (N := 18) hx hb hts iwX6 hown hK.1 hP 0 rfl rfl 0 (by decide) kf7 (fun _ h9 => h9) rfl dX6_read_180 ?_
                              refine lv_sipush (v := 128) hx hb dX6_read_183 (by decide) ?_
                              refine lv_iload hx hb dX6_read_186 (lv_at hl 2 rfl) ?_
                              refine lv_iadd hx hb dX6_read_188 ?_
                              refine lv_iconst (v := 0) hx hb dX6_read_189 (by decide) ?_
                              have hq := hw.1
                              have hw := hw.2
                              refine va_iast hx hb hK.1 hP hD hS 1 0 rfl rfl hq dX6_read_190 (fun H locs hP hD hS => ?_)
                              have hP : va_P D vwCl [(a0, .inr (5, [.ref a_state, .ref a_readPage, .ref a_tape, .int f_taped, .int f_fault, .int f_broken, .int f_brokenAt, .int f_spot, .int f_here, .int f_token, .int f_value, .ref a_cutRow, .ref a_cutWeights, .ref a_isKept, .ref a_lanes, .ref a_lengths, .ref a_cells, .int f_torn])), (a_state, .inl (cA 0, 579, .inl (upd f_state_20 ((128 : Int32) + x_19).toNatClampNeg (0 : Int32)))), (a_readPage, .inl (cA 0, 193, .inl f_readPage_10)), (a_tape, .inl (cA 0, 160, .inl f_tape)), (a_cutRow, .inl (cA 0, 128, .inl f_cutRow)), (a_cutWeights, .inl (cA 0, 64, .inl f_cutWeights)), (a_isKept, .inl (cA 3, 2, .inl f_isKept)), (a_lanes, .inl (cA 0, 4, .inl f_lanes)), (a_lengths, .inl (cA 0, 4, .inl f_lengths)), (a_cells, .inl (cA 1, 160, .inr (.inl f_cells)))] H := hP
                              have hD : va_D A [(a0, .inr (5, [.ref a_state, .ref a_readPage, .ref a_tape, .int f_taped, .int f_fault, .int f_broken, .int f_brokenAt, .int f_spot, .int f_here, .int f_token, .int f_value, .ref a_cutRow, .ref a_cutWeights, .ref a_isKept, .ref a_lanes, .ref a_lengths, .ref a_cells, .int f_torn])), (a_state, .inl (cA 0, 579, .inl (upd f_state_20 ((128 : Int32) + x_19).toNatClampNeg (0 : Int32)))), (a_readPage, .inl (cA 0, 193, .inl f_readPage_10)), (a_tape, .inl (cA 0, 160, .inl f_tape)), (a_cutRow, .inl (cA 0, 128, .inl f_cutRow)), (a_cutWeights, .inl (cA 0, 64, .inl f_cutWeights)), (a_isKept, .inl (cA 3, 2, .inl f_isKept)), (a_lanes, .inl (cA 0, 4, .inl f_lanes)), (a_lengths, .inl (cA 0, 4, .inl f_lengths)), (a_cells, .inl (cA 1, 160, .inr (.inl f_cells)))] := hD
                              obtain ⟨x_24, ex_24⟩ : ∃ y : Int32, y = x_19 + (1) := ⟨_, rfl⟩
                              have hw := hw x_24 ex_24
                              refine lv_iinc (v := x_24) (lv' := [(5, .int x_24), (0, .ref a0), (4, .int p4)]) hx hb dX6_read_191 hl (k := 2) rfl (by rw [ex_24]; rfl) (by decide) rfl (fun ls hl => ?_)
                              refine lv_goto (tgt := 172) hx hb dX6_read_194 (by decide) ?_
                              exact ih_18 x_24 (upd f_state_20 ((128 : Int32) + x_19).toNatClampNeg (0 : Int32)) _ _ ls (Nat.lt_of_lt_of_le hw.2 (Nat.le_of_lt_succ hmu_18)) hw.1 hP hD hS (lv_sub hl [1, 2, 0] rfl)
                        exact lp_18 (mu_18 (0 : Int32) f_state_16 + 1) (0 : Int32) f_state_16 _ _ ls (Nat.lt_succ_self _) hI_18 hP hD hS (lv_sub hl [1, 2, 0] rfl)
                      · have hw := hw.2 c_17
                        refine lv_aload_n hx hb dX6_read_149 rfl (lv_at hl 0 rfl) ?_
                        refine va_get (D := D) (ci := 5) (v := .ref a_state) (C := RX6) (T := TX6) (N := 18) hx hb hts iwX6 hown hK.1 hP 0 rfl rfl 0 (by decide) kf7 (fun _ h9 => h9) rfl dX6_read_150 ?_
                        refine lv_iload hx hb dX6_read_153 (lv_at hl 2 rfl) ?_
                        refine lv_aload_n hx hb dX6_read_155 rfl (lv_at hl 0 rfl) ?_
                        refine va_get (D := D) (ci := 5) (v := .ref a_readPage) (C := RX6) (T := TX6) (N := 18) hx hb hts iwX6 hown hK.1 hP 0 rfl rfl 1 (by decide) kf13 (fun _ h9 => h9) rfl dX6_read_156 ?_
                        refine lv_iload hx hb dX6_read_159 (lv_at hl 2 rfl) ?_
                        have hq := hw.1
                        have hw := hw.2
                        refine va_iald hx hb hK.1 hP 2 0 rfl rfl hq dX6_read_161 ?_
                        refine lv_topi (fun x_25 ex_25 => ?_)
                        have hw := hw x_25 ex_25
                        have hq := hw.1
                        have hw := hw.2
                        refine va_iast hx hb hK.1 hP hD hS 1 0 rfl rfl hq dX6_read_162 (fun H locs hP hD hS => ?_)
                        have hP : va_P D vwCl [(a0, .inr (5, [.ref a_state, .ref a_readPage, .ref a_tape, .int f_taped, .int f_fault, .int f_broken, .int f_brokenAt, .int f_spot, .int f_here, .int f_token, .int f_value, .ref a_cutRow, .ref a_cutWeights, .ref a_isKept, .ref a_lanes, .ref a_lengths, .ref a_cells, .int f_torn])), (a_state, .inl (cA 0, 579, .inl (upd f_state_16 x_15.toNatClampNeg x_25))), (a_readPage, .inl (cA 0, 193, .inl f_readPage_10)), (a_tape, .inl (cA 0, 160, .inl f_tape)), (a_cutRow, .inl (cA 0, 128, .inl f_cutRow)), (a_cutWeights, .inl (cA 0, 64, .inl f_cutWeights)), (a_isKept, .inl (cA 3, 2, .inl f_isKept)), (a_lanes, .inl (cA 0, 4, .inl f_lanes)), (a_lengths, .inl (cA 0, 4, .inl f_lengths)), (a_cells, .inl (cA 1, 160, .inr (.inl f_cells)))] H := hP
                        have hD : va_D A [(a0, .inr (5, [.ref a_state, .ref a_readPage, .ref a_tape, .int f_taped, .int f_fault, .int f_broken, .int f_brokenAt, .int f_spot, .int f_here, .int f_token, .int f_value, .ref a_cutRow, .ref a_cutWeights, .ref a_isKept, .ref a_lanes, .ref a_lengths, .ref a_cells, .int f_torn])), (a_state, .inl (cA 0, 579, .inl (upd f_state_16 x_15.toNatClampNeg x_25))), (a_readPage, .inl (cA 0, 193, .inl f_readPage_10)), (a_tape, .inl (cA 0, 160, .inl f_tape)), (a_cutRow, .inl (cA 0, 128, .inl f_cutRow)), (a_cutWeights, .inl (cA 0, 64, .inl f_cutWeights)), (a_isKept, .inl (cA 3, 2, .inl f_isKept)), (a_lanes, .inl (cA 0, 4, .inl f_lanes)), (a_lengths, .inl (cA 0, 4, .inl f_lengths)), (a_cells, .inl (cA 1, 160, .inr (.inl f_cells)))] := hD
                        obtain ⟨x_26, ex_26⟩ : ∃ y : Int32, y = x_15 + (1) := ⟨_, rfl⟩
                        have hw := hw x_26 ex_26
                        refine lv_iinc (v := x_26) (lv' := [(5, .int x_26), (0, .ref a0), (4, .int p4)]) hx hb dX6_read_163 hl (k := 2) rfl (by rw [ex_26]; rfl) (by decide) rfl (fun ls hl => ?_)
                        refine lv_goto (tgt := 142) hx hb dX6_read_166 (by decide) ?_
                        exact ih_14 x_26 (upd f_state_16 x_15.toNatClampNeg x_25) _ _ ls (Nat.lt_of_lt_of_le hw.2 (Nat.le_of_lt_succ hmu_14)) hw.1 hP hD hS (lv_sub hl [1, 2, 0] rfl)
                  exact lp_14 (mu_14 (0 : Int32) f_state + 1) (0 : Int32) f_state _ _ ls (Nat.lt_succ_self _) hI_14 hP hD hS (lv_sub hl [1, 5, 0] rfl)
                · have hw := hw.2 c_13
                  refine lv_bipush (v := -2) hx hb dX6_read_136 (by decide) ?_
                  exact z_iretw (f_state, f_readPage_10) hx hb hr hlk hw hP hD hS dX6_read_138
              · have hw := hw.2 c_11
                refine lv_iload_n hx hb dX6_read_53 rfl (lv_at hl 3 rfl) ?_
                refine lv_i2l (v := ((p3).toInt64)) hx hb dX6_read_54 rfl ?_
                refine lv_iload hx hb dX6_read_55 (lv_at hl 5 rfl) ?_
                refine lv_i2l (v := ((x_9).toInt64)) hx hb dX6_read_57 rfl ?_
                refine lv_ladd hx hb dX6_read_58 ?_
                refine lv_topl (fun x_27 ex_27 => ?_)
                have hw := hw x_27 ex_27
                refine lv_lstore (lv' := [(6, .long x_27), (0, .ref a0), (1, .int p1), (2, .int p2), (3, .int p3), (4, .int p4), (5, .int x_9)]) hx hb dX6_read_59 hl (by decide) rfl (fun ls hl => ?_)
                refine lv_aload_n hx hb dX6_read_61 rfl (lv_at hl 1 rfl) ?_
                refine lv_iload_n hx hb dX6_read_62 rfl (lv_at hl 2 rfl) ?_
                refine lv_iload_n hx hb dX6_read_63 rfl (lv_at hl 3 rfl) ?_
                refine lv_lload hx hb dX6_read_64 (lv_at hl 0 rfl) ?_
                refine z_ri [.int p1, .int p2, .long x_27] [] ⟨hx, hb, hml, hown, hts⟩ (kX6_foundAt l D cA a0 a_state a_readPage a_tape a_cutRow a_cutWeights a_isKept a_lanes a_lengths a_cells f_taped f_fault f_broken f_brokenAt f_spot f_here f_token f_value f_torn f_state f_readPage_10 f_tape f_cutRow f_cutWeights f_isKept f_lanes f_lengths f_cells p1 p2 x_27 _ hw) (cwV 3 hts gX6_read_X6_foundAt rfl rfl rfl vX6_foundAt ⟨Nat.le_of_ble_eq_true rfl, Nat.le_of_ble_eq_true rfl⟩) hK (hP.sub [0, 1, 2, 3, 4, 5, 6, 7, 8, 9] rfl) (va_recv hK.1 (hP.sub (ws' := [(a0, .inr (5, [.ref a_state, .ref a_readPage, .ref a_tape, .int f_taped, .int f_fault, .int f_broken, .int f_brokenAt, .int f_spot, .int f_here, .int f_token, .int f_value, .ref a_cutRow, .ref a_cutWeights, .ref a_isKept, .ref a_lanes, .ref a_lengths, .ref a_cells, .int f_torn]))]) [0] rfl) (ci := 5) (q0 := 0) rfl rfl) rfl hl.1 rfl (Nat.le_of_ble_eq_true rfl) dX6_read_66 ⟨Nat.zero_le _, Nat.zero_le _⟩ (fun r_28 hw => ?_)
                refine lv_istore (lv' := [(8, .int r_28), (6, .long x_27), (0, .ref a0), (1, .int p1), (2, .int p2), (3, .int p3), (4, .int p4), (5, .int x_9)]) hx hb dX6_read_69 hl (by decide) rfl (fun ls hl => ?_)
                refine lv_iload hx hb dX6_read_71 (lv_at hl 0 rfl) ?_
                refine lv_if_le (tgt := 82) hx hb dX6_read_73 (by decide) (fun c_29 => ?_) (fun c_29 => ?_)
                · have hw := hw.1 c_29
                  refine lv_aload_n hx hb dX6_read_82 rfl (lv_at hl 2 rfl) ?_
                  refine va_get (D := D) (ci := 5) (v := .ref a_readPage) (C := RX6) (T := TX6) (N := 18) hx hb hts iwX6 hown hK.1 hP 0 rfl rfl 1 (by decide) kf13 (fun _ h9 => h9) rfl dX6_read_83 ?_
                  refine lv_iload hx hb dX6_read_86 (lv_at hl 7 rfl) ?_
                  refine lv_aload_n hx hb dX6_read_88 rfl (lv_at hl 2 rfl) ?_
                  refine va_get (D := D) (ci := 5) (v := .ref a_cells) (C := RX6) (T := TX6) (N := 18) hx hb hts iwX6 hown hK.1 hP 0 rfl rfl 16 (by decide) kf35 (fun _ h9 => h9) rfl dX6_read_89 ?_
                  refine lv_bipush (v := 40) hx hb dX6_read_92 (by decide) ?_
                  refine lv_iload_n hx hb dX6_read_94 rfl (lv_at hl 3 rfl) ?_
                  refine lv_imul hx hb dX6_read_95 ?_
                  refine lv_lload hx hb dX6_read_96 (lv_at hl 1 rfl) ?_
                  refine lv_iload_n hx hb dX6_read_98 rfl (lv_at hl 4 rfl) ?_
                  refine z_si [.int p2] [.long x_27, .int ((40 : Int32) * p1), .ref a_cells, .int x_9, .ref a_readPage] ⟨hx, hb, hml, hown, hts⟩ (kX6_wide l D cA p2 _ hw) (va_cwS 1 hts gX6_read_X6_wide rfl rfl rfl vX6_wide ⟨Nat.le_of_ble_eq_true rfl, Nat.le_of_ble_eq_true rfl⟩) hK z_p0 rfl hl.1 rfl (Nat.le_of_ble_eq_true rfl) dX6_read_99 ⟨Nat.zero_le _, Nat.zero_le _⟩ (fun r_30 hw => ?_)
                  refine lv_i2l (v := ((r_30).toInt64)) hx hb dX6_read_102 rfl ?_
                  have hq := hw.1
                  have hw := hw.2
                  refine lv_ldiv hx hb dX6_read_103 hq ?_
                  refine lv_l2i (v := (((x_27 / ((r_30).toInt64))).toInt32)) hx hb dX6_read_104 rfl ?_
                  refine lv_iadd hx hb dX6_read_105 ?_
                  have hq := hw.1
                  have hw := hw.2
                  refine va_lald hx hb hK.1 hP 9 1 rfl rfl hq dX6_read_106 ?_
                  refine lv_lload hx hb dX6_read_107 (lv_at hl 1 rfl) ?_
                  refine lv_iload_n hx hb dX6_read_109 rfl (lv_at hl 4 rfl) ?_
                  refine z_si [.int p2] [.long x_27, .long (f_cells (((40 : Int32) * p1) + (((x_27 / ((r_30).toInt64))).toInt32)).toNatClampNeg), .int x_9, .ref a_readPage] ⟨hx, hb, hml, hown, hts⟩ (kX6_wide l D cA p2 _ hw) (va_cwS 1 hts gX6_read_X6_wide rfl rfl rfl vX6_wide ⟨Nat.le_of_ble_eq_true rfl, Nat.le_of_ble_eq_true rfl⟩) hK z_p0 rfl hl.1 rfl (Nat.le_of_ble_eq_true rfl) dX6_read_110 ⟨Nat.zero_le _, Nat.zero_le _⟩ (fun r_31 hw => ?_)
                  refine lv_i2l (v := ((r_31).toInt64)) hx hb dX6_read_113 rfl ?_
                  have hq := hw.1
                  have hw := hw.2
                  refine lv_lrem hx hb dX6_read_114 hq ?_
                  refine lv_l2i (v := (((x_27 - x_27 / ((r_31).toInt64) * ((r_31).toInt64))).toInt32)) hx hb dX6_read_115 rfl ?_
                  refine lv_lshr (v := (zlshr (f_cells (((40 : Int32) * p1) + (((x_27 / ((r_30).toInt64))).toInt32)).toNatClampNeg) (((x_27 - x_27 / ((r_31).toInt64) * ((r_31).toInt64))).toInt32))) hx hb dX6_read_116 rfl ?_
                  refine lv_lconst (v := 1) hx hb dX6_read_117 (by decide) ?_
                  refine lv_land hx hb dX6_read_118 ?_
                  refine lv_l2i (v := ((((zlshr (f_cells (((40 : Int32) * p1) + (((x_27 / ((r_30).toInt64))).toInt32)).toNatClampNeg) (((x_27 - x_27 / ((r_31).toInt64) * ((r_31).toInt64))).toInt32)) &&& (1 : Int64))).toInt32)) hx hb dX6_read_119 rfl ?_
                  refine lv_topi (fun x_32 ex_32 => ?_)
                  have hw := hw x_32 ex_32
                  have hq := hw.1
                  have hw := hw.2
                  refine va_iast hx hb hK.1 hP hD hS 2 0 rfl rfl hq dX6_read_120 (fun H locs hP hD hS => ?_)
                  have hP : va_P D vwCl [(a0, .inr (5, [.ref a_state, .ref a_readPage, .ref a_tape, .int f_taped, .int f_fault, .int f_broken, .int f_brokenAt, .int f_spot, .int f_here, .int f_token, .int f_value, .ref a_cutRow, .ref a_cutWeights, .ref a_isKept, .ref a_lanes, .ref a_lengths, .ref a_cells, .int f_torn])), (a_state, .inl (cA 0, 579, .inl f_state)), (a_readPage, .inl (cA 0, 193, .inl (upd f_readPage_10 x_9.toNatClampNeg x_32))), (a_tape, .inl (cA 0, 160, .inl f_tape)), (a_cutRow, .inl (cA 0, 128, .inl f_cutRow)), (a_cutWeights, .inl (cA 0, 64, .inl f_cutWeights)), (a_isKept, .inl (cA 3, 2, .inl f_isKept)), (a_lanes, .inl (cA 0, 4, .inl f_lanes)), (a_lengths, .inl (cA 0, 4, .inl f_lengths)), (a_cells, .inl (cA 1, 160, .inr (.inl f_cells)))] H := hP
                  have hD : va_D A [(a0, .inr (5, [.ref a_state, .ref a_readPage, .ref a_tape, .int f_taped, .int f_fault, .int f_broken, .int f_brokenAt, .int f_spot, .int f_here, .int f_token, .int f_value, .ref a_cutRow, .ref a_cutWeights, .ref a_isKept, .ref a_lanes, .ref a_lengths, .ref a_cells, .int f_torn])), (a_state, .inl (cA 0, 579, .inl f_state)), (a_readPage, .inl (cA 0, 193, .inl (upd f_readPage_10 x_9.toNatClampNeg x_32))), (a_tape, .inl (cA 0, 160, .inl f_tape)), (a_cutRow, .inl (cA 0, 128, .inl f_cutRow)), (a_cutWeights, .inl (cA 0, 64, .inl f_cutWeights)), (a_isKept, .inl (cA 3, 2, .inl f_isKept)), (a_lanes, .inl (cA 0, 4, .inl f_lanes)), (a_lengths, .inl (cA 0, 4, .inl f_lengths)), (a_cells, .inl (cA 1, 160, .inr (.inl f_cells)))] := hD
                  obtain ⟨x_33, ex_33⟩ : ∃ y : Int32, y = x_9 + (1) := ⟨_, rfl⟩
                  have hw := hw x_33 ex_33
                  refine lv_iinc (v := x_33) (lv' := [(5, .int x_33), (8, .int r_28), (6, .long x_27), (0, .ref a0), (1, .int p1), (2, .int p2), (3, .int p3), (4, .int p4)]) hx hb dX6_read_121 hl (k := 7) rfl (by rw [ex_33]; rfl) (by decide) rfl (fun ls hl => ?_)
                  refine lv_goto (tgt := 46) hx hb dX6_read_124 (by decide) ?_
                  exact ih_8 x_33 (upd f_readPage_10 x_9.toNatClampNeg x_32) _ _ ls (Nat.lt_of_lt_of_le hw.2 (Nat.le_of_lt_succ hmu_8)) hw.1 hP hD hS (lv_sub hl [3, 4, 5, 6, 7, 0] rfl)
                · have hw := hw.2 c_29
                  refine lv_bipush (v := -10) hx hb dX6_read_76 (by decide) ?_
                  refine lv_iload hx hb dX6_read_78 (lv_at hl 0 rfl) ?_
                  refine lv_isub hx hb dX6_read_80 ?_
                  exact z_iretw (f_state, f_readPage_10) hx hb hr hlk hw hP hD hS dX6_read_81
          exact lp_8 (mu_8 (0 : Int32) f_readPage + 1) (0 : Int32) f_readPage _ _ ls (Nat.lt_succ_self _) hI_8 hP hD hS (lv_sub hl [1, 2, 3, 4, 5, 0] rfl)
        · have hw := hw.2 c_7
          refine lv_iconst (v := -1) hx hb dX6_read_41 (by decide) ?_
          exact z_iretw (f_state, f_readPage) hx hb hr hlk hw hP hD hS dX6_read_42
