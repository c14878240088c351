/-! written by wip/whole/gen.py -/
def wX1_extremeIn (f_low : Int64) (f_high : Int64) (f_gains : Nat → Int32) (f_lows : Nat → Int32) (f_highs : Nat → Int32) (p1 : Int32) (p2 : Int32) (p3 : Int32) (post : Int32 → Prop) : Prop := (wX1_excessAt f_low f_high p1 (fun r_1 : Int32 => ((∃ (I_2 : Int32 → Int32 → Int32 → Prop) (mu_2 : Int32 → Int32 → Int32 → Nat), I_2 r_1 r_1 p1 ∧ ∀ (x_3 : Int32) (x_4 : Int32) (x_5 : Int32), I_2 x_3 x_4 x_5 → ((p2 ≤ x_5 → post x_4) ∧ (¬ p2 ≤ x_5 → ((¬ (x_5 - x_5 / (16 : Int32) * (16 : Int32)) = 0 → (wX1_stepAt f_low f_high x_5 (fun r_8 : Int32 => ((∀ x_9 : Int32, x_9 = (x_3 + r_8) → (∀ x_10 : Int32, x_10 = x_5 + (1) → ((p3 = 0 → (∀ x_12 : Int32, x_12 = (if x_9 < x_4 then x_9 else x_4) → (I_2 x_9 x_12 x_10 ∧ mu_2 x_9 x_12 x_10 < mu_2 x_3 x_4 x_5))) ∧ (¬ p3 = 0 → (∀ x_13 : Int32, x_13 = (if x_4 < x_9 then x_9 else x_4) → (I_2 x_9 x_13 x_10 ∧ mu_2 x_9 x_13 x_10 < mu_2 x_3 x_4 x_5)))))))))) ∧ ((x_5 - x_5 / (16 : Int32) * (16 : Int32)) = 0 → ((p2 < (x_5 + (16 : Int32)) → (wX1_stepAt f_low f_high x_5 (fun r_15 : Int32 => ((∀ x_16 : Int32, x_16 = (x_3 + r_15) → (∀ x_17 : Int32, x_17 = x_5 + (1) → ((p3 = 0 → (∀ x_19 : Int32, x_19 = (if x_16 < x_4 then x_16 else x_4) → (I_2 x_16 x_19 x_17 ∧ mu_2 x_16 x_19 x_17 < mu_2 x_3 x_4 x_5))) ∧ (¬ p3 = 0 → (∀ x_20 : Int32, x_20 = (if x_4 < x_16 then x_16 else x_4) → (I_2 x_16 x_20 x_17 ∧ mu_2 x_16 x_20 x_17 < mu_2 x_3 x_4 x_5)))))))))) ∧ (¬ p2 < (x_5 + (16 : Int32)) → (∀ x_21 : Int32, x_21 = (x_5 / (16 : Int32)) → ((p3 = 0 → (vp_in x_21 8 ∧ (∀ x_23 : Int32, x_23 = (x_3 + (f_lows x_21.toNatClampNeg)) → (vp_in x_21 8 ∧ (∀ x_24 : Int32, x_24 = (x_3 + (f_gains x_21.toNatClampNeg)) → (∀ x_25 : Int32, x_25 = x_5 + (16) → ((p3 = 0 → (∀ x_27 : Int32, x_27 = (if x_23 < x_4 then x_23 else x_4) → (I_2 x_24 x_27 x_25 ∧ mu_2 x_24 x_27 x_25 < mu_2 x_3 x_4 x_5))) ∧ (¬ p3 = 0 → (∀ x_28 : Int32, x_28 = (if x_4 < x_23 then x_23 else x_4) → (I_2 x_24 x_28 x_25 ∧ mu_2 x_24 x_28 x_25 < mu_2 x_3 x_4 x_5)))))))))) ∧ (¬ p3 = 0 → (vp_in x_21 8 ∧ (∀ x_29 : Int32, x_29 = (x_3 + (f_highs x_21.toNatClampNeg)) → (vp_in x_21 8 ∧ (∀ x_30 : Int32, x_30 = (x_3 + (f_gains x_21.toNatClampNeg)) → (∀ x_31 : Int32, x_31 = x_5 + (16) → ((p3 = 0 → (∀ x_33 : Int32, x_33 = (if x_29 < x_4 then x_29 else x_4) → (I_2 x_30 x_33 x_31 ∧ mu_2 x_30 x_33 x_31 < mu_2 x_3 x_4 x_5))) ∧ (¬ p3 = 0 → (∀ x_34 : Int32, x_34 = (if x_4 < x_29 then x_29 else x_4) → (I_2 x_30 x_34 x_31 ∧ mu_2 x_30 x_34 x_31 < mu_2 x_3 x_4 x_5))))))))))))))))))))))
abbrev rX1_extremeIn : Room := { frames := 2, cells := 0, slots := 0, locals := 42 }
theorem vX1_extremeIn : yX1_extremeIn.cls = RX1 ∧ yX1_extremeIn.cls ≠ "java/lang/invoke/MethodHandle" ∧ yX1_extremeIn.cls ≠ "java/lang/invoke/VarHandle" ∧ (parseMethodDescriptor yX1_extremeIn.desc).map (fun d => d.parameters.length) = some 3 := by decide +kernel
set_option maxHeartbeats 4000000 in
set_option maxRecDepth 100000 in
theorem kX1_extremeIn (l : Launch) (D : va_G) (cA : Nat → ClassId) (a0 a_gains a_lows a_highs : Nat) (f_low : Int64) (f_high : Int64) (f_places : Int32) (f_gains : Nat → Int32) (f_lows : Nat → Int32) (f_highs : Nat → Int32) (p1 : Int32) (p2 : Int32) (p3 : Int32) (post : Int32 → Prop) (h : wX1_extremeIn f_low f_high f_gains f_lows f_highs p1 p2 p3 post) : Met l yX1_extremeIn wsX1_extremeIn rX1_extremeIn (zPr D cA [.ref a0, .int p1, .int p2, .int p3] [(a0, .inr (0, [.long f_low, .long f_high, .int f_places, .ref a_gains, .ref a_lows, .ref a_highs])), (a_gains, .inl (cA 0, 8, .inl f_gains)), (a_lows, .inl (cA 0, 8, .inl f_lows)), (a_highs, .inl (cA 0, 8, .inl f_highs))]) (vp_Si post) 0 0 (fun _ => False) := by
  refine z_ro (cc := cX1_extremeIn) (maxL := 9) (ret := (some .int)) (by decide) rfl (Nat.le_of_ble_eq_true rfl) ?_
  intro p e s m args below meth c ls hx hb hr hlk hml hown hts hK hP hl
  have hown : s.vm.findClass RX1 = some m.cls := hown
  have hl : lv_has ls 9 [(0, .ref a0), (1, .int p1), (2, .int p2), (3, .int p3)] := hl
  have hw := h
  unfold wX1_extremeIn at hw
  have mmin1_92 := hts (.methodLink RX1 92 Lib.Math.min.name) (by decide +kernel)
  have mmin2 := hts (.static Lib.Math.min.name) (by decide +kernel)
  have mini := hts (.initialized "java/lang/Math") (by decide +kernel)
  have mmin3 := hts (.code Lib.Math.min.name Lib.Math.min.code 2 (some .int)) (by decide +kernel)
  have mmax1_87 := hts (.methodLink RX1 87 Lib.Math.max.name) (by decide +kernel)
  have mmax2 := hts (.static Lib.Math.max.name) (by decide +kernel)
  have mmax3 := hts (.code Lib.Math.max.name Lib.Math.max.code 2 (some .int)) (by decide +kernel)
  have iwX1 : ∀ w ∈ wsX10, w ∈ wsX1_extremeIn := fun w h9 => List.mem_cons_of_mem _ (List.mem_append_right _ h9)
  have kf15 := hts (.fieldLink RX1 15 "ExcessTree$Row" "lows" "[I") (by decide +kernel)
  have kf9 := hts (.fieldLink RX1 9 "ExcessTree$Row" "gains" "[I") (by decide +kernel)
  have kf18 := hts (.fieldLink RX1 18 "ExcessTree$Row" "highs" "[I") (by decide +kernel)
  refine lv_aload_n hx hb dX1_extremeIn_0 rfl (lv_at hl 0 rfl) ?_
  refine lv_iload_n hx hb dX1_extremeIn_1 rfl (lv_at hl 1 rfl) ?_
  refine z_ri [.int p1] [] ⟨hx, hb, hml, hown, hts⟩ (kX1_excessAt l D cA a0 a_gains a_lows a_highs f_low f_high f_places f_gains f_lows f_highs p1 _ hw) (cwV 1 hts gX1_extremeIn_X1_excessAt rfl rfl rfl vX1_excessAt ⟨Nat.le_of_ble_eq_true rfl, Nat.le_of_ble_eq_true rfl⟩) hK (hP.sub [0, 1, 2, 3] rfl) (va_recv hK.1 (hP.sub (ws' := [(a0, .inr (0, [.long f_low, .long f_high, .int f_places, .ref a_gains, .ref a_lows, .ref a_highs]))]) [0] rfl) (ci := 0) (q0 := 0) rfl rfl) rfl hl.1 rfl (Nat.le_of_ble_eq_true rfl) dX1_extremeIn_2 ⟨Nat.zero_le _, Nat.zero_le _⟩ (fun r_1 hw => ?_)
  refine lv_istore (lv' := [(4, .int r_1), (0, .ref a0), (1, .int p1), (2, .int p2), (3, .int p3)]) hx hb dX1_extremeIn_5 hl (by decide) rfl (fun ls hl => ?_)
  refine lv_iload hx hb dX1_extremeIn_7 (lv_at hl 0 rfl) ?_
  refine lv_istore (lv' := [(5, .int r_1), (4, .int r_1), (0, .ref a0), (1, .int p1), (2, .int p2), (3, .int p3)]) hx hb dX1_extremeIn_9 hl (by decide) rfl (fun ls hl => ?_)
  refine lv_iload_n hx hb dX1_extremeIn_11 rfl (lv_at hl 3 rfl) ?_
  refine lv_istore (lv' := [(6, .int p1), (5, .int r_1), (4, .int r_1), (0, .ref a0), (1, .int p1), (2, .int p2), (3, .int p3)]) hx hb dX1_extremeIn_12 hl (by decide) rfl (fun ls hl => ?_)
  obtain ⟨I_2, mu_2, hI_2, hw⟩ := hw
  have lp_2 : ∀ (nn : Nat) (x_3 : Int32) (x_4 : Int32) (x_5 : Int32) (ls : Array Slot), mu_2 x_3 x_4 x_5 < nn → I_2 x_3 x_4 x_5 → lv_has ls 9 [(0, .ref a0), (2, .int p2), (3, .int p3), (4, .int x_3), (5, .int x_4), (6, .int x_5)] → W p l e rX1_extremeIn s m args below meth c s.heap [] 0 0 (MQ below (vp_Si post) args s 0 0 (fun _ => False)) (F0 m 14 ls []) := by
    intro nn
    induction nn with
    | zero => exact fun _ _ _ _ h0 => absurd h0 (Nat.not_lt_zero _)
    | succ nn ih_2 =>
      intro x_3 x_4 x_5 ls hmu_2 hI_2 hl
      have hw := hw x_3 x_4 x_5 hI_2
      refine lv_iload hx hb dX1_extremeIn_14 (lv_at hl 5 rfl) ?_
      refine lv_iload_n hx hb dX1_extremeIn_16 rfl (lv_at hl 1 rfl) ?_
      refine lv_icmp_ge (tgt := 132) hx hb dX1_extremeIn_17 (by decide) (fun c_6 => ?_) (fun c_6 => ?_)
      · have hw := hw.1 c_6
        refine lv_iload hx hb dX1_extremeIn_132 (lv_at hl 4 rfl) ?_
        exact z_iret hx hb hr hlk hw dX1_extremeIn_134
      · have hw := hw.2 c_6
        refine lv_iload hx hb dX1_extremeIn_20 (lv_at hl 5 rfl) ?_
        refine lv_bipush (v := 16) hx hb dX1_extremeIn_22 (by decide) ?_
        refine lv_irem hx hb dX1_extremeIn_24 (by decide) ?_
        refine lv_if_ne (tgt := 88) hx hb dX1_extremeIn_25 (by decide) (fun c_7 => ?_) (fun c_7 => ?_)
        · have hw := hw.1 c_7
          refine lv_iload hx hb dX1_extremeIn_88 (lv_at hl 3 rfl) ?_
          refine lv_aload_n hx hb dX1_extremeIn_90 rfl (lv_at hl 0 rfl) ?_
          refine lv_iload hx hb dX1_extremeIn_91 (lv_at hl 5 rfl) ?_
          refine z_ri [.int x_5] [.int x_3] ⟨hx, hb, hml, hown, hts⟩ (kX1_stepAt l D cA a0 a_gains a_lows a_highs f_low f_high f_places f_gains f_lows f_highs x_5 _ hw) (cwV 1 hts gX1_extremeIn_X1_stepAt rfl rfl rfl vX1_stepAt ⟨Nat.le_of_ble_eq_true rfl, Nat.le_of_ble_eq_true rfl⟩) hK (hP.sub [0, 1, 2, 3] rfl) (va_recv hK.1 (hP.sub (ws' := [(a0, .inr (0, [.long f_low, .long f_high, .int f_places, .ref a_gains, .ref a_lows, .ref a_highs]))]) [0] rfl) (ci := 0) (q0 := 0) rfl rfl) rfl hl.1 rfl (Nat.le_of_ble_eq_true rfl) dX1_extremeIn_93 ⟨Nat.zero_le _, Nat.zero_le _⟩ (fun r_8 hw => ?_)
          refine lv_iadd hx hb dX1_extremeIn_96 ?_
          refine lv_topi (fun x_9 ex_9 => ?_)
          have hw := hw x_9 ex_9
          refine lv_istore (lv' := [(4, .int x_9), (0, .ref a0), (2, .int p2), (3, .int p3), (5, .int x_4), (6, .int x_5)]) hx hb dX1_extremeIn_97 hl (by decide) rfl (fun ls hl => ?_)
          refine lv_iload hx hb dX1_extremeIn_99 (lv_at hl 0 rfl) ?_
          refine lv_istore (lv' := [(7, .int x_9), (4, .int x_9), (0, .ref a0), (2, .int p2), (3, .int p3), (5, .int x_4), (6, .int x_5)]) hx hb dX1_extremeIn_101 hl (by decide) rfl (fun ls hl => ?_)
          obtain ⟨x_10, ex_10⟩ : ∃ y : Int32, y = x_5 + (1) := ⟨_, rfl⟩
          have hw := hw x_10 ex_10
          refine lv_iinc (v := x_10) (lv' := [(6, .int x_10), (7, .int x_9), (4, .int x_9), (0, .ref a0), (2, .int p2), (3, .int p3), (5, .int x_4)]) hx hb dX1_extremeIn_103 hl (k := 6) rfl (by rw [ex_10]; rfl) (by decide) rfl (fun ls hl => ?_)
          refine lv_iload_n hx hb dX1_extremeIn_106 rfl (lv_at hl 5 rfl) ?_
          refine lv_if_eq (tgt := 120) hx hb dX1_extremeIn_107 (by decide) (fun c_11 => ?_) (fun c_11 => ?_)
          · have hw := hw.1 c_11
            refine lv_iload hx hb dX1_extremeIn_120 (lv_at hl 6 rfl) ?_
            refine lv_iload hx hb dX1_extremeIn_122 (lv_at hl 1 rfl) ?_
            refine va_mmin hx hb (hml.trans hl.1.symm) hown mmin1_92 mmin2 mini mmin3 (Nat.le_of_ble_eq_true rfl) (Nat.le_of_ble_eq_true rfl) (Nat.zero_le _) (Nat.zero_le _) dX1_extremeIn_124 ?_
            refine lv_topi (fun x_12 ex_12 => ?_)
            have hw := hw x_12 ex_12
            refine lv_istore (lv' := [(5, .int x_12), (6, .int x_10), (7, .int x_9), (4, .int x_9), (0, .ref a0), (2, .int p2), (3, .int p3)]) hx hb dX1_extremeIn_127 hl (by decide) rfl (fun ls hl => ?_)
            refine lv_goto (tgt := 14) hx hb dX1_extremeIn_129 (by decide) ?_
            exact ih_2 x_9 x_12 x_10 ls (Nat.lt_of_lt_of_le hw.2 (Nat.le_of_lt_succ hmu_2)) hw.1 (lv_sub hl [4, 5, 6, 3, 0, 1] rfl)
          · have hw := hw.2 c_11
            refine lv_iload hx hb dX1_extremeIn_110 (lv_at hl 6 rfl) ?_
            refine lv_iload hx hb dX1_extremeIn_112 (lv_at hl 1 rfl) ?_
            refine va_mmax hx hb (hml.trans hl.1.symm) hown mmax1_87 mmax2 mini mmax3 (Nat.le_of_ble_eq_true rfl) (Nat.le_of_ble_eq_true rfl) (Nat.zero_le _) (Nat.zero_le _) dX1_extremeIn_114 ?_
            refine lv_goto (tgt := 127) hx hb dX1_extremeIn_117 (by decide) ?_
            refine lv_topi (fun x_13 ex_13 => ?_)
            have hw := hw x_13 ex_13
            refine lv_istore (lv' := [(5, .int x_13), (6, .int x_10), (7, .int x_9), (4, .int x_9), (0, .ref a0), (2, .int p2), (3, .int p3)]) hx hb dX1_extremeIn_127 hl (by decide) rfl (fun ls hl => ?_)
            refine lv_goto (tgt := 14) hx hb dX1_extremeIn_129 (by decide) ?_
            exact ih_2 x_9 x_13 x_10 ls (Nat.lt_of_lt_of_le hw.2 (Nat.le_of_lt_succ hmu_2)) hw.1 (lv_sub hl [4, 5, 6, 3, 0, 1] rfl)
        · have hw := hw.2 c_7
          refine lv_iload hx hb dX1_extremeIn_28 (lv_at hl 5 rfl) ?_
          refine lv_bipush (v := 16) hx hb dX1_extremeIn_30 (by decide) ?_
          refine lv_iadd hx hb dX1_extremeIn_32 ?_
          refine lv_iload_n hx hb dX1_extremeIn_33 rfl (lv_at hl 1 rfl) ?_
          refine lv_icmp_gt (tgt := 88) hx hb dX1_extremeIn_34 (by decide) (fun c_14 => ?_) (fun c_14 => ?_)
          · have hw := hw.1 c_14
            refine lv_iload hx hb dX1_extremeIn_88 (lv_at hl 3 rfl) ?_
            refine lv_aload_n hx hb dX1_extremeIn_90 rfl (lv_at hl 0 rfl) ?_
            refine lv_iload hx hb dX1_extremeIn_91 (lv_at hl 5 rfl) ?_
            refine z_ri [.int x_5] [.int x_3] ⟨hx, hb, hml, hown, hts⟩ (kX1_stepAt l D cA a0 a_gains a_lows a_highs f_low f_high f_places f_gains f_lows f_highs x_5 _ hw) (cwV 1 hts gX1_extremeIn_X1_stepAt rfl rfl rfl vX1_stepAt ⟨Nat.le_of_ble_eq_true rfl, Nat.le_of_ble_eq_true rfl⟩) hK (hP.sub [0, 1, 2, 3] rfl) (va_recv hK.1 (hP.sub (ws' := [(a0, .inr (0, [.long f_low, .long f_high, .int f_places, .ref a_gains, .ref a_lows, .ref a_highs]))]) [0] rfl) (ci := 0) (q0 := 0) rfl rfl) rfl hl.1 rfl (Nat.le_of_ble_eq_true rfl) dX1_extremeIn_93 ⟨Nat.zero_le _, Nat.zero_le _⟩ (fun r_15 hw => ?_)
            refine lv_iadd hx hb dX1_extremeIn_96 ?_
            refine lv_topi (fun x_16 ex_16 => ?_)
            have hw := hw x_16 ex_16
            refine lv_istore (lv' := [(4, .int x_16), (0, .ref a0), (2, .int p2), (3, .int p3), (5, .int x_4), (6, .int x_5)]) hx hb dX1_extremeIn_97 hl (by decide) rfl (fun ls hl => ?_)
            refine lv_iload hx hb dX1_extremeIn_99 (lv_at hl 0 rfl) ?_
            refine lv_istore (lv' := [(7, .int x_16), (4, .int x_16), (0, .ref a0), (2, .int p2), (3, .int p3), (5, .int x_4), (6, .int x_5)]) hx hb dX1_extremeIn_101 hl (by decide) rfl (fun ls hl => ?_)
            obtain ⟨x_17, ex_17⟩ : ∃ y : Int32, y = x_5 + (1) := ⟨_, rfl⟩
            have hw := hw x_17 ex_17
            refine lv_iinc (v := x_17) (lv' := [(6, .int x_17), (7, .int x_16), (4, .int x_16), (0, .ref a0), (2, .int p2), (3, .int p3), (5, .int x_4)]) hx hb dX1_extremeIn_103 hl (k := 6) rfl (by rw [ex_17]; rfl) (by decide) rfl (fun ls hl => ?_)
            refine lv_iload_n hx hb dX1_extremeIn_106 rfl (lv_at hl 5 rfl) ?_
            refine lv_if_eq (tgt := 120) hx hb dX1_extremeIn_107 (by decide) (fun c_18 => ?_) (fun c_18 => ?_)
            · have hw := hw.1 c_18
              refine lv_iload hx hb dX1_extremeIn_120 (lv_at hl 6 rfl) ?_
              refine lv_iload hx hb dX1_extremeIn_122 (lv_at hl 1 rfl) ?_
              refine va_mmin hx hb (hml.trans hl.1.symm) hown mmin1_92 mmin2 mini mmin3 (Nat.le_of_ble_eq_true rfl) (Nat.le_of_ble_eq_true rfl) (Nat.zero_le _) (Nat.zero_le _) dX1_extremeIn_124 ?_
              refine lv_topi (fun x_19 ex_19 => ?_)
              have hw := hw x_19 ex_19
              refine lv_istore (lv' := [(5, .int x_19), (6, .int x_17), (7, .int x_16), (4, .int x_16), (0, .ref a0), (2, .int p2), (3, .int p3)]) hx hb dX1_extremeIn_127 hl (by decide) rfl (fun ls hl => ?_)
              refine lv_goto (tgt := 14) hx hb dX1_extremeIn_129 (by decide) ?_
              exact ih_2 x_16 x_19 x_17 ls (Nat.lt_of_lt_of_le hw.2 (Nat.le_of_lt_succ hmu_2)) hw.1 (lv_sub hl [4, 5, 6, 3, 0, 1] rfl)
            · have hw := hw.2 c_18
              refine lv_iload hx hb dX1_extremeIn_110 (lv_at hl 6 rfl) ?_
              refine lv_iload hx hb dX1_extremeIn_112 (lv_at hl 1 rfl) ?_
              refine va_mmax hx hb (hml.trans hl.1.symm) hown mmax1_87 mmax2 mini mmax3 (Nat.le_of_ble_eq_true rfl) (Nat.le_of_ble_eq_true rfl) (Nat.zero_le _) (Nat.zero_le _) dX1_extremeIn_114 ?_
              refine lv_goto (tgt := 127) hx hb dX1_extremeIn_117 (by decide) ?_
              refine lv_topi (fun x_20 ex_20 => ?_)
              have hw := hw x_20 ex_20
              refine lv_istore (lv' := [(5, .int x_20), (6, .int x_17), (7, .int x_16), (4, .int x_16), (0, .ref a0), (2, .int p2), (3, .int p3)]) hx hb dX1_extremeIn_127 hl (by decide) rfl (fun ls hl => ?_)
              refine lv_goto (tgt := 14) hx hb dX1_extremeIn_129 (by decide) ?_
              exact ih_2 x_16 x_20 x_17 ls (Nat.lt_of_lt_of_le hw.2 (Nat.le_of_lt_succ hmu_2)) hw.1 (lv_sub hl [4, 5, 6, 3, 0, 1] rfl)
          · have hw := hw.2 c_14
            refine lv_iload hx hb dX1_extremeIn_37 (lv_at hl 5 rfl) ?_
            refine lv_bipush (v := 16) hx hb dX1_extremeIn_39 (by decide) ?_
            refine lv_idiv hx hb dX1_extremeIn_41 (by decide) ?_
            refine lv_topi (fun x_21 ex_21 => ?_)
            have hw := hw x_21 ex_21
            refine lv_istore (lv' := [(8, .int x_21), (0, .ref a0), (2, .int p2), (3, .int p3), (4, .int x_3), (5, .int x_4), (6, .int x_5)]) hx hb dX1_extremeIn_42 hl (by decide) rfl (fun ls hl => ?_)
            refine lv_iload hx hb dX1_extremeIn_44 (lv_at hl 4 rfl) ?_
            refine lv_iload_n hx hb dX1_extremeIn_46 rfl (lv_at hl 3 rfl) ?_
            refine lv_if_eq (tgt := 60) hx hb dX1_extremeIn_47 (by decide) (fun c_22 => ?_) (fun c_22 => ?_)
            · have hw := hw.1 c_22
              refine lv_aload_n hx hb dX1_extremeIn_60 rfl (lv_at hl 1 rfl) ?_
              refine va_get (D := D) (ci := 0) (v := .ref a_lows) (C := RX1) (T := TX1) (N := 6) hx hb hts iwX1 hown hK.1 hP 0 rfl rfl 4 (by decide) kf15 (fun _ h9 => h9) rfl dX1_extremeIn_61 ?_
              refine lv_iload hx hb dX1_extremeIn_64 (lv_at hl 0 rfl) ?_
              have hq := hw.1
              have hw := hw.2
              refine va_iald hx hb hK.1 hP 2 0 rfl rfl hq dX1_extremeIn_66 ?_
              refine lv_iadd hx hb dX1_extremeIn_67 ?_
              refine lv_topi (fun x_23 ex_23 => ?_)
              have hw := hw x_23 ex_23
              refine lv_istore (lv' := [(7, .int x_23), (8, .int x_21), (0, .ref a0), (2, .int p2), (3, .int p3), (4, .int x_3), (5, .int x_4), (6, .int x_5)]) hx hb dX1_extremeIn_68 hl (by decide) rfl (fun ls hl => ?_)
              refine lv_iload hx hb dX1_extremeIn_70 (lv_at hl 5 rfl) ?_
              refine lv_aload_n hx hb dX1_extremeIn_72 rfl (lv_at hl 2 rfl) ?_
              refine va_get (D := D) (ci := 0) (v := .ref a_gains) (C := RX1) (T := TX1) (N := 6) hx hb hts iwX1 hown hK.1 hP 0 rfl rfl 3 (by decide) kf9 (fun _ h9 => h9) rfl dX1_extremeIn_73 ?_
              refine lv_iload hx hb dX1_extremeIn_76 (lv_at hl 1 rfl) ?_
              have hq := hw.1
              have hw := hw.2
              refine va_iald hx hb hK.1 hP 1 0 rfl rfl hq dX1_extremeIn_78 ?_
              refine lv_iadd hx hb dX1_extremeIn_79 ?_
              refine lv_topi (fun x_24 ex_24 => ?_)
              have hw := hw x_24 ex_24
              refine lv_istore (lv' := [(4, .int x_24), (7, .int x_23), (8, .int x_21), (0, .ref a0), (2, .int p2), (3, .int p3), (5, .int x_4), (6, .int x_5)]) hx hb dX1_extremeIn_80 hl (by decide) rfl (fun ls hl => ?_)
              obtain ⟨x_25, ex_25⟩ : ∃ y : Int32, y = x_5 + (16) := ⟨_, rfl⟩
              have hw := hw x_25 ex_25
              refine lv_iinc (v := x_25) (lv' := [(6, .int x_25), (4, .int x_24), (7, .int x_23), (8, .int x_21), (0, .ref a0), (2, .int p2), (3, .int p3), (5, .int x_4)]) hx hb dX1_extremeIn_82 hl (k := 7) rfl (by rw [ex_25]; rfl) (by decide) rfl (fun ls hl => ?_)
              refine lv_goto (tgt := 106) hx hb dX1_extremeIn_85 (by decide) ?_
              refine lv_iload_n hx hb dX1_extremeIn_106 rfl (lv_at hl 6 rfl) ?_
              refine lv_if_eq (tgt := 120) hx hb dX1_extremeIn_107 (by decide) (fun c_26 => ?_) (fun c_26 => ?_)
              · have hw := hw.1 c_26
                refine lv_iload hx hb dX1_extremeIn_120 (lv_at hl 7 rfl) ?_
                refine lv_iload hx hb dX1_extremeIn_122 (lv_at hl 2 rfl) ?_
                refine va_mmin hx hb (hml.trans hl.1.symm) hown mmin1_92 mmin2 mini mmin3 (Nat.le_of_ble_eq_true rfl) (Nat.le_of_ble_eq_true rfl) (Nat.zero_le _) (Nat.zero_le _) dX1_extremeIn_124 ?_
                refine lv_topi (fun x_27 ex_27 => ?_)
                have hw := hw x_27 ex_27
                refine lv_istore (lv' := [(5, .int x_27), (6, .int x_25), (4, .int x_24), (7, .int x_23), (8, .int x_21), (0, .ref a0), (2, .int p2), (3, .int p3)]) hx hb dX1_extremeIn_127 hl (by decide) rfl (fun ls hl => ?_)
                refine lv_goto (tgt := 14) hx hb dX1_extremeIn_129 (by decide) ?_
                exact ih_2 x_24 x_27 x_25 ls (Nat.lt_of_lt_of_le hw.2 (Nat.le_of_lt_succ hmu_2)) hw.1 (lv_sub hl [5, 6, 7, 2, 0, 1] rfl)
              · have hw := hw.2 c_26
                refine lv_iload hx hb dX1_extremeIn_110 (lv_at hl 7 rfl) ?_
                refine lv_iload hx hb dX1_extremeIn_112 (lv_at hl 2 rfl) ?_
                refine va_mmax hx hb (hml.trans hl.1.symm) hown mmax1_87 mmax2 mini mmax3 (Nat.le_of_ble_eq_true rfl) (Nat.le_of_ble_eq_true rfl) (Nat.zero_le _) (Nat.zero_le _) dX1_extremeIn_114 ?_
                refine lv_goto (tgt := 127) hx hb dX1_extremeIn_117 (by decide) ?_
                refine lv_topi (fun x_28 ex_28 => ?_)
                have hw := hw x_28 ex_28
                refine lv_istore (lv' := [(5, .int x_28), (6, .int x_25), (4, .int x_24), (7, .int x_23), (8, .int x_21), (0, .ref a0), (2, .int p2), (3, .int p3)]) hx hb dX1_extremeIn_127 hl (by decide) rfl (fun ls hl => ?_)
                refine lv_goto (tgt := 14) hx hb dX1_extremeIn_129 (by decide) ?_
                exact ih_2 x_24 x_28 x_25 ls (Nat.lt_of_lt_of_le hw.2 (Nat.le_of_lt_succ hmu_2)) hw.1 (lv_sub hl [5, 6, 7, 2, 0, 1] rfl)
            · have hw := hw.2 c_22
              refine lv_aload_n hx hb dX1_extremeIn_50 rfl (lv_at hl 1 rfl) ?_
              refine va_get (D := D) (ci := 0) (v := .ref a_highs) (C := RX1) (T := TX1) (N := 6) hx hb hts iwX1 hown hK.1 hP 0 rfl rfl 5 (by decide) kf18 (fun _ h9 => h9) rfl dX1_extremeIn_51 ?_
              refine lv_iload hx hb dX1_extremeIn_54 (lv_at hl 0 rfl) ?_
              have hq := hw.1
              have hw := hw.2
              refine va_iald hx hb hK.1 hP 3 0 rfl rfl hq dX1_extremeIn_56 ?_
              refine lv_goto (tgt := 67) hx hb dX1_extremeIn_57 (by decide) ?_
              refine lv_iadd hx hb dX1_extremeIn_67 ?_
              refine lv_topi (fun x_29 ex_29 => ?_)
              have hw := hw x_29 ex_29
              refine lv_istore (lv' := [(7, .int x_29), (8, .int x_21), (0, .ref a0), (2, .int p2), (3, .int p3), (4, .int x_3), (5, .int x_4), (6, .int x_5)]) hx hb dX1_extremeIn_68 hl (by decide) rfl (fun ls hl => ?_)
              refine lv_iload hx hb dX1_extremeIn_70 (lv_at hl 5 rfl) ?_
              refine lv_aload_n hx hb dX1_extremeIn_72 rfl (lv_at hl 2 rfl) ?_
              refine va_get (D := D) (ci := 0) (v := .ref a_gains) (C := RX1) (T := TX1) (N := 6) hx hb hts iwX1 hown hK.1 hP 0 rfl rfl 3 (by decide) kf9 (fun _ h9 => h9) rfl dX1_extremeIn_73 ?_
              refine lv_iload hx hb dX1_extremeIn_76 (lv_at hl 1 rfl) ?_
              have hq := hw.1
              have hw := hw.2
              refine va_iald hx hb hK.1 hP 1 0 rfl rfl hq dX1_extremeIn_78 ?_
              refine lv_iadd hx hb dX1_extremeIn_79 ?_
              refine lv_topi (fun x_30 ex_30 => ?_)
              have hw := hw x_30 ex_30
              refine lv_istore (lv' := [(4, .int x_30), (7, .int x_29), (8, .int x_21), (0, .ref a0), (2, .int p2), (3, .int p3), (5, .int x_4), (6, .int x_5)]) hx hb dX1_extremeIn_80 hl (by decide) rfl (fun ls hl => ?_)
              obtain ⟨x_31, ex_31⟩ : ∃ y : Int32, y = x_5 + (16) := ⟨_, rfl⟩
              have hw := hw x_31 ex_31
              refine lv_iinc (v := x_31) (lv' := [(6, .int x_31), (4, .int x_30), (7, .int x_29), (8, .int x_21), (0, .ref a0), (2, .int p2), (3, .int p3), (5, .int x_4)]) hx hb dX1_extremeIn_82 hl (k := 7) rfl (by rw [ex_31]; rfl) (by decide) rfl (fun ls hl => ?_)
              refine lv_goto (tgt := 106) hx hb dX1_extremeIn_85 (by decide) ?_
              refine lv_iload_n hx hb dX1_extremeIn_106 rfl (lv_at hl 6 rfl) ?_
              refine lv_if_eq (tgt := 120) hx hb dX1_extremeIn_107 (by decide) (fun c_32 => ?_) (fun c_32 => ?_)
              · have hw := hw.1 c_32
                refine lv_iload hx hb dX1_extremeIn_120 (lv_at hl 7 rfl) ?_
                refine lv_iload hx hb dX1_extremeIn_122 (lv_at hl 2 rfl) ?_
                refine va_mmin hx hb (hml.trans hl.1.symm) hown mmin1_92 mmin2 mini mmin3 (Nat.le_of_ble_eq_true rfl) (Nat.le_of_ble_eq_true rfl) (Nat.zero_le _) (Nat.zero_le _) dX1_extremeIn_124 ?_
                refine lv_topi (fun x_33 ex_33 => ?_)
                have hw := hw x_33 ex_33
                refine lv_istore (lv' := [(5, .int x_33), (6, .int x_31), (4, .int x_30), (7, .int x_29), (8, .int x_21), (0, .ref a0), (2, .int p2), (3, .int p3)]) hx hb dX1_extremeIn_127 hl (by decide) rfl (fun ls hl => ?_)
                refine lv_goto (tgt := 14) hx hb dX1_extremeIn_129 (by decide) ?_
                exact ih_2 x_30 x_33 x_31 ls (Nat.lt_of_lt_of_le hw.2 (Nat.le_of_lt_succ hmu_2)) hw.1 (lv_sub hl [5, 6, 7, 2, 0, 1] rfl)
              · have hw := hw.2 c_32
                refine lv_iload hx hb dX1_extremeIn_110 (lv_at hl 7 rfl) ?_
                refine lv_iload hx hb dX1_extremeIn_112 (lv_at hl 2 rfl) ?_
                refine va_mmax hx hb (hml.trans hl.1.symm) hown mmax1_87 mmax2 mini mmax3 (Nat.le_of_ble_eq_true rfl) (Nat.le_of_ble_eq_true rfl) (Nat.zero_le _) (Nat.zero_le _) dX1_extremeIn_114 ?_
                refine lv_goto (tgt := 127) hx hb dX1_extremeIn_117 (by decide) ?_
                refine lv_topi (fun x_34 ex_34 => ?_)
                have hw := hw x_34 ex_34
                refine lv_istore (lv' := [(5, .int x_34), (6, .int x_31), (4, .int x_30), (7, .int x_29), (8, .int x_21), (0, .ref a0), (2, .int p2), (3, .int p3)]) hx hb dX1_extremeIn_127 hl (by decide) rfl (fun ls hl => ?_)
                refine lv_goto (tgt := 14) hx hb dX1_extremeIn_129 (by decide) ?_
                exact ih_2 x_30 x_34 x_31 ls (Nat.lt_of_lt_of_le hw.2 (Nat.le_of_lt_succ hmu_2)) hw.1 (lv_sub hl [5, 6, 7, 2, 0, 1] rfl)
  exact lp_2 (mu_2 r_1 r_1 p1 + 1) r_1 r_1 p1 ls (Nat.lt_succ_self _) hI_2 (lv_sub hl [3, 5, 6, 2, 1, 0] rfl)
def wX1_firstWith (f_low : Int64) (f_high : Int64) (f_places : Int32) (f_gains : Nat → Int32) (f_lows : Nat → Int32) (f_highs : Nat → Int32) (p1 : Int32) (p2 : Int32) (post : Int32 → Prop) : Prop := (wX1_excessAt f_low f_high p1 (fun r_1 : Int32 => (((¬ r_1 = p2 → (wX1_searchOn f_low f_high f_places f_gains f_lows f_highs p1 p2 (fun r_3 : Int32 => (post r_3)))) ∧ (r_1 = p2 → post p1)))))
abbrev rX1_firstWith : Room := { frames := 3, cells := 0, slots := 0, locals := 66 }
theorem vX1_firstWith : yX1_firstWith.cls = RX1 ∧ yX1_firstWith.cls ≠ "java/lang/invoke/MethodHandle" ∧ yX1_firstWith.cls ≠ "java/lang/invoke/VarHandle" ∧ (parseMethodDescriptor yX1_firstWith.desc).map (fun d => d.parameters.length) = some 2 := by decide +kernel
set_option maxHeartbeats 4000000 in
set_option maxRecDepth 100000 in
theorem kX1_firstWith (l : Launch) (D : va_G) (cA : Nat → ClassId) (a0 a_gains a_lows a_highs : Nat) (f_low : Int64) (f_high : Int64) (f_places : Int32) (f_gains : Nat → Int32) (f_lows : Nat → Int32) (f_highs : Nat → Int32) (p1 : Int32) (p2 : Int32) (post : Int32 → Prop) (h : wX1_firstWith f_low f_high f_places f_gains f_lows f_highs p1 p2 post) : Met l yX1_firstWith wsX1_firstWith rX1_firstWith (zPr D cA [.ref a0, .int p1, .int p2] [(a0, .inr (0, [.long f_low, .long f_high, .int f_places, .ref a_gains, .ref a_lows, .ref a_highs])), (a_gains, .inl (cA 0, 8, .inl f_gains)), (a_lows, .inl (cA 0, 8, .inl f_lows)), (a_highs, .inl (cA 0, 8, .inl f_highs))]) (vp_Si post) 0 0 (fun _ => False) := by
  refine z_ro (cc := cX1_firstWith) (maxL := 3) (ret := (some .int)) (by decide) rfl (Nat.le_of_ble_eq_true rfl) ?_
  intro p e s m args below meth c ls hx hb hr hlk hml hown hts hK hP hl
  have hown : s.vm.findClass RX1 = some m.cls := hown
  have hl : lv_has ls 3 [(0, .ref a0), (1, .int p1), (2, .int p2)] := hl
  have hw := h
  unfold wX1_firstWith at hw
  refine lv_aload_n hx hb dX1_firstWith_0 rfl (lv_at hl 0 rfl) ?_
  refine lv_iload_n hx hb dX1_firstWith_1 rfl (lv_at hl 1 rfl) ?_
  refine z_ri [.int p1] [] ⟨hx, hb, hml, hown, hts⟩ (kX1_excessAt l D cA a0 a_gains a_lows a_highs f_low f_high f_places f_gains f_lows f_highs p1 _ hw) (cwV 1 hts gX1_firstWith_X1_excessAt rfl rfl rfl vX1_excessAt ⟨Nat.le_of_ble_eq_true rfl, Nat.le_of_ble_eq_true rfl⟩) hK (hP.sub [0, 1, 2, 3] rfl) (va_recv hK.1 (hP.sub (ws' := [(a0, .inr (0, [.long f_low, .long f_high, .int f_places, .ref a_gains, .ref a_lows, .ref a_highs]))]) [0] rfl) (ci := 0) (q0 := 0) rfl rfl) rfl hl.1 rfl (Nat.le_of_ble_eq_true rfl) dX1_firstWith_2 ⟨Nat.zero_le _, Nat.zero_le _⟩ (fun r_1 hw => ?_)
  refine lv_iload_n hx hb dX1_firstWith_5 rfl (lv_at hl 2 rfl) ?_
  refine lv_icmp_ne (tgt := 13) hx hb dX1_firstWith_6 (by decide) (fun c_2 => ?_) (fun c_2 => ?_)
  · have hw := hw.1 c_2
    refine lv_aload_n hx hb dX1_firstWith_13 rfl (lv_at hl 0 rfl) ?_
    refine lv_iload_n hx hb dX1_firstWith_14 rfl (lv_at hl 1 rfl) ?_
    refine lv_iload_n hx hb dX1_firstWith_15 rfl (lv_at hl 2 rfl) ?_
    refine z_ri [.int p1, .int p2] [] ⟨hx, hb, hml, hown, hts⟩ (kX1_searchOn l D cA a0 a_gains a_lows a_highs f_low f_high f_places f_gains f_lows f_highs p1 p2 _ hw) (cwV 2 hts gX1_firstWith_X1_searchOn rfl rfl rfl vX1_searchOn ⟨Nat.le_of_ble_eq_true rfl, Nat.le_of_ble_eq_true rfl⟩) hK (hP.sub [0, 1, 2, 3] rfl) (va_recv hK.1 (hP.sub (ws' := [(a0, .inr (0, [.long f_low, .long f_high, .int f_places, .ref a_gains, .ref a_lows, .ref a_highs]))]) [0] rfl) (ci := 0) (q0 := 0) rfl rfl) rfl hl.1 rfl (Nat.le_of_ble_eq_true rfl) dX1_firstWith_16 ⟨Nat.zero_le _, Nat.zero_le _⟩ (fun r_3 hw => ?_)
    exact z_iret hx hb hr hlk hw dX1_firstWith_19
  · have hw := hw.2 c_2
    refine lv_iload_n hx hb dX1_firstWith_9 rfl (lv_at hl 1 rfl) ?_
    refine lv_goto (tgt := 19) hx hb dX1_firstWith_10 (by decide) ?_
    exact z_iret hx hb hr hlk hw dX1_firstWith_19
def wX1_pointsWith (f_low : Int64) (f_high : Int64) (p1 : Int32) (p2 : Int32) (p3 : Int32) (post : Int32 → Prop) : Prop := (wX1_excessAt f_low f_high p1 (fun r_1 : Int32 => (((¬ r_1 = p3 → (∃ (I_3 : Int32 → Int32 → Int32 → Prop) (mu_3 : Int32 → Int32 → Int32 → Nat), I_3 r_1 (0 : Int32) p1 ∧ ∀ (x_4 : Int32) (x_5 : Int32) (x_6 : Int32), I_3 x_4 x_5 x_6 → ((p2 ≤ x_6 → post x_5) ∧ (¬ p2 ≤ x_6 → (wX1_stepAt f_low f_high x_6 (fun r_8 : Int32 => ((∀ x_9 : Int32, x_9 = (x_4 + r_8) → ((¬ x_9 = p3 → (∀ x_11 : Int32, x_11 = x_6 + (1) → (I_3 x_9 x_5 x_11 ∧ mu_3 x_9 x_5 x_11 < mu_3 x_4 x_5 x_6))) ∧ (x_9 = p3 → (∀ x_12 : Int32, x_12 = x_5 + (1) → (∀ x_13 : Int32, x_13 = x_6 + (1) → (I_3 x_9 x_12 x_13 ∧ mu_3 x_9 x_12 x_13 < mu_3 x_4 x_5 x_6))))))))))))) ∧ (r_1 = p3 → (∃ (I_14 : Int32 → Int32 → Int32 → Prop) (mu_14 : Int32 → Int32 → Int32 → Nat), I_14 r_1 (1 : Int32) p1 ∧ ∀ (x_15 : Int32) (x_16 : Int32) (x_17 : Int32), I_14 x_15 x_16 x_17 → ((p2 ≤ x_17 → post x_16) ∧ (¬ p2 ≤ x_17 → (wX1_stepAt f_low f_high x_17 (fun r_19 : Int32 => ((∀ x_20 : Int32, x_20 = (x_15 + r_19) → ((¬ x_20 = p3 → (∀ x_22 : Int32, x_22 = x_17 + (1) → (I_14 x_20 x_16 x_22 ∧ mu_14 x_20 x_16 x_22 < mu_14 x_15 x_16 x_17))) ∧ (x_20 = p3 → (∀ x_23 : Int32, x_23 = x_16 + (1) → (∀ x_24 : Int32, x_24 = x_17 + (1) → (I_14 x_20 x_23 x_24 ∧ mu_14 x_20 x_23 x_24 < mu_14 x_15 x_16 x_17)))))))))))))))))
abbrev rX1_pointsWith : Room := { frames := 2, cells := 0, slots := 0, locals := 42 }
theorem vX1_pointsWith : yX1_pointsWith.cls = RX1 ∧ yX1_pointsWith.cls ≠ "java/lang/invoke/MethodHandle" ∧ yX1_pointsWith.cls ≠ "java/lang/invoke/VarHandle" ∧ (parseMethodDescriptor yX1_pointsWith.desc).map (fun d => d.parameters.length) = some 3 := by decide +kernel
set_option maxHeartbeats 4000000 in
set_option maxRecDepth 100000 in
theorem kX1_pointsWith (l : Launch) (D : va_G) (cA : Nat → ClassId) (a0 a_gains a_lows a_highs : Nat) (f_low : Int64) (f_high : Int64) (f_places : Int32) (f_gains : Nat → Int32) (f_lows : Nat → Int32) (f_highs : Nat → Int32) (p1 : Int32) (p2 : Int32) (p3 : Int32) (post : Int32 → Prop) (h : wX1_pointsWith f_low f_high p1 p2 p3 post) : Met l yX1_pointsWith wsX1_pointsWith rX1_pointsWith (zPr D cA [.ref a0, .int p1, .int p2, .int p3] [(a0, .inr (0, [.long f_low, .long f_high, .int f_places, .ref a_gains, .ref a_lows, .ref a_highs])), (a_gains, .inl (cA 0, 8, .inl f_gains)), (a_lows, .inl (cA 0, 8, .inl f_lows)), (a_highs, .inl (cA 0, 8, .inl f_highs))]) (vp_Si post) 0 0 (fun _ => False) := by
  refine z_ro (cc := cX1_pointsWith) (maxL := 7) (ret := (some .int)) (by decide) rfl (Nat.le_of_ble_eq_true rfl) ?_
  intro p e s m args below meth c ls hx hb hr hlk hml hown hts hK hP hl
  have hown : s.vm.findClass RX1 = some m.cls := hown
  have hl : lv_has ls 7 [(0, .ref a0), (1, .int p1), (2, .int p2), (3, .int p3)] := hl
  have hw := h
  unfold wX1_pointsWith at hw
  refine lv_aload_n hx hb dX1_pointsWith_0 rfl (lv_at hl 0 rfl) ?_
  refine lv_iload_n hx hb dX1_pointsWith_1 rfl (lv_at hl 1 rfl) ?_
  refine z_ri [.int p1] [] ⟨hx, hb, hml, hown, hts⟩ (kX1_excessAt l D cA a0 a_gains a_lows a_highs f_low f_high f_places f_gains f_lows f_highs p1 _ hw) (cwV 1 hts gX1_pointsWith_X1_excessAt rfl rfl rfl vX1_excessAt ⟨Nat.le_of_ble_eq_true rfl, Nat.le_of_ble_eq_true rfl⟩) hK (hP.sub [0, 1, 2, 3] rfl) (va_recv hK.1 (hP.sub (ws' := [(a0, .inr (0, [.long f_low, .long f_high, .int f_places, .ref a_gains, .ref a_lows, .ref a_highs]))]) [0] rfl) (ci := 0) (q0 := 0) rfl rfl) rfl hl.1 rfl (Nat.le_of_ble_eq_true rfl) dX1_pointsWith_2 ⟨Nat.zero_le _, Nat.zero_le _⟩ (fun r_1 hw => ?_)
  refine lv_istore (lv' := [(4, .int r_1), (0, .ref a0), (1, .int p1), (2, .int p2), (3, .int p3)]) hx hb dX1_pointsWith_5 hl (by decide) rfl (fun ls hl => ?_)
  refine lv_iload hx hb dX1_pointsWith_7 (lv_at hl 0 rfl) ?_
  refine lv_iload_n hx hb dX1_pointsWith_9 rfl (lv_at hl 4 rfl) ?_
  refine lv_icmp_ne (tgt := 17) hx hb dX1_pointsWith_10 (by decide) (fun c_2 => ?_) (fun c_2 => ?_)
  · have hw := hw.1 c_2
    refine lv_iconst (v := 0) hx hb dX1_pointsWith_17 (by decide) ?_
    refine lv_istore (lv' := [(5, .int (0 : Int32)), (4, .int r_1), (0, .ref a0), (1, .int p1), (2, .int p2), (3, .int p3)]) hx hb dX1_pointsWith_18 hl (by decide) rfl (fun ls hl => ?_)
    refine lv_iload_n hx hb dX1_pointsWith_20 rfl (lv_at hl 3 rfl) ?_
    refine lv_istore (lv' := [(6, .int p1), (5, .int (0 : Int32)), (4, .int r_1), (0, .ref a0), (1, .int p1), (2, .int p2), (3, .int p3)]) hx hb dX1_pointsWith_21 hl (by decide) rfl (fun ls hl => ?_)
    obtain ⟨I_3, mu_3, hI_3, hw⟩ := hw
    have lp_3 : ∀ (nn : Nat) (x_4 : Int32) (x_5 : Int32) (x_6 : Int32) (ls : Array Slot), mu_3 x_4 x_5 x_6 < nn → I_3 x_4 x_5 x_6 → lv_has ls 7 [(0, .ref a0), (2, .int p2), (3, .int p3), (4, .int x_4), (5, .int x_5), (6, .int x_6)] → W p l e rX1_pointsWith s m args below meth c s.heap [] 0 0 (MQ below (vp_Si post) args s 0 0 (fun _ => False)) (F0 m 23 ls []) := by
      intro nn
      induction nn with
      | zero => exact fun _ _ _ _ h0 => absurd h0 (Nat.not_lt_zero _)
      | succ nn ih_3 =>
        intro x_4 x_5 x_6 ls hmu_3 hI_3 hl
        have hw := hw x_4 x_5 x_6 hI_3
        refine lv_iload hx hb dX1_pointsWith_23 (lv_at hl 5 rfl) ?_
        refine lv_iload_n hx hb dX1_pointsWith_25 rfl (lv_at hl 1 rfl) ?_
        refine lv_icmp_ge (tgt := 55) hx hb dX1_pointsWith_26 (by decide) (fun c_7 => ?_) (fun c_7 => ?_)
        · have hw := hw.1 c_7
          refine lv_iload hx hb dX1_pointsWith_55 (lv_at hl 4 rfl) ?_
          exact z_iret hx hb hr hlk hw dX1_pointsWith_57
        · have hw := hw.2 c_7
          refine lv_iload hx hb dX1_pointsWith_29 (lv_at hl 3 rfl) ?_
          refine lv_aload_n hx hb dX1_pointsWith_31 rfl (lv_at hl 0 rfl) ?_
          refine lv_iload hx hb dX1_pointsWith_32 (lv_at hl 5 rfl) ?_
          refine z_ri [.int x_6] [.int x_4] ⟨hx, hb, hml, hown, hts⟩ (kX1_stepAt l D cA a0 a_gains a_lows a_highs f_low f_high f_places f_gains f_lows f_highs x_6 _ hw) (cwV 1 hts gX1_pointsWith_X1_stepAt rfl rfl rfl vX1_stepAt ⟨Nat.le_of_ble_eq_true rfl, Nat.le_of_ble_eq_true rfl⟩) hK (hP.sub [0, 1, 2, 3] rfl) (va_recv hK.1 (hP.sub (ws' := [(a0, .inr (0, [.long f_low, .long f_high, .int f_places, .ref a_gains, .ref a_lows, .ref a_highs]))]) [0] rfl) (ci := 0) (q0 := 0) rfl rfl) rfl hl.1 rfl (Nat.le_of_ble_eq_true rfl) dX1_pointsWith_34 ⟨Nat.zero_le _, Nat.zero_le _⟩ (fun r_8 hw => ?_)
          refine lv_iadd hx hb dX1_pointsWith_37 ?_
          refine lv_topi (fun x_9 ex_9 => ?_)
          have hw := hw x_9 ex_9
          refine lv_istore (lv' := [(4, .int x_9), (0, .ref a0), (2, .int p2), (3, .int p3), (5, .int x_5), (6, .int x_6)]) hx hb dX1_pointsWith_38 hl (by decide) rfl (fun ls hl => ?_)
          refine lv_iload hx hb dX1_pointsWith_40 (lv_at hl 0 rfl) ?_
          refine lv_iload_n hx hb dX1_pointsWith_42 rfl (lv_at hl 3 rfl) ?_
          refine lv_icmp_ne (tgt := 49) hx hb dX1_pointsWith_43 (by decide) (fun c_10 => ?_) (fun c_10 => ?_)
          · have hw := hw.1 c_10
            obtain ⟨x_11, ex_11⟩ : ∃ y : Int32, y = x_6 + (1) := ⟨_, rfl⟩
            have hw := hw x_11 ex_11
            refine lv_iinc (v := x_11) (lv' := [(6, .int x_11), (4, .int x_9), (0, .ref a0), (2, .int p2), (3, .int p3), (5, .int x_5)]) hx hb dX1_pointsWith_49 hl (k := 5) rfl (by rw [ex_11]; rfl) (by decide) rfl (fun ls hl => ?_)
            refine lv_goto (tgt := 23) hx hb dX1_pointsWith_52 (by decide) ?_
            exact ih_3 x_9 x_5 x_11 ls (Nat.lt_of_lt_of_le hw.2 (Nat.le_of_lt_succ hmu_3)) hw.1 (lv_sub hl [2, 3, 4, 1, 5, 0] rfl)
          · have hw := hw.2 c_10
            obtain ⟨x_12, ex_12⟩ : ∃ y : Int32, y = x_5 + (1) := ⟨_, rfl⟩
            have hw := hw x_12 ex_12
            refine lv_iinc (v := x_12) (lv' := [(5, .int x_12), (4, .int x_9), (0, .ref a0), (2, .int p2), (3, .int p3), (6, .int x_6)]) hx hb dX1_pointsWith_46 hl (k := 4) rfl (by rw [ex_12]; rfl) (by decide) rfl (fun ls hl => ?_)
            obtain ⟨x_13, ex_13⟩ : ∃ y : Int32, y = x_6 + (1) := ⟨_, rfl⟩
            have hw := hw x_13 ex_13
            refine lv_iinc (v := x_13) (lv' := [(6, .int x_13), (5, .int x_12), (4, .int x_9), (0, .ref a0), (2, .int p2), (3, .int p3)]) hx hb dX1_pointsWith_49 hl (k := 5) rfl (by rw [ex_13]; rfl) (by decide) rfl (fun ls hl => ?_)
            refine lv_goto (tgt := 23) hx hb dX1_pointsWith_52 (by decide) ?_
            exact ih_3 x_9 x_12 x_13 ls (Nat.lt_of_lt_of_le hw.2 (Nat.le_of_lt_succ hmu_3)) hw.1 (lv_sub hl [3, 4, 5, 2, 1, 0] rfl)
    exact lp_3 (mu_3 r_1 (0 : Int32) p1 + 1) r_1 (0 : Int32) p1 ls (Nat.lt_succ_self _) hI_3 (lv_sub hl [3, 5, 6, 2, 1, 0] rfl)
  · have hw := hw.2 c_2
    refine lv_iconst (v := 1) hx hb dX1_pointsWith_13 (by decide) ?_
    refine lv_goto (tgt := 18) hx hb dX1_pointsWith_14 (by decide) ?_
    refine lv_istore (lv' := [(5, .int (1 : Int32)), (4, .int r_1), (0, .ref a0), (1, .int p1), (2, .int p2), (3, .int p3)]) hx hb dX1_pointsWith_18 hl (by decide) rfl (fun ls hl => ?_)
    refine lv_iload_n hx hb dX1_pointsWith_20 rfl (lv_at hl 3 rfl) ?_
    refine lv_istore (lv' := [(6, .int p1), (5, .int (1 : Int32)), (4, .int r_1), (0, .ref a0), (1, .int p1), (2, .int p2), (3, .int p3)]) hx hb dX1_pointsWith_21 hl (by decide) rfl (fun ls hl => ?_)
    obtain ⟨I_14, mu_14, hI_14, hw⟩ := hw
    have lp_14 : ∀ (nn : Nat) (x_15 : Int32) (x_16 : Int32) (x_17 : Int32) (ls : Array Slot), mu_14 x_15 x_16 x_17 < nn → I_14 x_15 x_16 x_17 → lv_has ls 7 [(0, .ref a0), (2, .int p2), (3, .int p3), (4, .int x_15), (5, .int x_16), (6, .int x_17)] → W p l e rX1_pointsWith s m args below meth c s.heap [] 0 0 (MQ below (vp_Si post) args s 0 0 (fun _ => False)) (F0 m 23 ls []) := by
      intro nn
      induction nn with
      | zero => exact fun _ _ _ _ h0 => absurd h0 (Nat.not_lt_zero _)
      | succ nn ih_14 =>
        intro x_15 x_16 x_17 ls hmu_14 hI_14 hl
        have hw := hw x_15 x_16 x_17 hI_14
        refine lv_iload hx hb dX1_pointsWith_23 (lv_at hl 5 rfl) ?_
        refine lv_iload_n hx hb dX1_pointsWith_25 rfl (lv_at hl 1 rfl) ?_
        refine lv_icmp_ge (tgt := 55) hx hb dX1_pointsWith_26 (by decide) (fun c_18 => ?_) (fun c_18 => ?_)
        · have hw := hw.1 c_18
          refine lv_iload hx hb dX1_pointsWith_55 (lv_at hl 4 rfl) ?_
          exact z_iret hx hb hr hlk hw dX1_pointsWith_57
        · have hw := hw.2 c_18
          refine lv_iload hx hb dX1_pointsWith_29 (lv_at hl 3 rfl) ?_
          refine lv_aload_n hx hb dX1_pointsWith_31 rfl (lv_at hl 0 rfl) ?_
          refine lv_iload hx hb dX1_pointsWith_32 (lv_at hl 5 rfl) ?_
          refine z_ri [.int x_17] [.int x_15] ⟨hx, hb, hml, hown, hts⟩ (kX1_stepAt l D cA a0 a_gains a_lows a_highs f_low f_high f_places f_gains f_lows f_highs x_17 _ hw) (cwV 1 hts gX1_pointsWith_X1_stepAt rfl rfl rfl vX1_stepAt ⟨Nat.le_of_ble_eq_true rfl, Nat.le_of_ble_eq_true rfl⟩) hK (hP.sub [0, 1, 2, 3] rfl) (va_recv hK.1 (hP.sub (ws' := [(a0, .inr (0, [.long f_low, .long f_high, .int f_places, .ref a_gains, .ref a_lows, .ref a_highs]))]) [0] rfl) (ci := 0) (q0 := 0) rfl rfl) rfl hl.1 rfl (Nat.le_of_ble_eq_true rfl) dX1_pointsWith_34 ⟨Nat.zero_le _, Nat.zero_le _⟩ (fun r_19 hw => ?_)
          refine lv_iadd hx hb dX1_pointsWith_37 ?_
          refine lv_topi (fun x_20 ex_20 => ?_)
          have hw := hw x_20 ex_20
          refine lv_istore (lv' := [(4, .int x_20), (0, .ref a0), (2, .int p2), (3, .int p3), (5, .int x_16), (6, .int x_17)]) hx hb dX1_pointsWith_38 hl (by decide) rfl (fun ls hl => ?_)
          refine lv_iload hx hb dX1_pointsWith_40 (lv_at hl 0 rfl) ?_
          refine lv_iload_n hx hb dX1_pointsWith_42 rfl (lv_at hl 3 rfl) ?_
          refine lv_icmp_ne (tgt := 49) hx hb dX1_pointsWith_43 (by decide) (fun c_21 => ?_) (fun c_21 => ?_)
          · have hw := hw.1 c_21
            obtain ⟨x_22, ex_22⟩ : ∃ y : Int32, y = x_17 + (1) := ⟨_, rfl⟩
            have hw := hw x_22 ex_22
            refine lv_iinc (v := x_22) (lv' := [(6, .int x_22), (4, .int x_20), (0, .ref a0), (2, .int p2), (3, .int p3), (5, .int x_16)]) hx hb dX1_pointsWith_49 hl (k := 5) rfl (by rw [ex_22]; rfl) (by decide) rfl (fun ls hl => ?_)
            refine lv_goto (tgt := 23) hx hb dX1_pointsWith_52 (by decide) ?_
            exact ih_14 x_20 x_16 x_22 ls (Nat.lt_of_lt_of_le hw.2 (Nat.le_of_lt_succ hmu_14)) hw.1 (lv_sub hl [2, 3, 4, 1, 5, 0] rfl)
          · have hw := hw.2 c_21
            obtain ⟨x_23, ex_23⟩ : ∃ y : Int32, y = x_16 + (1) := ⟨_, rfl⟩
            have hw := hw x_23 ex_23
            refine lv_iinc (v := x_23) (lv' := [(5, .int x_23), (4, .int x_20), (0, .ref a0), (2, .int p2), (3, .int p3), (6, .int x_17)]) hx hb dX1_pointsWith_46 hl (k := 4) rfl (by rw [ex_23]; rfl) (by decide) rfl (fun ls hl => ?_)
            obtain ⟨x_24, ex_24⟩ : ∃ y : Int32, y = x_17 + (1) := ⟨_, rfl⟩
            have hw := hw x_24 ex_24
            refine lv_iinc (v := x_24) (lv' := [(6, .int x_24), (5, .int x_23), (4, .int x_20), (0, .ref a0), (2, .int p2), (3, .int p3)]) hx hb dX1_pointsWith_49 hl (k := 5) rfl (by rw [ex_24]; rfl) (by decide) rfl (fun ls hl => ?_)
            refine lv_goto (tgt := 23) hx hb dX1_pointsWith_52 (by decide) ?_
            exact ih_14 x_20 x_23 x_24 ls (Nat.lt_of_lt_of_le hw.2 (Nat.le_of_lt_succ hmu_14)) hw.1 (lv_sub hl [3, 4, 5, 2, 1, 0] rfl)
    exact lp_14 (mu_14 r_1 (1 : Int32) p1 + 1) r_1 (1 : Int32) p1 ls (Nat.lt_succ_self _) hI_14 (lv_sub hl [3, 5, 6, 2, 1, 0] rfl)
def wX1_isOfTree (f_low : Int64) (f_high : Int64) (f_places : Int32) (f_gains : Nat → Int32) (f_lows : Nat → Int32) (f_highs : Nat → Int32)  (post : Int32 → Prop) : Prop := ((f_places = 0 → post (1 : Int32)) ∧ (¬ f_places = 0 → (wX1_bitAt f_low f_high (0 : Int32) (fun r_2 : Int32 => (((¬ r_2 = (1 : Int32) → post (0 : Int32)) ∧ (r_2 = (1 : Int32) → (wX1_searchOn f_low f_high f_places f_gains f_lows f_highs (0 : Int32) (0 : Int32) (fun r_4 : Int32 => (((¬ r_4 = f_places → post (0 : Int32)) ∧ (r_4 = f_places → post (1 : Int32)))))))))))))
abbrev rX1_isOfTree : Room := { frames := 3, cells := 0, slots := 0, locals := 66 }
theorem vX1_isOfTree : yX1_isOfTree.cls = RX1 ∧ yX1_isOfTree.cls ≠ "java/lang/invoke/MethodHandle" ∧ yX1_isOfTree.cls ≠ "java/lang/invoke/VarHandle" ∧ (parseMethodDescriptor yX1_isOfTree.desc).map (fun d => d.parameters.length) = some 0 := by decide +kernel
set_option maxHeartbeats 4000000 in
set_option maxRecDepth 100000 in
theorem kX1_isOfTree (l : Launch) (D : va_G) (cA : Nat → ClassId) (a0 a_gains a_lows a_highs : Nat) (f_low : Int64) (f_high : Int64) (f_places : Int32) (f_gains : Nat → Int32) (f_lows : Nat → Int32) (f_highs : Nat → Int32)  (post : Int32 → Prop) (h : wX1_isOfTree f_low f_high f_places f_gains f_lows f_highs post) : Met l yX1_isOfTree wsX1_isOfTree rX1_isOfTree (zPr D cA [.ref a0] [(a0, .inr (0, [.long f_low, .long f_high, .int f_places, .ref a_gains, .ref a_lows, .ref a_highs])), (a_gains, .inl (cA 0, 8, .inl f_gains)), (a_lows, .inl (cA 0, 8, .inl f_lows)), (a_highs, .inl (cA 0, 8, .inl f_highs))]) (vp_Si post) 0 0 (fun _ => False) := by
  refine z_ro (cc := cX1_isOfTree) (maxL := 1) (ret := (some .boolean)) (by decide) rfl (Nat.le_of_ble_eq_true rfl) ?_
  intro p e s m args below meth c ls hx hb hr hlk hml hown hts hK hP hl
  have hown : s.vm.findClass RX1 = some m.cls := hown
  have hl : lv_has ls 1 [(0, .ref a0)] := hl
  have hw := h
  unfold wX1_isOfTree at hw
  have iwX1 : ∀ w ∈ wsX10, w ∈ wsX1_isOfTree := fun w h9 => List.mem_cons_of_mem _ (List.mem_append_right _ h9)
  have kf21 := hts (.fieldLink RX1 21 "ExcessTree$Row" "places" "I") (by decide +kernel)
  refine lv_aload_n hx hb dX1_isOfTree_0 rfl (lv_at hl 0 rfl) ?_
  refine va_get (D := D) (ci := 0) (v := .int f_places) (C := RX1) (T := TX1) (N := 6) hx hb hts iwX1 hown hK.1 hP 0 rfl rfl 2 (by decide) kf21 (fun _ h9 => h9) rfl dX1_isOfTree_1 ?_
  refine lv_if_eq (tgt := 29) hx hb dX1_isOfTree_4 (by decide) (fun c_1 => ?_) (fun c_1 => ?_)
  · have hw := hw.1 c_1
    refine lv_iconst (v := 1) hx hb dX1_isOfTree_29 (by decide) ?_
    refine lv_goto (tgt := 34) hx hb dX1_isOfTree_30 (by decide) ?_
    exact z_zret hx hb hr hlk rfl hw dX1_isOfTree_34
  · have hw := hw.2 c_1
    refine lv_aload_n hx hb dX1_isOfTree_7 rfl (lv_at hl 0 rfl) ?_
    refine lv_iconst (v := 0) hx hb dX1_isOfTree_8 (by decide) ?_
    refine z_ri [.int (0 : Int32)] [] ⟨hx, hb, hml, hown, hts⟩ (kX1_bitAt l D cA a0 a_gains a_lows a_highs f_low f_high f_places f_gains f_lows f_highs (0 : Int32) _ hw) (cwV 1 hts gX1_isOfTree_X1_bitAt rfl rfl rfl vX1_bitAt ⟨Nat.le_of_ble_eq_true rfl, Nat.le_of_ble_eq_true rfl⟩) hK (hP.sub [0, 1, 2, 3] rfl) (va_recv hK.1 (hP.sub (ws' := [(a0, .inr (0, [.long f_low, .long f_high, .int f_places, .ref a_gains, .ref a_lows, .ref a_highs]))]) [0] rfl) (ci := 0) (q0 := 0) rfl rfl) rfl hl.1 rfl (Nat.le_of_ble_eq_true rfl) dX1_isOfTree_9 ⟨Nat.zero_le _, Nat.zero_le _⟩ (fun r_2 hw => ?_)
    refine lv_iconst (v := 1) hx hb dX1_isOfTree_12 (by decide) ?_
    refine lv_icmp_ne (tgt := 33) hx hb dX1_isOfTree_13 (by decide) (fun c_3 => ?_) (fun c_3 => ?_)
    · have hw := hw.1 c_3
      refine lv_iconst (v := 0) hx hb dX1_isOfTree_33 (by decide) ?_
      exact z_zret hx hb hr hlk rfl hw dX1_isOfTree_34
    · have hw := hw.2 c_3
      refine lv_aload_n hx hb dX1_isOfTree_16 rfl (lv_at hl 0 rfl) ?_
      refine lv_iconst (v := 0) hx hb dX1_isOfTree_17 (by decide) ?_
      refine lv_iconst (v := 0) hx hb dX1_isOfTree_18 (by decide) ?_
      refine z_ri [.int (0 : Int32), .int (0 : Int32)] [] ⟨hx, hb, hml, hown, hts⟩ (kX1_searchOn l D cA a0 a_gains a_lows a_highs f_low f_high f_places f_gains f_lows f_highs (0 : Int32) (0 : Int32) _ hw) (cwV 2 hts gX1_isOfTree_X1_searchOn rfl rfl rfl vX1_searchOn ⟨Nat.le_of_ble_eq_true rfl, Nat.le_of_ble_eq_true rfl⟩) hK (hP.sub [0, 1, 2, 3] rfl) (va_recv hK.1 (hP.sub (ws' := [(a0, .inr (0, [.long f_low, .long f_high, .int f_places, .ref a_gains, .ref a_lows, .ref a_highs]))]) [0] rfl) (ci := 0) (q0 := 0) rfl rfl) rfl hl.1 rfl (Nat.le_of_ble_eq_true rfl) dX1_isOfTree_19 ⟨Nat.zero_le _, Nat.zero_le _⟩ (fun r_4 hw => ?_)
      refine lv_aload_n hx hb dX1_isOfTree_22 rfl (lv_at hl 0 rfl) ?_
      refine va_get (D := D) (ci := 0) (v := .int f_places) (C := RX1) (T := TX1) (N := 6) hx hb hts iwX1 hown hK.1 hP 0 rfl rfl 2 (by decide) kf21 (fun _ h9 => h9) rfl dX1_isOfTree_23 ?_
      refine lv_icmp_ne (tgt := 33) hx hb dX1_isOfTree_26 (by decide) (fun c_5 => ?_) (fun c_5 => ?_)
      · have hw := hw.1 c_5
        refine lv_iconst (v := 0) hx hb dX1_isOfTree_33 (by decide) ?_
        exact z_zret hx hb hr hlk rfl hw dX1_isOfTree_34
      · have hw := hw.2 c_5
        refine lv_iconst (v := 1) hx hb dX1_isOfTree_29 (by decide) ?_
        refine lv_goto (tgt := 34) hx hb dX1_isOfTree_30 (by decide) ?_
        exact z_zret hx hb hr hlk rfl hw dX1_isOfTree_34
def wX1_clear (f_low : Int64) (f_high : Int64) (f_places : Int32)  (post : ((Int64) × (Int64) × (Int32)) → Prop) : Prop := post ((0 : Int64), (0 : Int64), (0 : Int32))
abbrev rX1_clear : Room := { frames := 0, cells := 0, slots := 0, locals := 0 }
theorem vX1_clear : yX1_clear.cls = RX1 ∧ yX1_clear.cls ≠ "java/lang/invoke/MethodHandle" ∧ yX1_clear.cls ≠ "java/lang/invoke/VarHandle" ∧ (parseMethodDescriptor yX1_clear.desc).map (fun d => d.parameters.length) = some 0 := by decide +kernel
set_option maxHeartbeats 4000000 in
set_option maxRecDepth 100000 in
theorem kX1_clear (l : Launch) (D : va_G) (cA : Nat → ClassId) (a0 a_gains a_lows a_highs : Nat) (f_low : Int64) (f_high : Int64) (f_places : Int32) (f_gains : Nat → Int32) (f_lows : Nat → Int32) (f_highs : Nat → Int32) (sz : Nat)  (post : ((Int64) × (Int64) × (Int32)) → Prop) (h : wX1_clear f_low f_high f_places post) : Met l yX1_clear wsX1_clear rX1_clear (zPw D cA [.ref a0] [(a0, .inr (0, [.long f_low, .long f_high, .int f_places, .ref a_gains, .ref a_lows, .ref a_highs])), (a_gains, .inl (cA 0, 8, .inl f_gains)), (a_lows, .inl (cA 0, 8, .inl f_lows)), (a_highs, .inl (cA 0, 8, .inl f_highs))] sz) (va_Qv post (zB D (va_A [(a0, .inr (0, [.long f_low, .long f_high, .int f_places, .ref a_gains, .ref a_lows, .ref a_highs])), (a_gains, .inl (cA 0, 8, .inl f_gains)), (a_lows, .inl (cA 0, 8, .inl f_lows)), (a_highs, .inl (cA 0, 8, .inl f_highs))] sz) (fun u : (Int64) × (Int64) × (Int32) => [(a0, .inr (0, [.long u.1, .long u.2.1, .int u.2.2, .ref a_gains, .ref a_lows, .ref a_highs])), (a_gains, .inl (cA 0, 8, .inl f_gains)), (a_lows, .inl (cA 0, 8, .inl f_lows)), (a_highs, .inl (cA 0, 8, .inl f_highs))])) (va_A [(a0, .inr (0, [.long f_low, .long f_high, .int f_places, .ref a_gains, .ref a_lows, .ref a_highs])), (a_gains, .inl (cA 0, 8, .inl f_gains)), (a_lows, .inl (cA 0, 8, .inl f_lows)), (a_highs, .inl (cA 0, 8, .inl f_highs))] sz)) 0 0 (va_A [(a0, .inr (0, [.long f_low, .long f_high, .int f_places, .ref a_gains, .ref a_lows, .ref a_highs])), (a_gains, .inl (cA 0, 8, .inl f_gains)), (a_lows, .inl (cA 0, 8, .inl f_lows)), (a_highs, .inl (cA 0, 8, .inl f_highs))] sz) := by
  refine z_rw (Qc := fun A => va_Qv post (zB D A (fun u : (Int64) × (Int64) × (Int32) => [(a0, .inr (0, [.long u.1, .long u.2.1, .int u.2.2, .ref a_gains, .ref a_lows, .ref a_highs])), (a_gains, .inl (cA 0, 8, .inl f_gains)), (a_lows, .inl (cA 0, 8, .inl f_lows)), (a_highs, .inl (cA 0, 8, .inl f_highs))])) A) (cc := cX1_clear) (maxL := 1) (ret := none) (by decide) rfl (Nat.le_of_ble_eq_true rfl) ?_
  intro p e s m args below meth c ls A hx hb hr hlk hml hown hts hK hP hD hS hA hl
  have hown : s.vm.findClass RX1 = some m.cls := hown
  have hl : lv_has ls 1 [(0, .ref a0)] := hl
  have hw := h
  unfold wX1_clear at hw
  have iwX1 : ∀ w ∈ wsX10, w ∈ wsX1_clear := fun w h9 => List.mem_cons_of_mem _ (List.mem_append_right _ h9)
  have kf25 := hts (.fieldLink RX1 25 "ExcessTree$Row" "low" "J") (by decide +kernel)
  have kf29 := hts (.fieldLink RX1 29 "ExcessTree$Row" "high" "J") (by decide +kernel)
  have kf21 := hts (.fieldLink RX1 21 "ExcessTree$Row" "places" "I") (by decide +kernel)
  refine lv_aload_n hx hb dX1_clear_0 rfl (lv_at hl 0 rfl) ?_
  refine lv_lconst (v := 0) hx hb dX1_clear_1 (by decide) ?_
  refine va_put (D := D) (ci := 0) (v := .long (0 : Int64)) (ty := .long) (C := RX1) (T := TX1) (N := 6) hx hb hts iwX1 tyX1 tyX1_ok nmX1 hown hK.1 hP hD hS 0 rfl rfl 0 (by decide) kf25 (fun _ h9 => h9) rfl (by decide +kernel) rfl rfl (Nat.le_of_ble_eq_true rfl) dX1_clear_2 (fun H locs hP hD hS => ?_)
  have hP : va_P D vwCl [(a0, .inr (0, [.long (0 : Int64), .long f_high, .int f_places, .ref a_gains, .ref a_lows, .ref a_highs])), (a_gains, .inl (cA 0, 8, .inl f_gains)), (a_lows, .inl (cA 0, 8, .inl f_lows)), (a_highs, .inl (cA 0, 8, .inl f_highs))] H := hP
  have hD : va_D A [(a0, .inr (0, [.long (0 : Int64), .long f_high, .int f_places, .ref a_gains, .ref a_lows, .ref a_highs])), (a_gains, .inl (cA 0, 8, .inl f_gains)), (a_lows, .inl (cA 0, 8, .inl f_lows)), (a_highs, .inl (cA 0, 8, .inl f_highs))] := hD
  refine lv_aload_n hx hb dX1_clear_5 rfl (lv_at hl 0 rfl) ?_
  refine lv_lconst (v := 0) hx hb dX1_clear_6 (by decide) ?_
  refine va_put (D := D) (ci := 0) (v := .long (0 : Int64)) (ty := .long) (C := RX1) (T := TX1) (N := 6) hx hb hts iwX1 tyX1 tyX1_ok nmX1 hown hK.1 hP hD hS 0 rfl rfl 1 (by decide) kf29 (fun _ h9 => h9) rfl (by decide +kernel) rfl rfl (Nat.le_of_ble_eq_true rfl) dX1_clear_7 (fun H locs hP hD hS => ?_)
  have hP : va_P D vwCl [(a0, .inr (0, [.long (0 : Int64), .long (0 : Int64), .int f_places, .ref a_gains, .ref a_lows, .ref a_highs])), (a_gains, .inl (cA 0, 8, .inl f_gains)), (a_lows, .inl (cA 0, 8, .inl f_lows)), (a_highs, .inl (cA 0, 8, .inl f_highs))] H := hP
  have hD : va_D A [(a0, .inr (0, [.long (0 : Int64), .long (0 : Int64), .int f_places, .ref a_gains, .ref a_lows, .ref a_highs])), (a_gains, .inl (cA 0, 8, .inl f_gains)), (a_lows, .inl (cA 0, 8, .inl f_lows)), (a_highs, .inl (cA 0, 8, .inl f_highs))] := hD
  refine lv_aload_n hx hb dX1_clear_10 rfl (lv_at hl 0 rfl) ?_
  refine lv_iconst (v := 0) hx hb dX1_clear_11 (by decide) ?_
  refine va_put (D := D) (ci := 0) (v := .int (0 : Int32)) (ty := .int) (C := RX1) (T := TX1) (N := 6) hx hb hts iwX1 tyX1 tyX1_ok nmX1 hown hK.1 hP hD hS 0 rfl rfl 2 (by decide) kf21 (fun _ h9 => h9) rfl (by decide +kernel) rfl rfl (Nat.le_of_ble_eq_true rfl) dX1_clear_12 (fun H locs hP hD hS => ?_)
  have hP : va_P D vwCl [(a0, .inr (0, [.long (0 : Int64), .long (0 : Int64), .int (0 : Int32), .ref a_gains, .ref a_lows, .ref a_highs])), (a_gains, .inl (cA 0, 8, .inl f_gains)), (a_lows, .inl (cA 0, 8, .inl f_lows)), (a_highs, .inl (cA 0, 8, .inl f_highs))] H := hP
  have hD : va_D A [(a0, .inr (0, [.long (0 : Int64), .long (0 : Int64), .int (0 : Int32), .ref a_gains, .ref a_lows, .ref a_highs])), (a_gains, .inl (cA 0, 8, .inl f_gains)), (a_lows, .inl (cA 0, 8, .inl f_lows)), (a_highs, .inl (cA 0, 8, .inl f_highs))] := hD
  exact z_vretw ((0 : Int64), (0 : Int64), (0 : Int32)) hx hb hr hlk hw hP hD hS dX1_clear_15
def wX1_append (f_low : Int64) (f_high : Int64) (f_places : Int32) (p1 : Int32) (post : ((Int64) × (Int64) × (Int32)) → Prop) : Prop := ((f_places < (128 : Int32) → (((64 : Int32) ≤ f_places → (∀ x_3 : Int64, x_3 = (f_high ||| (zlshl ((p1).toInt64) (f_places - (64 : Int32)))) → (∀ x_4 : Int32, x_4 = (f_places + (1 : Int32)) → post (f_low, x_3, x_4)))) ∧ (¬ (64 : Int32) ≤ f_places → (∀ x_5 : Int64, x_5 = (f_low ||| (zlshl ((p1).toInt64) f_places)) → (∀ x_6 : Int32, x_6 = (f_places + (1 : Int32)) → post (x_5, f_high, x_6)))))) ∧ (¬ f_places < (128 : Int32) → post (f_low, f_high, f_places)))
abbrev rX1_append : Room := { frames := 0, cells := 0, slots := 0, locals := 0 }
theorem vX1_append : yX1_append.cls = RX1 ∧ yX1_append.cls ≠ "java/lang/invoke/MethodHandle" ∧ yX1_append.cls ≠ "java/lang/invoke/VarHandle" ∧ (parseMethodDescriptor yX1_append.desc).map (fun d => d.parameters.length) = some 1 := by decide +kernel
set_option maxHeartbeats 4000000 in
set_option maxRecDepth 100000 in
theorem kX1_append (l : Launch) (D : va_G) (cA : Nat → ClassId) (a0 a_gains a_lows a_highs : Nat) (f_low : Int64) (f_high : Int64) (f_places : Int32) (f_gains : Nat → Int32) (f_lows : Nat → Int32) (f_highs : Nat → Int32) (sz : Nat) (p1 : Int32) (post : ((Int64) × (Int64) × (Int32)) → Prop) (h : wX1_append f_low f_high f_places p1 post) : Met l yX1_append wsX1_append rX1_append (zPw D cA [.ref a0, .int p1] [(a0, .inr (0, [.long f_low, .long f_high, .int f_places, .ref a_gains, .ref a_lows, .ref a_highs])), (a_gains, .inl (cA 0, 8, .inl f_gains)), (a_lows, .inl (cA 0, 8, .inl f_lows)), (a_highs, .inl (cA 0, 8, .inl f_highs))] sz) (va_Qv post (zB D (va_A [(a0, .inr (0, [.long f_low, .long f_high, .int f_places, .ref a_gains, .ref a_lows, .ref a_highs])), (a_gains, .inl (cA 0, 8, .inl f_gains)), (a_lows, .inl (cA 0, 8, .inl f_lows)), (a_highs, .inl (cA 0, 8, .inl f_highs))] sz) (fun u : (Int64) × (Int64) × (Int32) => [(a0, .inr (0, [.long u.1, .long u.2.1, .int u.2.2, .ref a_gains, .ref a_lows, .ref a_highs])), (a_gains, .inl (cA 0, 8, .inl f_gains)), (a_lows, .inl (cA 0, 8, .inl f_lows)), (a_highs, .inl (cA 0, 8, .inl f_highs))])) (va_A [(a0, .inr (0, [.long f_low, .long f_high, .int f_places, .ref a_gains, .ref a_lows, .ref a_highs])), (a_gains, .inl (cA 0, 8, .inl f_gains)), (a_lows, .inl (cA 0, 8, .inl f_lows)), (a_highs, .inl (cA 0, 8, .inl f_highs))] sz)) 0 0 (va_A [(a0, .inr (0, [.long f_low, .long f_high, .int f_places, .ref a_gains, .ref a_lows, .ref a_highs])), (a_gains, .inl (cA 0, 8, .inl f_gains)), (a_lows, .inl (cA 0, 8, .inl f_lows)), (a_highs, .inl (cA 0, 8, .inl f_highs))] sz) := by
  refine z_rw (Qc := fun A => va_Qv post (zB D A (fun u : (Int64) × (Int64) × (Int32) => [(a0, .inr (0, [.long u.1, .long u.2.1, .int u.2.2, .ref a_gains, .ref a_lows, .ref a_highs])), (a_gains, .inl (cA 0, 8, .inl f_gains)), (a_lows, .inl (cA 0, 8, .inl f_lows)), (a_highs, .inl (cA 0, 8, .inl f_highs))])) A) (cc := cX1_append) (maxL := 2) (ret := none) (by decide) rfl (Nat.le_of_ble_eq_true rfl) ?_
  intro p e s m args below meth c ls A hx hb hr hlk hml hown hts hK hP hD hS hA hl
  have hown : s.vm.findClass RX1 = some m.cls := hown
  have hl : lv_has ls 2 [(0, .ref a0), (1, .int p1)] := hl
  have hw := h
  unfold wX1_append at hw
  have iwX1 : ∀ w ∈ wsX10, w ∈ wsX1_append := fun w h9 => List.mem_cons_of_mem _ (List.mem_append_right _ h9)
  have kf21 := hts (.fieldLink RX1 21 "ExcessTree$Row" "places" "I") (by decide +kernel)
  have kf29 := hts (.fieldLink RX1 29 "ExcessTree$Row" "high" "J") (by decide +kernel)
  have kf25 := hts (.fieldLink RX1 25 "ExcessTree$Row" "low" "J") (by decide +kernel)
  refine lv_aload_n hx hb dX1_append_0 rfl (lv_at hl 0 rfl) ?_
  refine va_get (D := D) (ci := 0) (v := .int f_places) (C := RX1) (T := TX1) (N := 6) hx hb hts iwX1 hown hK.1 hP 0 rfl rfl 2 (by decide) kf21 (fun _ h9 => h9) rfl dX1_append_1 ?_
  refine lv_sipush (v := 128) hx hb dX1_append_4 (by decide) ?_
  refine lv_icmp_lt (tgt := 11) hx hb dX1_append_7 (by decide) (fun c_1 => ?_) (fun c_1 => ?_)
  · have hw := hw.1 c_1
    refine lv_aload_n hx hb dX1_append_11 rfl (lv_at hl 0 rfl) ?_
    refine va_get (D := D) (ci := 0) (v := .int f_places) (C := RX1) (T := TX1) (N := 6) hx hb hts iwX1 hown hK.1 hP 0 rfl rfl 2 (by decide) kf21 (fun _ h9 => h9) rfl dX1_append_12 ?_
    refine lv_bipush (v := 64) hx hb dX1_append_15 (by decide) ?_
    refine lv_icmp_ge (tgt := 39) hx hb dX1_append_17 (by decide) (fun c_2 => ?_) (fun c_2 => ?_)
    · have hw := hw.1 c_2
      refine lv_aload_n hx hb dX1_append_39 rfl (lv_at hl 0 rfl) ?_
      refine lv_dup hx hb dX1_append_40 rfl ?_
      refine va_get (D := D) (ci := 0) (v := .long f_high) (C := RX1) (T := TX1) (N := 6) hx hb hts iwX1 hown hK.1 hP 0 rfl rfl 1 (by decide) kf29 (fun _ h9 => h9) rfl dX1_append_41 ?_
      refine lv_iload_n hx hb dX1_append_44 rfl (lv_at hl 1 rfl) ?_
      refine lv_i2l (v := ((p1).toInt64)) hx hb dX1_append_45 rfl ?_
      refine lv_aload_n hx hb dX1_append_46 rfl (lv_at hl 0 rfl) ?_
      refine va_get (D := D) (ci := 0) (v := .int f_places) (C := RX1) (T := TX1) (N := 6) hx hb hts iwX1 hown hK.1 hP 0 rfl rfl 2 (by decide) kf21 (fun _ h9 => h9) rfl dX1_append_47 ?_
      refine lv_bipush (v := 64) hx hb dX1_append_50 (by decide) ?_
      refine lv_isub hx hb dX1_append_52 ?_
      refine lv_lshl (v := (zlshl ((p1).toInt64) (f_places - (64 : Int32)))) hx hb dX1_append_53 rfl ?_
      refine lv_lor hx hb dX1_append_54 ?_
      refine lv_topl (fun x_3 ex_3 => ?_)
      have hw := hw x_3 ex_3
      refine va_put (D := D) (ci := 0) (v := .long x_3) (ty := .long) (C := RX1) (T := TX1) (N := 6) hx hb hts iwX1 tyX1 tyX1_ok nmX1 hown hK.1 hP hD hS 0 rfl rfl 1 (by decide) kf29 (fun _ h9 => h9) rfl (by decide +kernel) rfl rfl (Nat.le_of_ble_eq_true rfl) dX1_append_55 (fun H locs hP hD hS => ?_)
      have hP : va_P D vwCl [(a0, .inr (0, [.long f_low, .long x_3, .int f_places, .ref a_gains, .ref a_lows, .ref a_highs])), (a_gains, .inl (cA 0, 8, .inl f_gains)), (a_lows, .inl (cA 0, 8, .inl f_lows)), (a_highs, .inl (cA 0, 8, .inl f_highs))] H := hP
      have hD : va_D A [(a0, .inr (0, [.long f_low, .long x_3, .int f_places, .ref a_gains, .ref a_lows, .ref a_highs])), (a_gains, .inl (cA 0, 8, .inl f_gains)), (a_lows, .inl (cA 0, 8, .inl f_lows)), (a_highs, .inl (cA 0, 8, .inl f_highs))] := hD
      refine lv_aload_n hx hb dX1_append_58 rfl (lv_at hl 0 rfl) ?_
      refine lv_dup hx hb dX1_append_59 rfl ?_
      refine va_get (D := D) (ci := 0) (v := .int f_places) (C := RX1) (T := TX1) (N := 6) hx hb hts iwX1 hown hK.1 hP 0 rfl rfl 2 (by decide) kf21 (fun _ h9 => h9) rfl dX1_append_60 ?_
      refine lv_iconst (v := 1) hx hb dX1_append_63 (by decide) ?_
      refine lv_iadd hx hb dX1_append_64 ?_
      refine lv_topi (fun x_4 ex_4 => ?_)
      have hw := hw x_4 ex_4
      refine va_put (D := D) (ci := 0) (v := .int x_4) (ty := .int) (C := RX1) (T := TX1) (N := 6) hx hb hts iwX1 tyX1 tyX1_ok nmX1 hown hK.1 hP hD hS 0 rfl rfl 2 (by decide) kf21 (fun _ h9 => h9) rfl (by decide +kernel) rfl rfl (Nat.le_of_ble_eq_true rfl) dX1_append_65 (fun H locs hP hD hS => ?_)
      have hP : va_P D vwCl [(a0, .inr (0, [.long f_low, .long x_3, .int x_4, .ref a_gains, .ref a_lows, .ref a_highs])), (a_gains, .inl (cA 0, 8, .inl f_gains)), (a_lows, .inl (cA 0, 8, .inl f_lows)), (a_highs, .inl (cA 0, 8, .inl f_highs))] H := hP
      have hD : va_D A [(a0, .inr (0, [.long f_low, .long x_3, .int x_4, .ref a_gains, .ref a_lows, .ref a_highs])), (a_gains, .inl (cA 0, 8, .inl f_gains)), (a_lows, .inl (cA 0, 8, .inl f_lows)), (a_highs, .inl (cA 0, 8, .inl f_highs))] := hD
      exact z_vretw (f_low, x_3, x_4) hx hb hr hlk hw hP hD hS dX1_append_68
    · have hw := hw.2 c_2
      refine lv_aload_n hx hb dX1_append_20 rfl (lv_at hl 0 rfl) ?_
      refine lv_dup hx hb dX1_append_21 rfl ?_
      refine va_get (D := D) (ci := 0) (v := .long f_low) (C := RX1) (T := TX1) (N := 6) hx hb hts iwX1 hown hK.1 hP 0 rfl rfl 0 (by decide) kf25 (fun _ h9 => h9) rfl dX1_append_22 ?_
      refine lv_iload_n hx hb dX1_append_25 rfl (lv_at hl 1 rfl) ?_
      refine lv_i2l (v := ((p1).toInt64)) hx hb dX1_append_26 rfl ?_
      refine lv_aload_n hx hb dX1_append_27 rfl (lv_at hl 0 rfl) ?_
      refine va_get (D := D) (ci := 0) (v := .int f_places) (C := RX1) (T := TX1) (N := 6) hx hb hts iwX1 hown hK.1 hP 0 rfl rfl 2 (by decide) kf21 (fun _ h9 => h9) rfl dX1_append_28 ?_
      refine lv_lshl (v := (zlshl ((p1).toInt64) f_places)) hx hb dX1_append_31 rfl ?_
      refine lv_lor hx hb dX1_append_32 ?_
      refine lv_topl (fun x_5 ex_5 => ?_)
      have hw := hw x_5 ex_5
      refine va_put (D := D) (ci := 0) (v := .long x_5) (ty := .long) (C := RX1) (T := TX1) (N := 6) hx hb hts iwX1 tyX1 tyX1_ok nmX1 hown hK.1 hP hD hS 0 rfl rfl 0 (by decide) kf25 (fun _ h9 => h9) rfl (by decide +kernel) rfl rfl (Nat.le_of_ble_eq_true rfl) dX1_append_33 (fun H locs hP hD hS => ?_)
      have hP : va_P D vwCl [(a0, .inr (0, [.long x_5, .long f_high, .int f_places, .ref a_gains, .ref a_lows, .ref a_highs])), (a_gains, .inl (cA 0, 8, .inl f_gains)), (a_lows, .inl (cA 0, 8, .inl f_lows)), (a_highs, .inl (cA 0, 8, .inl f_highs))] H := hP
      have hD : va_D A [(a0, .inr (0, [.long x_5, .long f_high, .int f_places, .ref a_gains, .ref a_lows, .ref a_highs])), (a_gains, .inl (cA 0, 8, .inl f_gains)), (a_lows, .inl (cA 0, 8, .inl f_lows)), (a_highs, .inl (cA 0, 8, .inl f_highs))] := hD
      refine lv_goto (tgt := 58) hx hb dX1_append_36 (by decide) ?_
      refine lv_aload_n hx hb dX1_append_58 rfl (lv_at hl 0 rfl) ?_
      refine lv_dup hx hb dX1_append_59 rfl ?_
      refine va_get (D := D) (ci := 0) (v := .int f_places) (C := RX1) (T := TX1) (N := 6) hx hb hts iwX1 hown hK.1 hP 0 rfl rfl 2 (by decide) kf21 (fun _ h9 => h9) rfl dX1_append_60 ?_
      refine lv_iconst (v := 1) hx hb dX1_append_63 (by decide) ?_
      refine lv_iadd hx hb dX1_append_64 ?_
      refine lv_topi (fun x_6 ex_6 => ?_)
      have hw := hw x_6 ex_6
      refine va_put (D := D) (ci := 0) (v := .int x_6) (ty := .int) (C := RX1) (T := TX1) (N := 6) hx hb hts iwX1 tyX1 tyX1_ok nmX1 hown hK.1 hP hD hS 0 rfl rfl 2 (by decide) kf21 (fun _ h9 => h9) rfl (by decide +kernel) rfl rfl (Nat.le_of_ble_eq_true rfl) dX1_append_65 (fun H locs hP hD hS => ?_)
      have hP : va_P D vwCl [(a0, .inr (0, [.long x_5, .long f_high, .int x_6, .ref a_gains, .ref a_lows, .ref a_highs])), (a_gains, .inl (cA 0, 8, .inl f_gains)), (a_lows, .inl (cA 0, 8, .inl f_lows)), (a_highs, .inl (cA 0, 8, .inl f_highs))] H := hP
      have hD : va_D A [(a0, .inr (0, [.long x_5, .long f_high, .int x_6, .ref a_gains, .ref a_lows, .ref a_highs])), (a_gains, .inl (cA 0, 8, .inl f_gains)), (a_lows, .inl (cA 0, 8, .inl f_lows)), (a_highs, .inl (cA 0, 8, .inl f_highs))] := hD
      exact z_vretw (x_5, f_high, x_6) hx hb hr hlk hw hP hD hS dX1_append_68
  · have hw := hw.2 c_1
    exact z_vretw (f_low, f_high, f_places) hx hb hr hlk hw hP hD hS dX1_append_10
def wX1_takenLow (f_low : Int64) (f_high : Int64) (p1 : Int32) (p2 : Int32) (post : Int64 → Prop) : Prop := (wX0_downLow f_low f_high p1 (fun r_1 : Int64 => ((wX0_firstOf p2 (fun r_2 : Int64 => (post (r_1 &&& r_2)))))))
abbrev rX1_takenLow : Room := { frames := 1, cells := 0, slots := 0, locals := 24 }
theorem vX1_takenLow : yX1_takenLow.cls = RX1 ∧ yX1_takenLow.cls ≠ "java/lang/invoke/MethodHandle" ∧ yX1_takenLow.cls ≠ "java/lang/invoke/VarHandle" ∧ (parseMethodDescriptor yX1_takenLow.desc).map (fun d => d.parameters.length) = some 2 := by decide +kernel
set_option maxHeartbeats 4000000 in
set_option maxRecDepth 100000 in
theorem kX1_takenLow (l : Launch) (D : va_G) (cA : Nat → ClassId) (a0 a_gains a_lows a_highs : Nat) (f_low : Int64) (f_high : Int64) (f_places : Int32) (f_gains : Nat → Int32) (f_lows : Nat → Int32) (f_highs : Nat → Int32) (p1 : Int32) (p2 : Int32) (post : Int64 → Prop) (h : wX1_takenLow f_low f_high p1 p2 post) : Met l yX1_takenLow wsX1_takenLow rX1_takenLow (zPr D cA [.ref a0, .int p1, .int p2] [(a0, .inr (0, [.long f_low, .long f_high, .int f_places, .ref a_gains, .ref a_lows, .ref a_highs])), (a_gains, .inl (cA 0, 8, .inl f_gains)), (a_lows, .inl (cA 0, 8, .inl f_lows)), (a_highs, .inl (cA 0, 8, .inl f_highs))]) (vp_Sl post) 0 0 (fun _ => False) := by
  refine z_ro (cc := cX1_takenLow) (maxL := 3) (ret := (some .long)) (by decide) rfl (Nat.le_of_ble_eq_true rfl) ?_
  intro p e s m args below meth c ls hx hb hr hlk hml hown hts hK hP hl
  have hown : s.vm.findClass RX1 = some m.cls := hown
  have hl : lv_has ls 3 [(0, .ref a0), (1, .int p1), (2, .int p2)] := hl
  have hw := h
  unfold wX1_takenLow at hw
  have iwX1 : ∀ w ∈ wsX10, w ∈ wsX1_takenLow := fun w h9 => List.mem_cons_of_mem _ (List.mem_append_right _ h9)
  have kf25 := hts (.fieldLink RX1 25 "ExcessTree$Row" "low" "J") (by decide +kernel)
  have kf29 := hts (.fieldLink RX1 29 "ExcessTree$Row" "high" "J") (by decide +kernel)
  refine lv_aload_n hx hb dX1_takenLow_0 rfl (lv_at hl 0 rfl) ?_
  refine va_get (D := D) (ci := 0) (v := .long f_low) (C := RX1) (T := TX1) (N := 6) hx hb hts iwX1 hown hK.1 hP 0 rfl rfl 0 (by decide) kf25 (fun _ h9 => h9) rfl dX1_takenLow_1 ?_
  refine lv_aload_n hx hb dX1_takenLow_4 rfl (lv_at hl 0 rfl) ?_
  refine va_get (D := D) (ci := 0) (v := .long f_high) (C := RX1) (T := TX1) (N := 6) hx hb hts iwX1 hown hK.1 hP 0 rfl rfl 1 (by decide) kf29 (fun _ h9 => h9) rfl dX1_takenLow_5 ?_
  refine lv_iload_n hx hb dX1_takenLow_8 rfl (lv_at hl 1 rfl) ?_
  refine z_sl [.long f_low, .long f_high, .int p1] [] ⟨hx, hb, hml, hown, hts⟩ (kX0_downLow l D cA f_low f_high p1 _ hw) (va_cwS 3 hts gX1_takenLow_X0_downLow rfl rfl rfl vX0_downLow ⟨Nat.le_of_ble_eq_true rfl, Nat.le_of_ble_eq_true rfl⟩) hK z_p0 rfl hl.1 rfl (Nat.le_of_ble_eq_true rfl) dX1_takenLow_9 ⟨Nat.zero_le _, Nat.zero_le _⟩ (fun r_1 hw => ?_)
  refine lv_iload_n hx hb dX1_takenLow_12 rfl (lv_at hl 2 rfl) ?_
  refine z_sl [.int p2] [.long r_1] ⟨hx, hb, hml, hown, hts⟩ (kX0_firstOf l D cA p2 _ hw) (va_cwS 1 hts gX1_takenLow_X0_firstOf rfl rfl rfl vX0_firstOf ⟨Nat.le_of_ble_eq_true rfl, Nat.le_of_ble_eq_true rfl⟩) hK z_p0 rfl hl.1 rfl (Nat.le_of_ble_eq_true rfl) dX1_takenLow_13 ⟨Nat.zero_le _, Nat.zero_le _⟩ (fun r_2 hw => ?_)
  refine lv_land hx hb dX1_takenLow_16 ?_
  exact z_lret hx hb hr hlk hw dX1_takenLow_17
def wX1_takenHigh (f_high : Int64) (p1 : Int32) (p2 : Int32) (post : Int64 → Prop) : Prop := (wX0_downHigh f_high p1 (fun r_1 : Int64 => ((wX0_firstOf (p2 - (64 : Int32)) (fun r_2 : Int64 => (post (r_1 &&& r_2)))))))
abbrev rX1_takenHigh : Room := { frames := 1, cells := 0, slots := 0, locals := 22 }
theorem vX1_takenHigh : yX1_takenHigh.cls = RX1 ∧ yX1_takenHigh.cls ≠ "java/lang/invoke/MethodHandle" ∧ yX1_takenHigh.cls ≠ "java/lang/invoke/VarHandle" ∧ (parseMethodDescriptor yX1_takenHigh.desc).map (fun d => d.parameters.length) = some 2 := by decide +kernel
set_option maxHeartbeats 4000000 in
set_option maxRecDepth 100000 in
theorem kX1_takenHigh (l : Launch) (D : va_G) (cA : Nat → ClassId) (a0 a_gains a_lows a_highs : Nat) (f_low : Int64) (f_high : Int64) (f_places : Int32) (f_gains : Nat → Int32) (f_lows : Nat → Int32) (f_highs : Nat → Int32) (p1 : Int32) (p2 : Int32) (post : Int64 → Prop) (h : wX1_takenHigh f_high p1 p2 post) : Met l yX1_takenHigh wsX1_takenHigh rX1_takenHigh (zPr D cA [.ref a0, .int p1, .int p2] [(a0, .inr (0, [.long f_low, .long f_high, .int f_places, .ref a_gains, .ref a_lows, .ref a_highs])), (a_gains, .inl (cA 0, 8, .inl f_gains)), (a_lows, .inl (cA 0, 8, .inl f_lows)), (a_highs, .inl (cA 0, 8, .inl f_highs))]) (vp_Sl post) 0 0 (fun _ => False) := by
  refine z_ro (cc := cX1_takenHigh) (maxL := 3) (ret := (some .long)) (by decide) rfl (Nat.le_of_ble_eq_true rfl) ?_
  intro p e s m args below meth c ls hx hb hr hlk hml hown hts hK hP hl
  have hown : s.vm.findClass RX1 = some m.cls := hown
  have hl : lv_has ls 3 [(0, .ref a0), (1, .int p1), (2, .int p2)] := hl
  have hw := h
  unfold wX1_takenHigh at hw
  have iwX1 : ∀ w ∈ wsX10, w ∈ wsX1_takenHigh := fun w h9 => List.mem_cons_of_mem _ (List.mem_append_right _ h9)
  have kf29 := hts (.fieldLink RX1 29 "ExcessTree$Row" "high" "J") (by decide +kernel)
  refine lv_aload_n hx hb dX1_takenHigh_0 rfl (lv_at hl 0 rfl) ?_
  refine va_get (D := D) (ci := 0) (v := .long f_high) (C := RX1) (T := TX1) (N := 6) hx hb hts iwX1 hown hK.1 hP 0 rfl rfl 1 (by decide) kf29 (fun _ h9 => h9) rfl dX1_takenHigh_1 ?_
  refine lv_iload_n hx hb dX1_takenHigh_4 rfl (lv_at hl 1 rfl) ?_
  refine z_sl [.long f_high, .int p1] [] ⟨hx, hb, hml, hown, hts⟩ (kX0_downHigh l D cA f_high p1 _ hw) (va_cwS 2 hts gX1_takenHigh_X0_downHigh rfl rfl rfl vX0_downHigh ⟨Nat.le_of_ble_eq_true rfl, Nat.le_of_ble_eq_true rfl⟩) hK z_p0 rfl hl.1 rfl (Nat.le_of_ble_eq_true rfl) dX1_takenHigh_5 ⟨Nat.zero_le _, Nat.zero_le _⟩ (fun r_1 hw => ?_)
  refine lv_iload_n hx hb dX1_takenHigh_8 rfl (lv_at hl 2 rfl) ?_
  refine lv_bipush (v := 64) hx hb dX1_takenHigh_9 (by decide) ?_
  refine lv_isub hx hb dX1_takenHigh_11 ?_
  refine z_sl [.int (p2 - (64 : Int32))] [.long r_1] ⟨hx, hb, hml, hown, hts⟩ (kX0_firstOf l D cA (p2 - (64 : Int32)) _ hw) (va_cwS 1 hts gX1_takenHigh_X0_firstOf rfl rfl rfl vX0_firstOf ⟨Nat.le_of_ble_eq_true rfl, Nat.le_of_ble_eq_true rfl⟩) hK z_p0 rfl hl.1 rfl (Nat.le_of_ble_eq_true rfl) dX1_takenHigh_12 ⟨Nat.zero_le _, Nat.zero_le _⟩ (fun r_2 hw => ?_)
  refine lv_land hx hb dX1_takenHigh_15 ?_
  exact z_lret hx hb hr hlk hw dX1_takenHigh_16
def wX1_summariseBlock (f_low : Int64) (f_high : Int64) (f_places : Int32) (f_gains : Nat → Int32) (f_lows : Nat → Int32) (f_highs : Nat → Int32) (p1 : Int32) (post : ((Nat → Int32) × (Nat → Int32) × (Nat → Int32)) → Prop) : Prop := (∀ x_1 : Int32, x_1 = (if (((16 : Int32) * p1) + (16 : Int32)) < f_places then (((16 : Int32) * p1) + (16 : Int32)) else f_places) → (∀ x_2 : Int32, x_2 = ((16 : Int32) * p1) → (∃ (I_3 : Int32 → Int32 → Int32 → Int32 → Prop) (mu_3 : Int32 → Int32 → Int32 → Int32 → Nat), I_3 (0 : Int32) (16 : Int32) (-16 : Int32) x_2 ∧ ∀ (x_4 : Int32) (x_5 : Int32) (x_6 : Int32) (x_7 : Int32), I_3 x_4 x_5 x_6 x_7 → ((x_1 ≤ x_7 → (vp_in p1 8 ∧ (vp_in p1 8 ∧ (vp_in p1 8 ∧ post ((upd f_gains p1.toNatClampNeg x_4), (upd f_lows p1.toNatClampNeg x_5), (upd f_highs p1.toNatClampNeg x_6)))))) ∧ (¬ x_1 ≤ x_7 → (wX1_stepAt f_low f_high x_7 (fun r_9 : Int32 => ((∀ x_10 : Int32, x_10 = (x_4 + r_9) → (∀ x_11 : Int32, x_11 = (if x_10 < x_5 then x_10 else x_5) → (∀ x_12 : Int32, x_12 = (if x_6 < x_10 then x_10 else x_6) → (∀ x_13 : Int32, x_13 = x_7 + (1) → (I_3 x_10 x_11 x_12 x_13 ∧ mu_3 x_10 x_11 x_12 x_13 < mu_3 x_4 x_5 x_6 x_7)))))))))))))
abbrev rX1_summariseBlock : Room := { frames := 1, cells := 0, slots := 0, locals := 21 }
theorem vX1_summariseBlock : yX1_summariseBlock.cls = RX1 ∧ yX1_summariseBlock.cls ≠ "java/lang/invoke/MethodHandle" ∧ yX1_summariseBlock.cls ≠ "java/lang/invoke/VarHandle" ∧ (parseMethodDescriptor yX1_summariseBlock.desc).map (fun d => d.parameters.length) = some 1 := by decide +kernel
set_option maxHeartbeats 4000000 in
set_option maxRecDepth 100000 in
theorem kX1_summariseBlock (l : Launch) (D : va_G) (cA : Nat → ClassId) (a0 a_gains a_lows a_highs : Nat) (f_low : Int64) (f_high : Int64) (f_places : Int32) (f_gains : Nat → Int32) (f_lows : Nat → Int32) (f_highs : Nat → Int32) (sz : Nat) (p1 : Int32) (post : ((Nat → Int32) × (Nat → Int32) × (Nat → Int32)) → Prop) (h : wX1_summariseBlock f_low f_high f_places f_gains f_lows f_highs p1 post) : Met l yX1_summariseBlock wsX1_summariseBlock rX1_summariseBlock (zPw D cA [.ref a0, .int p1] [(a0, .inr (0, [.long f_low, .long f_high, .int f_places, .ref a_gains, .ref a_lows, .ref a_highs])), (a_gains, .inl (cA 0, 8, .inl f_gains)), (a_lows, .inl (cA 0, 8, .inl f_lows)), (a_highs, .inl (cA 0, 8, .inl f_highs))] sz) (va_Qv post (zB D (va_A [(a0, .inr (0, [.long f_low, .long f_high, .int f_places, .ref a_gains, .ref a_lows, .ref a_highs])), (a_gains, .inl (cA 0, 8, .inl f_gains)), (a_lows, .inl (cA 0, 8, .inl f_lows)), (a_highs, .inl (cA 0, 8, .inl f_highs))] sz) (fun u : (Nat → Int32) × (Nat → Int32) × (Nat → Int32) => [(a0, .inr (0, [.long f_low, .long f_high, .int f_places, .ref a_gains, .ref a_lows, .ref a_highs])), (a_gains, .inl (cA 0, 8, .inl u.1)), (a_lows, .inl (cA 0, 8, .inl u.2.1)), (a_highs, .inl (cA 0, 8, .inl u.2.2))])) (va_A [(a0, .inr (0, [.long f_low, .long f_high, .int f_places, .ref a_gains, .ref a_lows, .ref a_highs])), (a_gains, .inl (cA 0, 8, .inl f_gains)), (a_lows, .inl (cA 0, 8, .inl f_lows)), (a_highs, .inl (cA 0, 8, .inl f_highs))] sz)) 0 0 (va_A [(a0, .inr (0, [.long f_low, .long f_high, .int f_places, .ref a_gains, .ref a_lows, .ref a_highs])), (a_gains, .inl (cA 0, 8, .inl f_gains)), (a_lows, .inl (cA 0, 8, .inl f_lows)), (a_highs, .inl (cA 0, 8, .inl f_highs))] sz) := by
  refine z_rw (Qc := fun A => va_Qv post (zB D A (fun u : (Nat → Int32) × (Nat → Int32) × (Nat → Int32) => [(a0, .inr (0, [.long f_low, .long f_high, .int f_places, .ref a_gains, .ref a_lows, .ref a_highs])), (a_gains, .inl (cA 0, 8, .inl u.1)), (a_lows, .inl (cA 0, 8, .inl u.2.1)), (a_highs, .inl (cA 0, 8, .inl u.2.2))])) A) (cc := cX1_summariseBlock) (maxL := 7) (ret := none) (by decide) rfl (Nat.le_of_ble_eq_true rfl) ?_
  intro p e s m args below meth c ls A hx hb hr hlk hml hown hts hK hP hD hS hA hl
  have hown : s.vm.findClass RX1 = some m.cls := hown
  have hl : lv_has ls 7 [(0, .ref a0), (1, .int p1)] := hl
  have hw := h
  unfold wX1_summariseBlock at hw
  have iwX1 : ∀ w ∈ wsX10, w ∈ wsX1_summariseBlock := fun w h9 => List.mem_cons_of_mem _ (List.mem_append_right _ h9)
  have kf21 := hts (.fieldLink RX1 21 "ExcessTree$Row" "places" "I") (by decide +kernel)
  have mmin1_92 := hts (.methodLink RX1 92 Lib.Math.min.name) (by decide +kernel)
  have mmin2 := hts (.static Lib.Math.min.name) (by decide +kernel)
  have mini := hts (.initialized "java/lang/Math") (by decide +kernel)
  have mmin3 := hts (.code Lib.Math.min.name Lib.Math.min.code 2 (some .int)) (by decide +kernel)
  have kf9 := hts (.fieldLink RX1 9 "ExcessTree$Row" "gains" "[I") (by decide +kernel)
  have kf15 := hts (.fieldLink RX1 15 "ExcessTree$Row" "lows" "[I") (by decide +kernel)
  have kf18 := hts (.fieldLink RX1 18 "ExcessTree$Row" "highs" "[I") (by decide +kernel)
  have mmax1_87 := hts (.methodLink RX1 87 Lib.Math.max.name) (by decide +kernel)
  have mmax2 := hts (.static Lib.Math.max.name) (by decide +kernel)
  have mmax3 := hts (.code Lib.Math.max.name Lib.Math.max.code 2 (some .int)) (by decide +kernel)
  refine lv_iconst (v := 0) hx hb dX1_summariseBlock_0 (by decide) ?_
  refine lv_istore_n (lv' := [(2, .int (0 : Int32)), (0, .ref a0), (1, .int p1)]) hx hb dX1_summariseBlock_1 rfl hl (by decide) rfl (fun ls hl => ?_)
  refine lv_bipush (v := 16) hx hb dX1_summariseBlock_2 (by decide) ?_
  refine lv_istore_n (lv' := [(3, .int (16 : Int32)), (2, .int (0 : Int32)), (0, .ref a0), (1, .int p1)]) hx hb dX1_summariseBlock_4 rfl hl (by decide) rfl (fun ls hl => ?_)
  refine lv_bipush (v := -16) hx hb dX1_summariseBlock_5 (by decide) ?_
  refine lv_istore (lv' := [(4, .int (-16 : Int32)), (3, .int (16 : Int32)), (2, .int (0 : Int32)), (0, .ref a0), (1, .int p1)]) hx hb dX1_summariseBlock_7 hl (by decide) rfl (fun ls hl => ?_)
  refine lv_aload_n hx hb dX1_summariseBlock_9 rfl (lv_at hl 3 rfl) ?_
  refine va_get (D := D) (ci := 0) (v := .int f_places) (C := RX1) (T := TX1) (N := 6) hx hb hts iwX1 hown hK.1 hP 0 rfl rfl 2 (by decide) kf21 (fun _ h9 => h9) rfl dX1_summariseBlock_10 ?_
  refine lv_bipush (v := 16) hx hb dX1_summariseBlock_13 (by decide) ?_
  refine lv_iload_n hx hb dX1_summariseBlock_15 rfl (lv_at hl 4 rfl) ?_
  refine lv_imul hx hb dX1_summariseBlock_16 ?_
  refine lv_bipush (v := 16) hx hb dX1_summariseBlock_17 (by decide) ?_
  refine lv_iadd hx hb dX1_summariseBlock_19 ?_
  refine va_mmin hx hb (hml.trans hl.1.symm) hown mmin1_92 mmin2 mini mmin3 (Nat.le_of_ble_eq_true rfl) (Nat.le_of_ble_eq_true rfl) (Nat.zero_le _) (Nat.zero_le _) dX1_summariseBlock_20 ?_
  refine lv_topi (fun x_1 ex_1 => ?_)
  have hw := hw x_1 ex_1
  refine lv_istore (lv' := [(5, .int x_1), (4, .int (-16 : Int32)), (3, .int (16 : Int32)), (2, .int (0 : Int32)), (0, .ref a0), (1, .int p1)]) hx hb dX1_summariseBlock_23 hl (by decide) rfl (fun ls hl => ?_)
  refine lv_bipush (v := 16) hx hb dX1_summariseBlock_25 (by decide) ?_
  refine lv_iload_n hx hb dX1_summariseBlock_27 rfl (lv_at hl 5 rfl) ?_
  refine lv_imul hx hb dX1_summariseBlock_28 ?_
  refine lv_topi (fun x_2 ex_2 => ?_)
  have hw := hw x_2 ex_2
  refine lv_istore (lv' := [(6, .int x_2), (5, .int x_1), (4, .int (-16 : Int32)), (3, .int (16 : Int32)), (2, .int (0 : Int32)), (0, .ref a0), (1, .int p1)]) hx hb dX1_summariseBlock_29 hl (by decide) rfl (fun ls hl => ?_)
  obtain ⟨I_3, mu_3, hI_3, hw⟩ := hw
  have lp_3 : ∀ (nn : Nat) (x_4 : Int32) (x_5 : Int32) (x_6 : Int32) (x_7 : Int32) (H : Heap) (locs : List Loc) (ls : Array Slot), mu_3 x_4 x_5 x_6 x_7 < nn → I_3 x_4 x_5 x_6 x_7 → va_P D vwCl [(a0, .inr (0, [.long f_low, .long f_high, .int f_places, .ref a_gains, .ref a_lows, .ref a_highs])), (a_gains, .inl (cA 0, 8, .inl f_gains)), (a_lows, .inl (cA 0, 8, .inl f_lows)), (a_highs, .inl (cA 0, 8, .inl f_highs))] H → va_D A [(a0, .inr (0, [.long f_low, .long f_high, .int f_places, .ref a_gains, .ref a_lows, .ref a_highs])), (a_gains, .inl (cA 0, 8, .inl f_gains)), (a_lows, .inl (cA 0, 8, .inl f_lows)), (a_highs, .inl (cA 0, 8, .inl f_highs))] → va_S A s.heap H locs → lv_has ls 7 [(0, .ref a0), (1, .int p1), (2, .int x_4), (3, .int x_5), (4, .int x_6), (5, .int x_1), (6, .int x_7)] → W p l e rX1_summariseBlock s m args below meth c H locs 0 0 (MQ below (va_Qv post (zB D A (fun u : (Nat → Int32) × (Nat → Int32) × (Nat → Int32) => [(a0, .inr (0, [.long f_low, .long f_high, .int f_places, .ref a_gains, .ref a_lows, .ref a_highs])), (a_gains, .inl (cA 0, 8, .inl u.1)), (a_lows, .inl (cA 0, 8, .inl u.2.1)), (a_highs, .inl (cA 0, 8, .inl u.2.2))])) A) args s 0 0 A) (F0 m 31 ls []) := by
    intro nn
    induction nn with
    | zero => exact fun _ _ _ _ _ _ _ h0 => absurd h0 (Nat.not_lt_zero _)
    | succ nn ih_3 =>
      intro x_4 x_5 x_6 x_7 H locs ls hmu_3 hI_3 hP hD hS hl
      have hw := hw x_4 x_5 x_6 x_7 hI_3
      refine lv_iload hx hb dX1_summariseBlock_31 (lv_at hl 6 rfl) ?_
      refine lv_iload hx hb dX1_summariseBlock_33 (lv_at hl 5 rfl) ?_
      refine lv_icmp_ge (tgt := 67) hx hb dX1_summariseBlock_35 (by decide) (fun c_8 => ?_) (fun c_8 => ?_)
      · have hw := hw.1 c_8
        refine lv_aload_n hx hb dX1_summariseBlock_67 rfl (lv_at hl 0 rfl) ?_
        refine va_get (D := D) (ci := 0) (v := .ref a_gains) (C := RX1) (T := TX1) (N := 6) hx hb hts iwX1 hown hK.1 hP 0 rfl rfl 3 (by decide) kf9 (fun _ h9 => h9) rfl dX1_summariseBlock_68 ?_
        refine lv_iload_n hx hb dX1_summariseBlock_71 rfl (lv_at hl 1 rfl) ?_
        refine lv_iload_n hx hb dX1_summariseBlock_72 rfl (lv_at hl 2 rfl) ?_
        have hq := hw.1
        have hw := hw.2
        refine va_iast hx hb hK.1 hP hD hS 1 0 rfl rfl hq dX1_summariseBlock_73 (fun H locs hP hD hS => ?_)
        have hP : va_P D vwCl [(a0, .inr (0, [.long f_low, .long f_high, .int f_places, .ref a_gains, .ref a_lows, .ref a_highs])), (a_gains, .inl (cA 0, 8, .inl (upd f_gains p1.toNatClampNeg x_4))), (a_lows, .inl (cA 0, 8, .inl f_lows)), (a_highs, .inl (cA 0, 8, .inl f_highs))] H := hP
        have hD : va_D A [(a0, .inr (0, [.long f_low, .long f_high, .int f_places, .ref a_gains, .ref a_lows, .ref a_highs])), (a_gains, .inl (cA 0, 8, .inl (upd f_gains p1.toNatClampNeg x_4))), (a_lows, .inl (cA 0, 8, .inl f_lows)), (a_highs, .inl (cA 0, 8, .inl f_highs))] := hD
        refine lv_aload_n hx hb dX1_summariseBlock_74 rfl (lv_at hl 0 rfl) ?_
        refine va_get (D := D) (ci := 0) (v := .ref a_lows) (C := RX1) (T := TX1) (N := 6) hx hb hts iwX1 hown hK.1 hP 0 rfl rfl 4 (by decide) kf15 (fun _ h9 => h9) rfl dX1_summariseBlock_75 ?_
        refine lv_iload_n hx hb dX1_summariseBlock_78 rfl (lv_at hl 1 rfl) ?_
        refine lv_iload_n hx hb dX1_summariseBlock_79 rfl (lv_at hl 3 rfl) ?_
        have hq := hw.1
        have hw := hw.2
        refine va_iast hx hb hK.1 hP hD hS 2 0 rfl rfl hq dX1_summariseBlock_80 (fun H locs hP hD hS => ?_)
        have hP : va_P D vwCl [(a0, .inr (0, [.long f_low, .long f_high, .int f_places, .ref a_gains, .ref a_lows, .ref a_highs])), (a_gains, .inl (cA 0, 8, .inl (upd f_gains p1.toNatClampNeg x_4))), (a_lows, .inl (cA 0, 8, .inl (upd f_lows p1.toNatClampNeg x_5))), (a_highs, .inl (cA 0, 8, .inl f_highs))] H := hP
        have hD : va_D A [(a0, .inr (0, [.long f_low, .long f_high, .int f_places, .ref a_gains, .ref a_lows, .ref a_highs])), (a_gains, .inl (cA 0, 8, .inl (upd f_gains p1.toNatClampNeg x_4))), (a_lows, .inl (cA 0, 8, .inl (upd f_lows p1.toNatClampNeg x_5))), (a_highs, .inl (cA 0, 8, .inl f_highs))] := hD
        refine lv_aload_n hx hb dX1_summariseBlock_81 rfl (lv_at hl 0 rfl) ?_
        refine va_get (D := D) (ci := 0) (v := .ref a_highs) (C := RX1) (T := TX1) (N := 6) hx hb hts iwX1 hown hK.1 hP 0 rfl rfl 5 (by decide) kf18 (fun _ h9 => h9) rfl dX1_summariseBlock_82 ?_
        refine lv_iload_n hx hb dX1_summariseBlock_85 rfl (lv_at hl 1 rfl) ?_
        refine lv_iload hx hb dX1_summariseBlock_86 (lv_at hl 4 rfl) ?_
        have hq := hw.1
        have hw := hw.2
        refine va_iast hx hb hK.1 hP hD hS 3 0 rfl rfl hq dX1_summariseBlock_88 (fun H locs hP hD hS => ?_)
        have hP : va_P D vwCl [(a0, .inr (0, [.long f_low, .long f_high, .int f_places, .ref a_gains, .ref a_lows, .ref a_highs])), (a_gains, .inl (cA 0, 8, .inl (upd f_gains p1.toNatClampNeg x_4))), (a_lows, .inl (cA 0, 8, .inl (upd f_lows p1.toNatClampNeg x_5))), (a_highs, .inl (cA 0, 8, .inl (upd f_highs p1.toNatClampNeg x_6)))] H := hP
        have hD : va_D A [(a0, .inr (0, [.long f_low, .long f_high, .int f_places, .ref a_gains, .ref a_lows, .ref a_highs])), (a_gains, .inl (cA 0, 8, .inl (upd f_gains p1.toNatClampNeg x_4))), (a_lows, .inl (cA 0, 8, .inl (upd f_lows p1.toNatClampNeg x_5))), (a_highs, .inl (cA 0, 8, .inl (upd f_highs p1.toNatClampNeg x_6)))] := hD
        exact z_vretw ((upd f_gains p1.toNatClampNeg x_4), (upd f_lows p1.toNatClampNeg x_5), (upd f_highs p1.toNatClampNeg x_6)) hx hb hr hlk hw hP hD hS dX1_summariseBlock_89
      · have hw := hw.2 c_8
        refine lv_iload_n hx hb dX1_summariseBlock_38 rfl (lv_at hl 2 rfl) ?_
        refine lv_aload_n hx hb dX1_summariseBlock_39 rfl (lv_at hl 0 rfl) ?_
        refine lv_iload hx hb dX1_summariseBlock_40 (lv_at hl 6 rfl) ?_
        refine z_ri [.int x_7] [.int x_4] ⟨hx, hb, hml, hown, hts⟩ (kX1_stepAt l D cA a0 a_gains a_lows a_highs f_low f_high f_places f_gains f_lows f_highs x_7 _ hw) (cwV 1 hts gX1_summariseBlock_X1_stepAt rfl rfl rfl vX1_stepAt ⟨Nat.le_of_ble_eq_true rfl, Nat.le_of_ble_eq_true rfl⟩) hK (hP.sub [0, 1, 2, 3] rfl) (va_recv hK.1 (hP.sub (ws' := [(a0, .inr (0, [.long f_low, .long f_high, .int f_places, .ref a_gains, .ref a_lows, .ref a_highs]))]) [0] rfl) (ci := 0) (q0 := 0) rfl rfl) rfl hl.1 rfl (Nat.le_of_ble_eq_true rfl) dX1_summariseBlock_42 ⟨Nat.zero_le _, Nat.zero_le _⟩ (fun r_9 hw => ?_)
        refine lv_iadd hx hb dX1_summariseBlock_45 ?_
        refine lv_topi (fun x_10 ex_10 => ?_)
        have hw := hw x_10 ex_10
        refine lv_istore_n (lv' := [(2, .int x_10), (0, .ref a0), (1, .int p1), (3, .int x_5), (4, .int x_6), (5, .int x_1), (6, .int x_7)]) hx hb dX1_summariseBlock_46 rfl hl (by decide) rfl (fun ls hl => ?_)
        refine lv_iload_n hx hb dX1_summariseBlock_47 rfl (lv_at hl 3 rfl) ?_
        refine lv_iload_n hx hb dX1_summariseBlock_48 rfl (lv_at hl 0 rfl) ?_
        refine va_mmin hx hb (hml.trans hl.1.symm) hown mmin1_92 mmin2 mini mmin3 (Nat.le_of_ble_eq_true rfl) (Nat.le_of_ble_eq_true rfl) (Nat.zero_le _) (Nat.zero_le _) dX1_summariseBlock_49 ?_
        refine lv_topi (fun x_11 ex_11 => ?_)
        have hw := hw x_11 ex_11
        refine lv_istore_n (lv' := [(3, .int x_11), (2, .int x_10), (0, .ref a0), (1, .int p1), (4, .int x_6), (5, .int x_1), (6, .int x_7)]) hx hb dX1_summariseBlock_52 rfl hl (by decide) rfl (fun ls hl => ?_)
        refine lv_iload hx hb dX1_summariseBlock_53 (lv_at hl 4 rfl) ?_
        refine lv_iload_n hx hb dX1_summariseBlock_55 rfl (lv_at hl 1 rfl) ?_
        refine va_mmax hx hb (hml.trans hl.1.symm) hown mmax1_87 mmax2 mini mmax3 (Nat.le_of_ble_eq_true rfl) (Nat.le_of_ble_eq_true rfl) (Nat.zero_le _) (Nat.zero_le _) dX1_summariseBlock_56 ?_
        refine lv_topi (fun x_12 ex_12 => ?_)
        have hw := hw x_12 ex_12
        refine lv_istore (lv' := [(4, .int x_12), (3, .int x_11), (2, .int x_10), (0, .ref a0), (1, .int p1), (5, .int x_1), (6, .int x_7)]) hx hb dX1_summariseBlock_59 hl (by decide) rfl (fun ls hl => ?_)
        obtain ⟨x_13, ex_13⟩ : ∃ y : Int32, y = x_7 + (1) := ⟨_, rfl⟩
        have hw := hw x_13 ex_13
        refine lv_iinc (v := x_13) (lv' := [(6, .int x_13), (4, .int x_12), (3, .int x_11), (2, .int x_10), (0, .ref a0), (1, .int p1), (5, .int x_1)]) hx hb dX1_summariseBlock_61 hl (k := 6) rfl (by rw [ex_13]; rfl) (by decide) rfl (fun ls hl => ?_)
        refine lv_goto (tgt := 31) hx hb dX1_summariseBlock_64 (by decide) ?_
        exact ih_3 x_10 x_11 x_12 x_13 _ _ ls (Nat.lt_of_lt_of_le hw.2 (Nat.le_of_lt_succ hmu_3)) hw.1 hP hD hS (lv_sub hl [4, 5, 3, 2, 1, 6, 0] rfl)
  exact lp_3 (mu_3 (0 : Int32) (16 : Int32) (-16 : Int32) x_2 + 1) (0 : Int32) (16 : Int32) (-16 : Int32) x_2 _ _ ls (Nat.lt_succ_self _) hI_3 hP hD hS (lv_sub hl [5, 6, 4, 3, 2, 1, 0] rfl)
