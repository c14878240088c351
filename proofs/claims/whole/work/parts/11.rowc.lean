/-! written by wip/whole/gen.py -/
def wX1_summarise (f_low : Int64) (f_high : Int64) (f_places : Int32) (f_gains : Nat → Int32) (f_lows : Nat → Int32) (f_highs : Nat → Int32) (p1 : Int32) (post : ((Nat → Int32) × (Nat → Int32) × (Nat → Int32)) → Prop) : Prop := (∀ x_1 : Int32, x_1 = (p1 / (16 : Int32)) → (∃ (I_2 : Int32 → (Nat → Int32) → (Nat → Int32) → (Nat → Int32) → Prop) (mu_2 : Int32 → (Nat → Int32) → (Nat → Int32) → (Nat → Int32) → Nat), I_2 x_1 f_gains f_lows f_highs ∧ ∀ (x_3 : Int32) (f_gains_4 : Nat → Int32) (f_lows_5 : Nat → Int32) (f_highs_6 : Nat → Int32), I_2 x_3 f_gains_4 f_lows_5 f_highs_6 → (((8 : Int32) ≤ x_3 → post (f_gains_4, f_lows_5, f_highs_6)) ∧ (¬ (8 : Int32) ≤ x_3 → (wX1_summariseBlock f_low f_high f_places f_gains_4 f_lows_5 f_highs_6 x_3 (fun u_9 : (Nat → Int32) × (Nat → Int32) × (Nat → Int32) => ((∀ x_10 : Int32, x_10 = x_3 + (1) → (I_2 x_10 u_9.1 u_9.2.1 u_9.2.2 ∧ mu_2 x_10 u_9.1 u_9.2.1 u_9.2.2 < mu_2 x_3 f_gains_4 f_lows_5 f_highs_6)))))))))
abbrev rX1_summarise : Room := { frames := 2, cells := 0, slots := 0, locals := 47 }
theorem vX1_summarise : yX1_summarise.cls = RX1 ∧ yX1_summarise.cls ≠ "java/lang/invoke/MethodHandle" ∧ yX1_summarise.cls ≠ "java/lang/invoke/VarHandle" ∧ (parseMethodDescriptor yX1_summarise.desc).map (fun d => d.parameters.length) = some 1 := by decide +kernel
set_option maxHeartbeats 4000000 in
set_option maxRecDepth 100000 in
theorem kX1_summarise (l : Launch) (D : va_G) (cA : Nat → ClassId) (a0 a_gains a_lows a_highs : Nat) (f_low : Int64) (f_high : Int64) (f_places : Int32) (f_gains : Nat → Int32) (f_lows : Nat → Int32) (f_highs : Nat → Int32) (sz : Nat) (p1 : Int32) (post : ((Nat → Int32) × (Nat → Int32) × (Nat → Int32)) → Prop) (h : wX1_summarise f_low f_high f_places f_gains f_lows f_highs p1 post) : Met l yX1_summarise wsX1_summarise rX1_summarise (zPw D cA [.ref a0, .int p1] [(a0, .inr (0, [.long f_low, .long f_high, .int f_places, .ref a_gains, .ref a_lows, .ref a_highs])), (a_gains, .inl (cA 0, 8, .inl f_gains)), (a_lows, .inl (cA 0, 8, .inl f_lows)), (a_highs, .inl (cA 0, 8, .inl f_highs))] sz) (va_Qv post (zB D (va_A [(a0, .inr (0, [.long f_low, .long f_high, .int f_places, .ref a_gains, .ref a_lows, .ref a_highs])), (a_gains, .inl (cA 0, 8, .inl f_gains)), (a_lows, .inl (cA 0, 8, .inl f_lows)), (a_highs, .inl (cA 0, 8, .inl f_highs))] sz) (fun u : (Nat → Int32) × (Nat → Int32) × (Nat → Int32) => [(a0, .inr (0, [.long f_low, .long f_high, .int f_places, .ref a_gains, .ref a_lows, .ref a_highs])), (a_gains, .inl (cA 0, 8, .inl u.1)), (a_lows, .inl (cA 0, 8, .inl u.2.1)), (a_highs, .inl (cA 0, 8, .inl u.2.2))])) (va_A [(a0, .inr (0, [.long f_low, .long f_high, .int f_places, .ref a_gains, .ref a_lows, .ref a_highs])), (a_gains, .inl (cA 0, 8, .inl f_gains)), (a_lows, .inl (cA 0, 8, .inl f_lows)), (a_highs, .inl (cA 0, 8, .inl f_highs))] sz)) 0 0 (va_A [(a0, .inr (0, [.long f_low, .long f_high, .int f_places, .ref a_gains, .ref a_lows, .ref a_highs])), (a_gains, .inl (cA 0, 8, .inl f_gains)), (a_lows, .inl (cA 0, 8, .inl f_lows)), (a_highs, .inl (cA 0, 8, .inl f_highs))] sz) := by
  refine z_rw (Qc := fun A => va_Qv post (zB D A (fun u : (Nat → Int32) × (Nat → Int32) × (Nat → Int32) => [(a0, .inr (0, [.long f_low, .long f_high, .int f_places, .ref a_gains, .ref a_lows, .ref a_highs])), (a_gains, .inl (cA 0, 8, .inl u.1)), (a_lows, .inl (cA 0, 8, .inl u.2.1)), (a_highs, .inl (cA 0, 8, .inl u.2.2))])) A) (cc := cX1_summarise) (maxL := 3) (ret := none) (by decide) rfl (Nat.le_of_ble_eq_true rfl) ?_
  intro p e s m args below meth c ls A hx hb hr hlk hml hown hts hK hP hD hS hA hl
  have hown : s.vm.findClass RX1 = some m.cls := hown
  have hl : lv_has ls 3 [(0, .ref a0), (1, .int p1)] := hl
  have hw := h
  unfold wX1_summarise at hw
  refine lv_iload_n hx hb dX1_summarise_0 rfl (lv_at hl 1 rfl) ?_
  refine lv_bipush (v := 16) hx hb dX1_summarise_1 (by decide) ?_
  refine lv_idiv hx hb dX1_summarise_3 (by decide) ?_
  refine lv_topi (fun x_1 ex_1 => ?_)
  have hw := hw x_1 ex_1
  refine lv_istore_n (lv' := [(2, .int x_1), (0, .ref a0), (1, .int p1)]) hx hb dX1_summarise_4 rfl hl (by decide) rfl (fun ls hl => ?_)
  obtain ⟨I_2, mu_2, hI_2, hw⟩ := hw
  have lp_2 : ∀ (nn : Nat) (x_3 : Int32) (f_gains_4 : Nat → Int32) (f_lows_5 : Nat → Int32) (f_highs_6 : Nat → Int32) (H : Heap) (locs : List Loc) (ls : Array Slot), mu_2 x_3 f_gains_4 f_lows_5 f_highs_6 < nn → I_2 x_3 f_gains_4 f_lows_5 f_highs_6 → va_P D vwCl [(a0, .inr (0, [.long f_low, .long f_high, .int f_places, .ref a_gains, .ref a_lows, .ref a_highs])), (a_gains, .inl (cA 0, 8, .inl f_gains_4)), (a_lows, .inl (cA 0, 8, .inl f_lows_5)), (a_highs, .inl (cA 0, 8, .inl f_highs_6))] H → va_D A [(a0, .inr (0, [.long f_low, .long f_high, .int f_places, .ref a_gains, .ref a_lows, .ref a_highs])), (a_gains, .inl (cA 0, 8, .inl f_gains_4)), (a_lows, .inl (cA 0, 8, .inl f_lows_5)), (a_highs, .inl (cA 0, 8, .inl f_highs_6))] → va_S A s.heap H locs → lv_has ls 3 [(0, .ref a0), (2, .int x_3)] → W p l e rX1_summarise s m args below meth c H locs 0 0 (MQ below (va_Qv post (zB D A (fun u : (Nat → Int32) × (Nat → Int32) × (Nat → Int32) => [(a0, .inr (0, [.long f_low, .long f_high, .int f_places, .ref a_gains, .ref a_lows, .ref a_highs])), (a_gains, .inl (cA 0, 8, .inl u.1)), (a_lows, .inl (cA 0, 8, .inl u.2.1)), (a_highs, .inl (cA 0, 8, .inl u.2.2))])) A) args s 0 0 A) (F0 m 5 ls []) := by
    intro nn
    induction nn with
    | zero => exact fun _ _ _ _ _ _ _ h0 => absurd h0 (Nat.not_lt_zero _)
    | succ nn ih_2 =>
      intro x_3 f_gains_4 f_lows_5 f_highs_6 H locs ls hmu_2 hI_2 hP hD hS hl
      have hw := hw x_3 f_gains_4 f_lows_5 f_highs_6 hI_2
      refine lv_iload_n hx hb dX1_summarise_5 rfl (lv_at hl 1 rfl) ?_
      refine lv_bipush (v := 8) hx hb dX1_summarise_6 (by decide) ?_
      refine lv_icmp_ge (tgt := 22) hx hb dX1_summarise_8 (by decide) (fun c_7 => ?_) (fun c_7 => ?_)
      · have hw := hw.1 c_7
        exact z_vretw (f_gains_4, f_lows_5, f_highs_6) hx hb hr hlk hw hP hD hS dX1_summarise_22
      · have hw := hw.2 c_7
        refine lv_aload_n hx hb dX1_summarise_11 rfl (lv_at hl 0 rfl) ?_
        refine lv_iload_n hx hb dX1_summarise_12 rfl (lv_at hl 1 rfl) ?_
        refine z_wv (wr := []) (wn := (fun u : (Nat → Int32) × (Nat → Int32) × (Nat → Int32) => [(a0, .inr (0, [.long f_low, .long f_high, .int f_places, .ref a_gains, .ref a_lows, .ref a_highs])), (a_gains, .inl (cA 0, 8, .inl u.1)), (a_lows, .inl (cA 0, 8, .inl u.2.1)), (a_highs, .inl (cA 0, 8, .inl u.2.2))])) [.int x_3] [] ⟨hx, hb, hml, hown, hts⟩ (kX1_summariseBlock l D cA a0 a_gains a_lows a_highs f_low f_high f_places f_gains_4 f_lows_5 f_highs_6 _ x_3 _ hw) (cwV 1 hts gX1_summarise_X1_summariseBlock rfl rfl rfl vX1_summariseBlock ⟨Nat.le_of_ble_eq_true rfl, Nat.le_of_ble_eq_true rfl⟩) hK hP hD hS hA [0, 1, 2, 3] [] [0, 1, 2, 3] rfl (by decide) rfl (by decide) (by decide) (fun u => rfl) (by decide) (va_recv hK.1 (hP.sub (ws' := [(a0, .inr (0, [.long f_low, .long f_high, .int f_places, .ref a_gains, .ref a_lows, .ref a_highs]))]) [0] rfl) (ci := 0) (q0 := 0) rfl rfl) rfl hl.1 rfl (Nat.le_of_ble_eq_true rfl) dX1_summarise_13 ⟨Nat.zero_le _, Nat.zero_le _⟩ (fun u_9 H locs hw hP hD hS => ?_)
        have hP : va_P D vwCl [(a0, .inr (0, [.long f_low, .long f_high, .int f_places, .ref a_gains, .ref a_lows, .ref a_highs])), (a_gains, .inl (cA 0, 8, .inl u_9.1)), (a_lows, .inl (cA 0, 8, .inl u_9.2.1)), (a_highs, .inl (cA 0, 8, .inl u_9.2.2))] H := hP
        have hD : va_D A [(a0, .inr (0, [.long f_low, .long f_high, .int f_places, .ref a_gains, .ref a_lows, .ref a_highs])), (a_gains, .inl (cA 0, 8, .inl u_9.1)), (a_lows, .inl (cA 0, 8, .inl u_9.2.1)), (a_highs, .inl (cA 0, 8, .inl u_9.2.2))] := hD
        obtain ⟨x_10, ex_10⟩ : ∃ y : Int32, y = x_3 + (1) := ⟨_, rfl⟩
        have hw := hw x_10 ex_10
        refine lv_iinc (v := x_10) (lv' := [(2, .int x_10), (0, .ref a0)]) hx hb dX1_summarise_16 hl (k := 1) rfl (by rw [ex_10]; rfl) (by decide) rfl (fun ls hl => ?_)
        refine lv_goto (tgt := 5) hx hb dX1_summarise_19 (by decide) ?_
        exact ih_2 x_10 u_9.1 u_9.2.1 u_9.2.2 _ _ ls (Nat.lt_of_lt_of_le hw.2 (Nat.le_of_lt_succ hmu_2)) hw.1 hP hD hS (lv_sub hl [1, 0] rfl)
  exact lp_2 (mu_2 x_1 f_gains f_lows f_highs + 1) x_1 f_gains f_lows f_highs _ _ ls (Nat.lt_succ_self _) hI_2 hP hD hS (lv_sub hl [1, 0] rfl)
def wX1_remove (f_low : Int64) (f_high : Int64) (f_places : Int32) (f_gains : Nat → Int32) (f_lows : Nat → Int32) (f_highs : Nat → Int32) (p1 : Int32) (p2 : Int32) (post : ((Int64) × (Int64) × (Int32) × (Nat → Int32) × (Nat → Int32) × (Nat → Int32)) → Prop) : Prop := (wX0_firstOf p1 (fun r_1 : Int64 => ((wX0_firstOf (p1 - (64 : Int32)) (fun r_2 : Int64 => ((wX0_downLow f_low f_high p2 (fun r_3 : Int64 => ((∀ x_4 : Int64, x_4 = ((f_low &&& r_1) ||| (r_3 &&& (r_1 ^^^ (-1 : Int64)))) → (wX0_downHigh f_high p2 (fun r_5 : Int64 => ((∀ x_6 : Int64, x_6 = ((f_high &&& r_2) ||| (r_5 &&& (r_2 ^^^ (-1 : Int64)))) → (∀ x_7 : Int32, x_7 = (f_places - p2) → (wX1_summarise x_4 x_6 x_7 f_gains f_lows f_highs p1 (fun u_9 : (Nat → Int32) × (Nat → Int32) × (Nat → Int32) => (post (x_4, x_6, x_7, u_9.1, u_9.2.1, u_9.2.2)))))))))))))))))))
abbrev rX1_remove : Room := { frames := 3, cells := 0, slots := 0, locals := 69 }
theorem vX1_remove : yX1_remove.cls = RX1 ∧ yX1_remove.cls ≠ "java/lang/invoke/MethodHandle" ∧ yX1_remove.cls ≠ "java/lang/invoke/VarHandle" ∧ (parseMethodDescriptor yX1_remove.desc).map (fun d => d.parameters.length) = some 2 := by decide +kernel
set_option maxHeartbeats 4000000 in
set_option maxRecDepth 100000 in
theorem kX1_remove (l : Launch) (D : va_G) (cA : Nat → ClassId) (a0 a_gains a_lows a_highs : Nat) (f_low : Int64) (f_high : Int64) (f_places : Int32) (f_gains : Nat → Int32) (f_lows : Nat → Int32) (f_highs : Nat → Int32) (sz : Nat) (p1 : Int32) (p2 : Int32) (post : ((Int64) × (Int64) × (Int32) × (Nat → Int32) × (Nat → Int32) × (Nat → Int32)) → Prop) (h : wX1_remove f_low f_high f_places f_gains f_lows f_highs p1 p2 post) : Met l yX1_remove wsX1_remove rX1_remove (zPw D cA [.ref a0, .int p1, .int p2] [(a0, .inr (0, [.long f_low, .long f_high, .int f_places, .ref a_gains, .ref a_lows, .ref a_highs])), (a_gains, .inl (cA 0, 8, .inl f_gains)), (a_lows, .inl (cA 0, 8, .inl f_lows)), (a_highs, .inl (cA 0, 8, .inl f_highs))] sz) (va_Qv post (zB D (va_A [(a0, .inr (0, [.long f_low, .long f_high, .int f_places, .ref a_gains, .ref a_lows, .ref a_highs])), (a_gains, .inl (cA 0, 8, .inl f_gains)), (a_lows, .inl (cA 0, 8, .inl f_lows)), (a_highs, .inl (cA 0, 8, .inl f_highs))] sz) (fun u : (Int64) × (Int64) × (Int32) × (Nat → Int32) × (Nat → Int32) × (Nat → Int32) => [(a0, .inr (0, [.long u.1, .long u.2.1, .int u.2.2.1, .ref a_gains, .ref a_lows, .ref a_highs])), (a_gains, .inl (cA 0, 8, .inl u.2.2.2.1)), (a_lows, .inl (cA 0, 8, .inl u.2.2.2.2.1)), (a_highs, .inl (cA 0, 8, .inl u.2.2.2.2.2))])) (va_A [(a0, .inr (0, [.long f_low, .long f_high, .int f_places, .ref a_gains, .ref a_lows, .ref a_highs])), (a_gains, .inl (cA 0, 8, .inl f_gains)), (a_lows, .inl (cA 0, 8, .inl f_lows)), (a_highs, .inl (cA 0, 8, .inl f_highs))] sz)) 0 0 (va_A [(a0, .inr (0, [.long f_low, .long f_high, .int f_places, .ref a_gains, .ref a_lows, .ref a_highs])), (a_gains, .inl (cA 0, 8, .inl f_gains)), (a_lows, .inl (cA 0, 8, .inl f_lows)), (a_highs, .inl (cA 0, 8, .inl f_highs))] sz) := by
  refine z_rw (Qc := fun A => va_Qv post (zB D A (fun u : (Int64) × (Int64) × (Int32) × (Nat → Int32) × (Nat → Int32) × (Nat → Int32) => [(a0, .inr (0, [.long u.1, .long u.2.1, .int u.2.2.1, .ref a_gains, .ref a_lows, .ref a_highs])), (a_gains, .inl (cA 0, 8, .inl u.2.2.2.1)), (a_lows, .inl (cA 0, 8, .inl u.2.2.2.2.1)), (a_highs, .inl (cA 0, 8, .inl u.2.2.2.2.2))])) A) (cc := cX1_remove) (maxL := 9) (ret := none) (by decide) rfl (Nat.le_of_ble_eq_true rfl) ?_
  intro p e s m args below meth c ls A hx hb hr hlk hml hown hts hK hP hD hS hA hl
  have hown : s.vm.findClass RX1 = some m.cls := hown
  have hl : lv_has ls 9 [(0, .ref a0), (1, .int p1), (2, .int p2)] := hl
  have hw := h
  unfold wX1_remove at hw
  have iwX1 : ∀ w ∈ wsX10, w ∈ wsX1_remove := fun w h9 => List.mem_cons_of_mem _ (List.mem_append_right _ h9)
  have kf25 := hts (.fieldLink RX1 25 "ExcessTree$Row" "low" "J") (by decide +kernel)
  have kf29 := hts (.fieldLink RX1 29 "ExcessTree$Row" "high" "J") (by decide +kernel)
  have kl50 := hts (.constantLong RX1 50 (-1)) (by decide +kernel)
  have kf21 := hts (.fieldLink RX1 21 "ExcessTree$Row" "places" "I") (by decide +kernel)
  refine lv_iload_n hx hb dX1_remove_0 rfl (lv_at hl 1 rfl) ?_
  refine z_sl [.int p1] [] ⟨hx, hb, hml, hown, hts⟩ (kX0_firstOf l D cA p1 _ hw) (va_cwS 1 hts gX1_remove_X0_firstOf rfl rfl rfl vX0_firstOf ⟨Nat.le_of_ble_eq_true rfl, Nat.le_of_ble_eq_true rfl⟩) hK z_p0 rfl hl.1 rfl (Nat.le_of_ble_eq_true rfl) dX1_remove_1 ⟨Nat.zero_le _, Nat.zero_le _⟩ (fun r_1 hw => ?_)
  refine lv_lstore_n (lv' := [(3, .long r_1), (0, .ref a0), (1, .int p1), (2, .int p2)]) hx hb dX1_remove_4 rfl hl (by decide) rfl (fun ls hl => ?_)
  refine lv_iload_n hx hb dX1_remove_5 rfl (lv_at hl 2 rfl) ?_
  refine lv_bipush (v := 64) hx hb dX1_remove_6 (by decide) ?_
  refine lv_isub hx hb dX1_remove_8 ?_
  refine z_sl [.int (p1 - (64 : Int32))] [] ⟨hx, hb, hml, hown, hts⟩ (kX0_firstOf l D cA (p1 - (64 : Int32)) _ hw) (va_cwS 1 hts gX1_remove_X0_firstOf rfl rfl rfl vX0_firstOf ⟨Nat.le_of_ble_eq_true rfl, Nat.le_of_ble_eq_true rfl⟩) hK z_p0 rfl hl.1 rfl (Nat.le_of_ble_eq_true rfl) dX1_remove_9 ⟨Nat.zero_le _, Nat.zero_le _⟩ (fun r_2 hw => ?_)
  refine lv_lstore (lv' := [(5, .long r_2), (3, .long r_1), (0, .ref a0), (1, .int p1), (2, .int p2)]) hx hb dX1_remove_12 hl (by decide) rfl (fun ls hl => ?_)
  refine lv_aload_n hx hb dX1_remove_14 rfl (lv_at hl 2 rfl) ?_
  refine va_get (D := D) (ci := 0) (v := .long f_low) (C := RX1) (T := TX1) (N := 6) hx hb hts iwX1 hown hK.1 hP 0 rfl rfl 0 (by decide) kf25 (fun _ h9 => h9) rfl dX1_remove_15 ?_
  refine lv_lload_n hx hb dX1_remove_18 rfl (lv_at hl 1 rfl) ?_
  refine lv_land hx hb dX1_remove_19 ?_
  refine lv_aload_n hx hb dX1_remove_20 rfl (lv_at hl 2 rfl) ?_
  refine va_get (D := D) (ci := 0) (v := .long f_low) (C := RX1) (T := TX1) (N := 6) hx hb hts iwX1 hown hK.1 hP 0 rfl rfl 0 (by decide) kf25 (fun _ h9 => h9) rfl dX1_remove_21 ?_
  refine lv_aload_n hx hb dX1_remove_24 rfl (lv_at hl 2 rfl) ?_
  refine va_get (D := D) (ci := 0) (v := .long f_high) (C := RX1) (T := TX1) (N := 6) hx hb hts iwX1 hown hK.1 hP 0 rfl rfl 1 (by decide) kf29 (fun _ h9 => h9) rfl dX1_remove_25 ?_
  refine lv_iload_n hx hb dX1_remove_28 rfl (lv_at hl 4 rfl) ?_
  refine z_sl [.long f_low, .long f_high, .int p2] [.long (f_low &&& r_1)] ⟨hx, hb, hml, hown, hts⟩ (kX0_downLow l D cA f_low f_high p2 _ hw) (va_cwS 3 hts gX1_remove_X0_downLow rfl rfl rfl vX0_downLow ⟨Nat.le_of_ble_eq_true rfl, Nat.le_of_ble_eq_true rfl⟩) hK z_p0 rfl hl.1 rfl (Nat.le_of_ble_eq_true rfl) dX1_remove_29 ⟨Nat.zero_le _, Nat.zero_le _⟩ (fun r_3 hw => ?_)
  refine lv_lload_n hx hb dX1_remove_32 rfl (lv_at hl 1 rfl) ?_
  refine lv_ldc2 (v := -1) hx hb hown kl50 dX1_remove_33 ?_
  refine lv_lxor hx hb dX1_remove_36 ?_
  refine lv_land hx hb dX1_remove_37 ?_
  refine lv_lor hx hb dX1_remove_38 ?_
  refine lv_topl (fun x_4 ex_4 => ?_)
  have hw := hw x_4 ex_4
  refine lv_lstore (lv' := [(7, .long x_4), (5, .long r_2), (3, .long r_1), (0, .ref a0), (1, .int p1), (2, .int p2)]) hx hb dX1_remove_39 hl (by decide) rfl (fun ls hl => ?_)
  refine lv_aload_n hx hb dX1_remove_41 rfl (lv_at hl 3 rfl) ?_
  refine lv_aload_n hx hb dX1_remove_42 rfl (lv_at hl 3 rfl) ?_
  refine va_get (D := D) (ci := 0) (v := .long f_high) (C := RX1) (T := TX1) (N := 6) hx hb hts iwX1 hown hK.1 hP 0 rfl rfl 1 (by decide) kf29 (fun _ h9 => h9) rfl dX1_remove_43 ?_
  refine lv_lload hx hb dX1_remove_46 (lv_at hl 1 rfl) ?_
  refine lv_land hx hb dX1_remove_48 ?_
  refine lv_aload_n hx hb dX1_remove_49 rfl (lv_at hl 3 rfl) ?_
  refine va_get (D := D) (ci := 0) (v := .long f_high) (C := RX1) (T := TX1) (N := 6) hx hb hts iwX1 hown hK.1 hP 0 rfl rfl 1 (by decide) kf29 (fun _ h9 => h9) rfl dX1_remove_50 ?_
  refine lv_iload_n hx hb dX1_remove_53 rfl (lv_at hl 5 rfl) ?_
  refine z_sl [.long f_high, .int p2] [.long (f_high &&& r_2), .ref a0] ⟨hx, hb, hml, hown, hts⟩ (kX0_downHigh l D cA f_high p2 _ hw) (va_cwS 2 hts gX1_remove_X0_downHigh rfl rfl rfl vX0_downHigh ⟨Nat.le_of_ble_eq_true rfl, Nat.le_of_ble_eq_true rfl⟩) hK z_p0 rfl hl.1 rfl (Nat.le_of_ble_eq_true rfl) dX1_remove_54 ⟨Nat.zero_le _, Nat.zero_le _⟩ (fun r_5 hw => ?_)
  refine lv_lload hx hb dX1_remove_57 (lv_at hl 1 rfl) ?_
  refine lv_ldc2 (v := -1) hx hb hown kl50 dX1_remove_59 ?_
  refine lv_lxor hx hb dX1_remove_62 ?_
  refine lv_land hx hb dX1_remove_63 ?_
  refine lv_lor hx hb dX1_remove_64 ?_
  refine lv_topl (fun x_6 ex_6 => ?_)
  have hw := hw x_6 ex_6
  refine va_put (D := D) (ci := 0) (v := .long x_6) (ty := .long) (C := RX1) (T := TX1) (N := 6) hx hb hts iwX1 tyX1 tyX1_ok nmX1 hown hK.1 hP hD hS 0 rfl rfl 1 (by decide) kf29 (fun _ h9 => h9) rfl (by decide +kernel) rfl rfl (Nat.le_of_ble_eq_true rfl) dX1_remove_65 (fun H locs hP hD hS => ?_)
  have hP : va_P D vwCl [(a0, .inr (0, [.long f_low, .long x_6, .int f_places, .ref a_gains, .ref a_lows, .ref a_highs])), (a_gains, .inl (cA 0, 8, .inl f_gains)), (a_lows, .inl (cA 0, 8, .inl f_lows)), (a_highs, .inl (cA 0, 8, .inl f_highs))] H := hP
  have hD : va_D A [(a0, .inr (0, [.long f_low, .long x_6, .int f_places, .ref a_gains, .ref a_lows, .ref a_highs])), (a_gains, .inl (cA 0, 8, .inl f_gains)), (a_lows, .inl (cA 0, 8, .inl f_lows)), (a_highs, .inl (cA 0, 8, .inl f_highs))] := hD
  refine lv_aload_n hx hb dX1_remove_68 rfl (lv_at hl 3 rfl) ?_
  refine lv_lload hx hb dX1_remove_69 (lv_at hl 0 rfl) ?_
  refine va_put (D := D) (ci := 0) (v := .long x_4) (ty := .long) (C := RX1) (T := TX1) (N := 6) hx hb hts iwX1 tyX1 tyX1_ok nmX1 hown hK.1 hP hD hS 0 rfl rfl 0 (by decide) kf25 (fun _ h9 => h9) rfl (by decide +kernel) rfl rfl (Nat.le_of_ble_eq_true rfl) dX1_remove_71 (fun H locs hP hD hS => ?_)
  have hP : va_P D vwCl [(a0, .inr (0, [.long x_4, .long x_6, .int f_places, .ref a_gains, .ref a_lows, .ref a_highs])), (a_gains, .inl (cA 0, 8, .inl f_gains)), (a_lows, .inl (cA 0, 8, .inl f_lows)), (a_highs, .inl (cA 0, 8, .inl f_highs))] H := hP
  have hD : va_D A [(a0, .inr (0, [.long x_4, .long x_6, .int f_places, .ref a_gains, .ref a_lows, .ref a_highs])), (a_gains, .inl (cA 0, 8, .inl f_gains)), (a_lows, .inl (cA 0, 8, .inl f_lows)), (a_highs, .inl (cA 0, 8, .inl f_highs))] := hD
  refine lv_aload_n hx hb dX1_remove_74 rfl (lv_at hl 3 rfl) ?_
  refine lv_dup hx hb dX1_remove_75 rfl ?_
  refine va_get (D := D) (ci := 0) (v := .int f_places) (C := RX1) (T := TX1) (N := 6) hx hb hts iwX1 hown hK.1 hP 0 rfl rfl 2 (by decide) kf21 (fun _ h9 => h9) rfl dX1_remove_76 ?_
  refine lv_iload_n hx hb dX1_remove_79 rfl (lv_at hl 5 rfl) ?_
  refine lv_isub hx hb dX1_remove_80 ?_
  refine lv_topi (fun x_7 ex_7 => ?_)
  have hw := hw x_7 ex_7
  refine va_put (D := D) (ci := 0) (v := .int x_7) (ty := .int) (C := RX1) (T := TX1) (N := 6) hx hb hts iwX1 tyX1 tyX1_ok nmX1 hown hK.1 hP hD hS 0 rfl rfl 2 (by decide) kf21 (fun _ h9 => h9) rfl (by decide +kernel) rfl rfl (Nat.le_of_ble_eq_true rfl) dX1_remove_81 (fun H locs hP hD hS => ?_)
  have hP : va_P D vwCl [(a0, .inr (0, [.long x_4, .long x_6, .int x_7, .ref a_gains, .ref a_lows, .ref a_highs])), (a_gains, .inl (cA 0, 8, .inl f_gains)), (a_lows, .inl (cA 0, 8, .inl f_lows)), (a_highs, .inl (cA 0, 8, .inl f_highs))] H := hP
  have hD : va_D A [(a0, .inr (0, [.long x_4, .long x_6, .int x_7, .ref a_gains, .ref a_lows, .ref a_highs])), (a_gains, .inl (cA 0, 8, .inl f_gains)), (a_lows, .inl (cA 0, 8, .inl f_lows)), (a_highs, .inl (cA 0, 8, .inl f_highs))] := hD
  refine lv_aload_n hx hb dX1_remove_84 rfl (lv_at hl 3 rfl) ?_
  refine lv_iload_n hx hb dX1_remove_85 rfl (lv_at hl 4 rfl) ?_
  refine z_wv (wr := []) (wn := (fun u : (Nat → Int32) × (Nat → Int32) × (Nat → Int32) => [(a0, .inr (0, [.long x_4, .long x_6, .int x_7, .ref a_gains, .ref a_lows, .ref a_highs])), (a_gains, .inl (cA 0, 8, .inl u.1)), (a_lows, .inl (cA 0, 8, .inl u.2.1)), (a_highs, .inl (cA 0, 8, .inl u.2.2))])) [.int p1] [] ⟨hx, hb, hml, hown, hts⟩ (kX1_summarise l D cA a0 a_gains a_lows a_highs x_4 x_6 x_7 f_gains f_lows f_highs _ p1 _ hw) (cwV 1 hts gX1_remove_X1_summarise rfl rfl rfl vX1_summarise ⟨Nat.le_of_ble_eq_true rfl, Nat.le_of_ble_eq_true rfl⟩) hK hP hD hS hA [0, 1, 2, 3] [] [0, 1, 2, 3] rfl (by decide) rfl (by decide) (by decide) (fun u => rfl) (by decide) (va_recv hK.1 (hP.sub (ws' := [(a0, .inr (0, [.long x_4, .long x_6, .int x_7, .ref a_gains, .ref a_lows, .ref a_highs]))]) [0] rfl) (ci := 0) (q0 := 0) rfl rfl) rfl hl.1 rfl (Nat.le_of_ble_eq_true rfl) dX1_remove_86 ⟨Nat.zero_le _, Nat.zero_le _⟩ (fun u_9 H locs hw hP hD hS => ?_)
  have hP : va_P D vwCl [(a0, .inr (0, [.long x_4, .long x_6, .int x_7, .ref a_gains, .ref a_lows, .ref a_highs])), (a_gains, .inl (cA 0, 8, .inl u_9.1)), (a_lows, .inl (cA 0, 8, .inl u_9.2.1)), (a_highs, .inl (cA 0, 8, .inl u_9.2.2))] H := hP
  have hD : va_D A [(a0, .inr (0, [.long x_4, .long x_6, .int x_7, .ref a_gains, .ref a_lows, .ref a_highs])), (a_gains, .inl (cA 0, 8, .inl u_9.1)), (a_lows, .inl (cA 0, 8, .inl u_9.2.1)), (a_highs, .inl (cA 0, 8, .inl u_9.2.2))] := hD
  exact z_vretw (x_4, x_6, x_7, u_9.1, u_9.2.1, u_9.2.2) hx hb hr hlk hw hP hD hS dX1_remove_89
def wX1_insert (f_low : Int64) (f_high : Int64) (f_places : Int32) (f_gains : Nat → Int32) (f_lows : Nat → Int32) (f_highs : Nat → Int32) (p1 : Int32) (p2 : Int32) (p3 : Int64) (p4 : Int64) (post : ((Int64) × (Int64) × (Int32) × (Nat → Int32) × (Nat → Int32) × (Nat → Int32)) → Prop) : Prop := (wX0_firstOf p1 (fun r_1 : Int64 => ((wX0_firstOf (p1 - (64 : Int32)) (fun r_2 : Int64 => ((∀ x_3 : Int64, x_3 = (f_low &&& (r_1 ^^^ (-1 : Int64))) → (∀ x_4 : Int64, x_4 = (f_high &&& (r_2 ^^^ (-1 : Int64))) → (wX0_upHigh x_3 x_4 p2 (fun r_5 : Int64 => ((wX0_upHigh p3 p4 p1 (fun r_6 : Int64 => ((∀ x_7 : Int64, x_7 = (((f_high &&& r_2) ||| r_5) ||| r_6) → (wX0_upLow x_3 p2 (fun r_8 : Int64 => ((wX0_upLow p3 p1 (fun r_9 : Int64 => ((∀ x_10 : Int64, x_10 = (((f_low &&& r_1) ||| r_8) ||| r_9) → (∀ x_11 : Int32, x_11 = (f_places + p2) → (wX1_summarise x_10 x_7 x_11 f_gains f_lows f_highs p1 (fun u_13 : (Nat → Int32) × (Nat → Int32) × (Nat → Int32) => (post (x_10, x_7, x_11, u_13.1, u_13.2.1, u_13.2.2)))))))))))))))))))))))))))
abbrev rX1_insert : Room := { frames := 3, cells := 0, slots := 0, locals := 69 }
theorem vX1_insert : yX1_insert.cls = RX1 ∧ yX1_insert.cls ≠ "java/lang/invoke/MethodHandle" ∧ yX1_insert.cls ≠ "java/lang/invoke/VarHandle" ∧ (parseMethodDescriptor yX1_insert.desc).map (fun d => d.parameters.length) = some 4 := by decide +kernel
set_option maxHeartbeats 4000000 in
set_option maxRecDepth 100000 in
theorem kX1_insert (l : Launch) (D : va_G) (cA : Nat → ClassId) (a0 a_gains a_lows a_highs : Nat) (f_low : Int64) (f_high : Int64) (f_places : Int32) (f_gains : Nat → Int32) (f_lows : Nat → Int32) (f_highs : Nat → Int32) (sz : Nat) (p1 : Int32) (p2 : Int32) (p3 : Int64) (p4 : Int64) (post : ((Int64) × (Int64) × (Int32) × (Nat → Int32) × (Nat → Int32) × (Nat → Int32)) → Prop) (h : wX1_insert f_low f_high f_places f_gains f_lows f_highs p1 p2 p3 p4 post) : Met l yX1_insert wsX1_insert rX1_insert (zPw D cA [.ref a0, .int p1, .int p2, .long p3, .long p4] [(a0, .inr (0, [.long f_low, .long f_high, .int f_places, .ref a_gains, .ref a_lows, .ref a_highs])), (a_gains, .inl (cA 0, 8, .inl f_gains)), (a_lows, .inl (cA 0, 8, .inl f_lows)), (a_highs, .inl (cA 0, 8, .inl f_highs))] sz) (va_Qv post (zB D (va_A [(a0, .inr (0, [.long f_low, .long f_high, .int f_places, .ref a_gains, .ref a_lows, .ref a_highs])), (a_gains, .inl (cA 0, 8, .inl f_gains)), (a_lows, .inl (cA 0, 8, .inl f_lows)), (a_highs, .inl (cA 0, 8, .inl f_highs))] sz) (fun u : (Int64) × (Int64) × (Int32) × (Nat → Int32) × (Nat → Int32) × (Nat → Int32) => [(a0, .inr (0, [.long u.1, .long u.2.1, .int u.2.2.1, .ref a_gains, .ref a_lows, .ref a_highs])), (a_gains, .inl (cA 0, 8, .inl u.2.2.2.1)), (a_lows, .inl (cA 0, 8, .inl u.2.2.2.2.1)), (a_highs, .inl (cA 0, 8, .inl u.2.2.2.2.2))])) (va_A [(a0, .inr (0, [.long f_low, .long f_high, .int f_places, .ref a_gains, .ref a_lows, .ref a_highs])), (a_gains, .inl (cA 0, 8, .inl f_gains)), (a_lows, .inl (cA 0, 8, .inl f_lows)), (a_highs, .inl (cA 0, 8, .inl f_highs))] sz)) 0 0 (va_A [(a0, .inr (0, [.long f_low, .long f_high, .int f_places, .ref a_gains, .ref a_lows, .ref a_highs])), (a_gains, .inl (cA 0, 8, .inl f_gains)), (a_lows, .inl (cA 0, 8, .inl f_lows)), (a_highs, .inl (cA 0, 8, .inl f_highs))] sz) := by
  refine z_rw (Qc := fun A => va_Qv post (zB D A (fun u : (Int64) × (Int64) × (Int32) × (Nat → Int32) × (Nat → Int32) × (Nat → Int32) => [(a0, .inr (0, [.long u.1, .long u.2.1, .int u.2.2.1, .ref a_gains, .ref a_lows, .ref a_highs])), (a_gains, .inl (cA 0, 8, .inl u.2.2.2.1)), (a_lows, .inl (cA 0, 8, .inl u.2.2.2.2.1)), (a_highs, .inl (cA 0, 8, .inl u.2.2.2.2.2))])) A) (cc := cX1_insert) (maxL := 15) (ret := none) (by decide) rfl (Nat.le_of_ble_eq_true rfl) ?_
  intro p e s m args below meth c ls A hx hb hr hlk hml hown hts hK hP hD hS hA hl
  have hown : s.vm.findClass RX1 = some m.cls := hown
  have hl : lv_has ls 15 [(0, .ref a0), (1, .int p1), (2, .int p2), (3, .long p3), (5, .long p4)] := hl
  have hw := h
  unfold wX1_insert at hw
  have iwX1 : ∀ w ∈ wsX10, w ∈ wsX1_insert := fun w h9 => List.mem_cons_of_mem _ (List.mem_append_right _ h9)
  have kf25 := hts (.fieldLink RX1 25 "ExcessTree$Row" "low" "J") (by decide +kernel)
  have kl50 := hts (.constantLong RX1 50 (-1)) (by decide +kernel)
  have kf29 := hts (.fieldLink RX1 29 "ExcessTree$Row" "high" "J") (by decide +kernel)
  have kf21 := hts (.fieldLink RX1 21 "ExcessTree$Row" "places" "I") (by decide +kernel)
  refine lv_iload_n hx hb dX1_insert_0 rfl (lv_at hl 1 rfl) ?_
  refine z_sl [.int p1] [] ⟨hx, hb, hml, hown, hts⟩ (kX0_firstOf l D cA p1 _ hw) (va_cwS 1 hts gX1_insert_X0_firstOf rfl rfl rfl vX0_firstOf ⟨Nat.le_of_ble_eq_true rfl, Nat.le_of_ble_eq_true rfl⟩) hK z_p0 rfl hl.1 rfl (Nat.le_of_ble_eq_true rfl) dX1_insert_1 ⟨Nat.zero_le _, Nat.zero_le _⟩ (fun r_1 hw => ?_)
  refine lv_lstore (lv' := [(7, .long r_1), (0, .ref a0), (1, .int p1), (2, .int p2), (3, .long p3), (5, .long p4)]) hx hb dX1_insert_4 hl (by decide) rfl (fun ls hl => ?_)
  refine lv_iload_n hx hb dX1_insert_6 rfl (lv_at hl 2 rfl) ?_
  refine lv_bipush (v := 64) hx hb dX1_insert_7 (by decide) ?_
  refine lv_isub hx hb dX1_insert_9 ?_
  refine z_sl [.int (p1 - (64 : Int32))] [] ⟨hx, hb, hml, hown, hts⟩ (kX0_firstOf l D cA (p1 - (64 : Int32)) _ hw) (va_cwS 1 hts gX1_insert_X0_firstOf rfl rfl rfl vX0_firstOf ⟨Nat.le_of_ble_eq_true rfl, Nat.le_of_ble_eq_true rfl⟩) hK z_p0 rfl hl.1 rfl (Nat.le_of_ble_eq_true rfl) dX1_insert_10 ⟨Nat.zero_le _, Nat.zero_le _⟩ (fun r_2 hw => ?_)
  refine lv_lstore (lv' := [(9, .long r_2), (7, .long r_1), (0, .ref a0), (1, .int p1), (2, .int p2), (3, .long p3), (5, .long p4)]) hx hb dX1_insert_13 hl (by decide) rfl (fun ls hl => ?_)
  refine lv_aload_n hx hb dX1_insert_15 rfl (lv_at hl 2 rfl) ?_
  refine va_get (D := D) (ci := 0) (v := .long f_low) (C := RX1) (T := TX1) (N := 6) hx hb hts iwX1 hown hK.1 hP 0 rfl rfl 0 (by decide) kf25 (fun _ h9 => h9) rfl dX1_insert_16 ?_
  refine lv_lload hx hb dX1_insert_19 (lv_at hl 1 rfl) ?_
  refine lv_ldc2 (v := -1) hx hb hown kl50 dX1_insert_21 ?_
  refine lv_lxor hx hb dX1_insert_24 ?_
  refine lv_land hx hb dX1_insert_25 ?_
  refine lv_topl (fun x_3 ex_3 => ?_)
  have hw := hw x_3 ex_3
  refine lv_lstore (lv' := [(11, .long x_3), (9, .long r_2), (7, .long r_1), (0, .ref a0), (1, .int p1), (2, .int p2), (3, .long p3), (5, .long p4)]) hx hb dX1_insert_26 hl (by decide) rfl (fun ls hl => ?_)
  refine lv_aload_n hx hb dX1_insert_28 rfl (lv_at hl 3 rfl) ?_
  refine va_get (D := D) (ci := 0) (v := .long f_high) (C := RX1) (T := TX1) (N := 6) hx hb hts iwX1 hown hK.1 hP 0 rfl rfl 1 (by decide) kf29 (fun _ h9 => h9) rfl dX1_insert_29 ?_
  refine lv_lload hx hb dX1_insert_32 (lv_at hl 1 rfl) ?_
  refine lv_ldc2 (v := -1) hx hb hown kl50 dX1_insert_34 ?_
  refine lv_lxor hx hb dX1_insert_37 ?_
  refine lv_land hx hb dX1_insert_38 ?_
  refine lv_topl (fun x_4 ex_4 => ?_)
  have hw := hw x_4 ex_4
  refine lv_lstore (lv' := [(13, .long x_4), (11, .long x_3), (9, .long r_2), (7, .long r_1), (0, .ref a0), (1, .int p1), (2, .int p2), (3, .long p3), (5, .long p4)]) hx hb dX1_insert_39 hl (by decide) rfl (fun ls hl => ?_)
  refine lv_aload_n hx hb dX1_insert_41 rfl (lv_at hl 4 rfl) ?_
  refine lv_aload_n hx hb dX1_insert_42 rfl (lv_at hl 4 rfl) ?_
  refine va_get (D := D) (ci := 0) (v := .long f_high) (C := RX1) (T := TX1) (N := 6) hx hb hts iwX1 hown hK.1 hP 0 rfl rfl 1 (by decide) kf29 (fun _ h9 => h9) rfl dX1_insert_43 ?_
  refine lv_lload hx hb dX1_insert_46 (lv_at hl 2 rfl) ?_
  refine lv_land hx hb dX1_insert_48 ?_
  refine lv_lload hx hb dX1_insert_49 (lv_at hl 1 rfl) ?_
  refine lv_lload hx hb dX1_insert_51 (lv_at hl 0 rfl) ?_
  refine lv_iload_n hx hb dX1_insert_53 rfl (lv_at hl 6 rfl) ?_
  refine z_sl [.long x_3, .long x_4, .int p2] [.long (f_high &&& r_2), .ref a0] ⟨hx, hb, hml, hown, hts⟩ (kX0_upHigh l D cA x_3 x_4 p2 _ hw) (va_cwS 3 hts gX1_insert_X0_upHigh rfl rfl rfl vX0_upHigh ⟨Nat.le_of_ble_eq_true rfl, Nat.le_of_ble_eq_true rfl⟩) hK z_p0 rfl hl.1 rfl (Nat.le_of_ble_eq_true rfl) dX1_insert_54 ⟨Nat.zero_le _, Nat.zero_le _⟩ (fun r_5 hw => ?_)
  refine lv_lor hx hb dX1_insert_57 ?_
  refine lv_lload_n hx hb dX1_insert_58 rfl (lv_at hl 7 rfl) ?_
  refine lv_lload hx hb dX1_insert_59 (lv_at hl 8 rfl) ?_
  refine lv_iload_n hx hb dX1_insert_61 rfl (lv_at hl 5 rfl) ?_
  refine z_sl [.long p3, .long p4, .int p1] [.long ((f_high &&& r_2) ||| r_5), .ref a0] ⟨hx, hb, hml, hown, hts⟩ (kX0_upHigh l D cA p3 p4 p1 _ hw) (va_cwS 3 hts gX1_insert_X0_upHigh rfl rfl rfl vX0_upHigh ⟨Nat.le_of_ble_eq_true rfl, Nat.le_of_ble_eq_true rfl⟩) hK z_p0 rfl hl.1 rfl (Nat.le_of_ble_eq_true rfl) dX1_insert_62 ⟨Nat.zero_le _, Nat.zero_le _⟩ (fun r_6 hw => ?_)
  refine lv_lor hx hb dX1_insert_65 ?_
  refine lv_topl (fun x_7 ex_7 => ?_)
  have hw := hw x_7 ex_7
  refine va_put (D := D) (ci := 0) (v := .long x_7) (ty := .long) (C := RX1) (T := TX1) (N := 6) hx hb hts iwX1 tyX1 tyX1_ok nmX1 hown hK.1 hP hD hS 0 rfl rfl 1 (by decide) kf29 (fun _ h9 => h9) rfl (by decide +kernel) rfl rfl (Nat.le_of_ble_eq_true rfl) dX1_insert_66 (fun H locs hP hD hS => ?_)
  have hP : va_P D vwCl [(a0, .inr (0, [.long f_low, .long x_7, .int f_places, .ref a_gains, .ref a_lows, .ref a_highs])), (a_gains, .inl (cA 0, 8, .inl f_gains)), (a_lows, .inl (cA 0, 8, .inl f_lows)), (a_highs, .inl (cA 0, 8, .inl f_highs))] H := hP
  have hD : va_D A [(a0, .inr (0, [.long f_low, .long x_7, .int f_places, .ref a_gains, .ref a_lows, .ref a_highs])), (a_gains, .inl (cA 0, 8, .inl f_gains)), (a_lows, .inl (cA 0, 8, .inl f_lows)), (a_highs, .inl (cA 0, 8, .inl f_highs))] := hD
  refine lv_aload_n hx hb dX1_insert_69 rfl (lv_at hl 4 rfl) ?_
  refine lv_aload_n hx hb dX1_insert_70 rfl (lv_at hl 4 rfl) ?_
  refine va_get (D := D) (ci := 0) (v := .long f_low) (C := RX1) (T := TX1) (N := 6) hx hb hts iwX1 hown hK.1 hP 0 rfl rfl 0 (by decide) kf25 (fun _ h9 => h9) rfl dX1_insert_71 ?_
  refine lv_lload hx hb dX1_insert_74 (lv_at hl 3 rfl) ?_
  refine lv_land hx hb dX1_insert_76 ?_
  refine lv_lload hx hb dX1_insert_77 (lv_at hl 1 rfl) ?_
  refine lv_iload_n hx hb dX1_insert_79 rfl (lv_at hl 6 rfl) ?_
  refine z_sl [.long x_3, .int p2] [.long (f_low &&& r_1), .ref a0] ⟨hx, hb, hml, hown, hts⟩ (kX0_upLow l D cA x_3 p2 _ hw) (va_cwS 2 hts gX1_insert_X0_upLow rfl rfl rfl vX0_upLow ⟨Nat.le_of_ble_eq_true rfl, Nat.le_of_ble_eq_true rfl⟩) hK z_p0 rfl hl.1 rfl (Nat.le_of_ble_eq_true rfl) dX1_insert_80 ⟨Nat.zero_le _, Nat.zero_le _⟩ (fun r_8 hw => ?_)
  refine lv_lor hx hb dX1_insert_83 ?_
  refine lv_lload_n hx hb dX1_insert_84 rfl (lv_at hl 7 rfl) ?_
  refine lv_iload_n hx hb dX1_insert_85 rfl (lv_at hl 5 rfl) ?_
  refine z_sl [.long p3, .int p1] [.long ((f_low &&& r_1) ||| r_8), .ref a0] ⟨hx, hb, hml, hown, hts⟩ (kX0_upLow l D cA p3 p1 _ hw) (va_cwS 2 hts gX1_insert_X0_upLow rfl rfl rfl vX0_upLow ⟨Nat.le_of_ble_eq_true rfl, Nat.le_of_ble_eq_true rfl⟩) hK z_p0 rfl hl.1 rfl (Nat.le_of_ble_eq_true rfl) dX1_insert_86 ⟨Nat.zero_le _, Nat.zero_le _⟩ (fun r_9 hw => ?_)
  refine lv_lor hx hb dX1_insert_89 ?_
  refine lv_topl (fun x_10 ex_10 => ?_)
  have hw := hw x_10 ex_10
  refine va_put (D := D) (ci := 0) (v := .long x_10) (ty := .long) (C := RX1) (T := TX1) (N := 6) hx hb hts iwX1 tyX1 tyX1_ok nmX1 hown hK.1 hP hD hS 0 rfl rfl 0 (by decide) kf25 (fun _ h9 => h9) rfl (by decide +kernel) rfl rfl (Nat.le_of_ble_eq_true rfl) dX1_insert_90 (fun H locs hP hD hS => ?_)
  have hP : va_P D vwCl [(a0, .inr (0, [.long x_10, .long x_7, .int f_places, .ref a_gains, .ref a_lows, .ref a_highs])), (a_gains, .inl (cA 0, 8, .inl f_gains)), (a_lows, .inl (cA 0, 8, .inl f_lows)), (a_highs, .inl (cA 0, 8, .inl f_highs))] H := hP
  have hD : va_D A [(a0, .inr (0, [.long x_10, .long x_7, .int f_places, .ref a_gains, .ref a_lows, .ref a_highs])), (a_gains, .inl (cA 0, 8, .inl f_gains)), (a_lows, .inl (cA 0, 8, .inl f_lows)), (a_highs, .inl (cA 0, 8, .inl f_highs))] := hD
  refine lv_aload_n hx hb dX1_insert_93 rfl (lv_at hl 4 rfl) ?_
  refine lv_dup hx hb dX1_insert_94 rfl ?_
  refine va_get (D := D) (ci := 0) (v := .int f_places) (C := RX1) (T := TX1) (N := 6) hx hb hts iwX1 hown hK.1 hP 0 rfl rfl 2 (by decide) kf21 (fun _ h9 => h9) rfl dX1_insert_95 ?_
  refine lv_iload_n hx hb dX1_insert_98 rfl (lv_at hl 6 rfl) ?_
  refine lv_iadd hx hb dX1_insert_99 ?_
  refine lv_topi (fun x_11 ex_11 => ?_)
  have hw := hw x_11 ex_11
  refine va_put (D := D) (ci := 0) (v := .int x_11) (ty := .int) (C := RX1) (T := TX1) (N := 6) hx hb hts iwX1 tyX1 tyX1_ok nmX1 hown hK.1 hP hD hS 0 rfl rfl 2 (by decide) kf21 (fun _ h9 => h9) rfl (by decide +kernel) rfl rfl (Nat.le_of_ble_eq_true rfl) dX1_insert_100 (fun H locs hP hD hS => ?_)
  have hP : va_P D vwCl [(a0, .inr (0, [.long x_10, .long x_7, .int x_11, .ref a_gains, .ref a_lows, .ref a_highs])), (a_gains, .inl (cA 0, 8, .inl f_gains)), (a_lows, .inl (cA 0, 8, .inl f_lows)), (a_highs, .inl (cA 0, 8, .inl f_highs))] H := hP
  have hD : va_D A [(a0, .inr (0, [.long x_10, .long x_7, .int x_11, .ref a_gains, .ref a_lows, .ref a_highs])), (a_gains, .inl (cA 0, 8, .inl f_gains)), (a_lows, .inl (cA 0, 8, .inl f_lows)), (a_highs, .inl (cA 0, 8, .inl f_highs))] := hD
  refine lv_aload_n hx hb dX1_insert_103 rfl (lv_at hl 4 rfl) ?_
  refine lv_iload_n hx hb dX1_insert_104 rfl (lv_at hl 5 rfl) ?_
  refine z_wv (wr := []) (wn := (fun u : (Nat → Int32) × (Nat → Int32) × (Nat → Int32) => [(a0, .inr (0, [.long x_10, .long x_7, .int x_11, .ref a_gains, .ref a_lows, .ref a_highs])), (a_gains, .inl (cA 0, 8, .inl u.1)), (a_lows, .inl (cA 0, 8, .inl u.2.1)), (a_highs, .inl (cA 0, 8, .inl u.2.2))])) [.int p1] [] ⟨hx, hb, hml, hown, hts⟩ (kX1_summarise l D cA a0 a_gains a_lows a_highs x_10 x_7 x_11 f_gains f_lows f_highs _ p1 _ hw) (cwV 1 hts gX1_insert_X1_summarise rfl rfl rfl vX1_summarise ⟨Nat.le_of_ble_eq_true rfl, Nat.le_of_ble_eq_true rfl⟩) hK hP hD hS hA [0, 1, 2, 3] [] [0, 1, 2, 3] rfl (by decide) rfl (by decide) (by decide) (fun u => rfl) (by decide) (va_recv hK.1 (hP.sub (ws' := [(a0, .inr (0, [.long x_10, .long x_7, .int x_11, .ref a_gains, .ref a_lows, .ref a_highs]))]) [0] rfl) (ci := 0) (q0 := 0) rfl rfl) rfl hl.1 rfl (Nat.le_of_ble_eq_true rfl) dX1_insert_105 ⟨Nat.zero_le _, Nat.zero_le _⟩ (fun u_13 H locs hw hP hD hS => ?_)
  have hP : va_P D vwCl [(a0, .inr (0, [.long x_10, .long x_7, .int x_11, .ref a_gains, .ref a_lows, .ref a_highs])), (a_gains, .inl (cA 0, 8, .inl u_13.1)), (a_lows, .inl (cA 0, 8, .inl u_13.2.1)), (a_highs, .inl (cA 0, 8, .inl u_13.2.2))] H := hP
  have hD : va_D A [(a0, .inr (0, [.long x_10, .long x_7, .int x_11, .ref a_gains, .ref a_lows, .ref a_highs])), (a_gains, .inl (cA 0, 8, .inl u_13.1)), (a_lows, .inl (cA 0, 8, .inl u_13.2.1)), (a_highs, .inl (cA 0, 8, .inl u_13.2.2))] := hD
  exact z_vretw (x_10, x_7, x_11, u_13.1, u_13.2.1, u_13.2.2) hx hb hr hlk hw hP hD hS dX1_insert_108
def wX1_become (f_low : Int64) (f_high : Int64) (f_places : Int32) (f_gains : Nat → Int32) (f_lows : Nat → Int32) (f_highs : Nat → Int32) (g_low : Int64) (g_high : Int64) (g_places : Int32) (g_gains : Nat → Int32) (g_lows : Nat → Int32) (g_highs : Nat → Int32)  (post : ((Int64) × (Int64) × (Int32) × (Nat → Int32) × (Nat → Int32) × (Nat → Int32)) → Prop) : Prop := ((¬ (0 : Int32) < 0 ∧ ¬ (0 : Int32) < 0 ∧ ¬ (8 : Int32) < 0 ∧ (0 : Int32).toNatClampNeg + (8 : Int32).toNatClampNeg ≤ 8 ∧ (0 : Int32).toNatClampNeg + (8 : Int32).toNatClampNeg ≤ 8) ∧ ((¬ (0 : Int32) < 0 ∧ ¬ (0 : Int32) < 0 ∧ ¬ (8 : Int32) < 0 ∧ (0 : Int32).toNatClampNeg + (8 : Int32).toNatClampNeg ≤ 8 ∧ (0 : Int32).toNatClampNeg + (8 : Int32).toNatClampNeg ≤ 8) ∧ ((¬ (0 : Int32) < 0 ∧ ¬ (0 : Int32) < 0 ∧ ¬ (8 : Int32) < 0 ∧ (0 : Int32).toNatClampNeg + (8 : Int32).toNatClampNeg ≤ 8 ∧ (0 : Int32).toNatClampNeg + (8 : Int32).toNatClampNeg ≤ 8) ∧ post (g_low, g_high, g_places, (va_cpy g_gains f_gains (0 : Int32).toNatClampNeg (0 : Int32).toNatClampNeg (8 : Int32).toNatClampNeg), (va_cpy g_lows f_lows (0 : Int32).toNatClampNeg (0 : Int32).toNatClampNeg (8 : Int32).toNatClampNeg), (va_cpy g_highs f_highs (0 : Int32).toNatClampNeg (0 : Int32).toNatClampNeg (8 : Int32).toNatClampNeg)))))
abbrev rX1_become : Room := { frames := 1, cells := 0, slots := 0, locals := 26 }
theorem vX1_become : yX1_become.cls = RX1 ∧ yX1_become.cls ≠ "java/lang/invoke/MethodHandle" ∧ yX1_become.cls ≠ "java/lang/invoke/VarHandle" ∧ (parseMethodDescriptor yX1_become.desc).map (fun d => d.parameters.length) = some 1 := by decide +kernel
set_option maxHeartbeats 4000000 in
set_option maxRecDepth 100000 in
theorem kX1_become (l : Launch) (D : va_G) (cA : Nat → ClassId) (a0 a_gains a_lows a_highs b0 b_gains b_lows b_highs : Nat) (f_low : Int64) (f_high : Int64) (f_places : Int32) (f_gains : Nat → Int32) (f_lows : Nat → Int32) (f_highs : Nat → Int32) (g_low : Int64) (g_high : Int64) (g_places : Int32) (g_gains : Nat → Int32) (g_lows : Nat → Int32) (g_highs : Nat → Int32) (sz : Nat)  (post : ((Int64) × (Int64) × (Int32) × (Nat → Int32) × (Nat → Int32) × (Nat → Int32)) → Prop) (h : wX1_become f_low f_high f_places f_gains f_lows f_highs g_low g_high g_places g_gains g_lows g_highs post) : Met l yX1_become wsX1_become rX1_become (zPw D cA [.ref a0, .ref b0] [(a0, .inr (0, [.long f_low, .long f_high, .int f_places, .ref a_gains, .ref a_lows, .ref a_highs])), (a_gains, .inl (cA 0, 8, .inl f_gains)), (a_lows, .inl (cA 0, 8, .inl f_lows)), (a_highs, .inl (cA 0, 8, .inl f_highs)), (b0, .inr (0, [.long g_low, .long g_high, .int g_places, .ref b_gains, .ref b_lows, .ref b_highs])), (b_gains, .inl (cA 0, 8, .inl g_gains)), (b_lows, .inl (cA 0, 8, .inl g_lows)), (b_highs, .inl (cA 0, 8, .inl g_highs))] sz) (va_Qv post (zB D (va_A [(a0, .inr (0, [.long f_low, .long f_high, .int f_places, .ref a_gains, .ref a_lows, .ref a_highs])), (a_gains, .inl (cA 0, 8, .inl f_gains)), (a_lows, .inl (cA 0, 8, .inl f_lows)), (a_highs, .inl (cA 0, 8, .inl f_highs)), (b0, .inr (0, [.long g_low, .long g_high, .int g_places, .ref b_gains, .ref b_lows, .ref b_highs])), (b_gains, .inl (cA 0, 8, .inl g_gains)), (b_lows, .inl (cA 0, 8, .inl g_lows)), (b_highs, .inl (cA 0, 8, .inl g_highs))] sz) (fun u : (Int64) × (Int64) × (Int32) × (Nat → Int32) × (Nat → Int32) × (Nat → Int32) => [(a0, .inr (0, [.long u.1, .long u.2.1, .int u.2.2.1, .ref a_gains, .ref a_lows, .ref a_highs])), (a_gains, .inl (cA 0, 8, .inl u.2.2.2.1)), (a_lows, .inl (cA 0, 8, .inl u.2.2.2.2.1)), (a_highs, .inl (cA 0, 8, .inl u.2.2.2.2.2)), (b0, .inr (0, [.long g_low, .long g_high, .int g_places, .ref b_gains, .ref b_lows, .ref b_highs])), (b_gains, .inl (cA 0, 8, .inl g_gains)), (b_lows, .inl (cA 0, 8, .inl g_lows)), (b_highs, .inl (cA 0, 8, .inl g_highs))])) (va_A [(a0, .inr (0, [.long f_low, .long f_high, .int f_places, .ref a_gains, .ref a_lows, .ref a_highs])), (a_gains, .inl (cA 0, 8, .inl f_gains)), (a_lows, .inl (cA 0, 8, .inl f_lows)), (a_highs, .inl (cA 0, 8, .inl f_highs)), (b0, .inr (0, [.long g_low, .long g_high, .int g_places, .ref b_gains, .ref b_lows, .ref b_highs])), (b_gains, .inl (cA 0, 8, .inl g_gains)), (b_lows, .inl (cA 0, 8, .inl g_lows)), (b_highs, .inl (cA 0, 8, .inl g_highs))] sz)) 0 0 (va_A [(a0, .inr (0, [.long f_low, .long f_high, .int f_places, .ref a_gains, .ref a_lows, .ref a_highs])), (a_gains, .inl (cA 0, 8, .inl f_gains)), (a_lows, .inl (cA 0, 8, .inl f_lows)), (a_highs, .inl (cA 0, 8, .inl f_highs)), (b0, .inr (0, [.long g_low, .long g_high, .int g_places, .ref b_gains, .ref b_lows, .ref b_highs])), (b_gains, .inl (cA 0, 8, .inl g_gains)), (b_lows, .inl (cA 0, 8, .inl g_lows)), (b_highs, .inl (cA 0, 8, .inl g_highs))] sz) := by
  refine z_rw (Qc := fun A => va_Qv post (zB D A (fun u : (Int64) × (Int64) × (Int32) × (Nat → Int32) × (Nat → Int32) × (Nat → Int32) => [(a0, .inr (0, [.long u.1, .long u.2.1, .int u.2.2.1, .ref a_gains, .ref a_lows, .ref a_highs])), (a_gains, .inl (cA 0, 8, .inl u.2.2.2.1)), (a_lows, .inl (cA 0, 8, .inl u.2.2.2.2.1)), (a_highs, .inl (cA 0, 8, .inl u.2.2.2.2.2)), (b0, .inr (0, [.long g_low, .long g_high, .int g_places, .ref b_gains, .ref b_lows, .ref b_highs])), (b_gains, .inl (cA 0, 8, .inl g_gains)), (b_lows, .inl (cA 0, 8, .inl g_lows)), (b_highs, .inl (cA 0, 8, .inl g_highs))])) A) (cc := cX1_become) (maxL := 2) (ret := none) (by decide) rfl (Nat.le_of_ble_eq_true rfl) ?_
  intro p e s m args below meth c ls A hx hb hr hlk hml hown hts hK hP hD hS hA hl
  have hown : s.vm.findClass RX1 = some m.cls := hown
  have hl : lv_has ls 2 [(0, .ref a0), (1, .ref b0)] := hl
  have hw := h
  unfold wX1_become at hw
  have iwX1 : ∀ w ∈ wsX10, w ∈ wsX1_become := fun w h9 => List.mem_cons_of_mem _ (List.mem_append_right _ h9)
  have kf25 := hts (.fieldLink RX1 25 "ExcessTree$Row" "low" "J") (by decide +kernel)
  have kf29 := hts (.fieldLink RX1 29 "ExcessTree$Row" "high" "J") (by decide +kernel)
  have kf21 := hts (.fieldLink RX1 21 "ExcessTree$Row" "places" "I") (by decide +kernel)
  have kf9 := hts (.fieldLink RX1 9 "ExcessTree$Row" "gains" "[I") (by decide +kernel)
  have ac1 := hts (.methodLink RX1 105 arraycopyName) (by decide +kernel)
  have ac2 := hts (.native arraycopyName) (by decide +kernel)
  have ac3 := hts (.static arraycopyName) (by decide +kernel)
  have ac4 := hts (.initialized "java/lang/System") (by decide +kernel)
  have kf15 := hts (.fieldLink RX1 15 "ExcessTree$Row" "lows" "[I") (by decide +kernel)
  have kf18 := hts (.fieldLink RX1 18 "ExcessTree$Row" "highs" "[I") (by decide +kernel)
  refine lv_aload_n hx hb dX1_become_0 rfl (lv_at hl 0 rfl) ?_
  refine lv_aload_n hx hb dX1_become_1 rfl (lv_at hl 1 rfl) ?_
  refine va_get (D := D) (ci := 0) (v := .long g_low) (C := RX1) (T := TX1) (N := 6) hx hb hts iwX1 hown hK.1 hP 4 rfl rfl 0 (by decide) kf25 (fun _ h9 => h9) rfl dX1_become_2 ?_
  refine va_put (D := D) (ci := 0) (v := .long g_low) (ty := .long) (C := RX1) (T := TX1) (N := 6) hx hb hts iwX1 tyX1 tyX1_ok nmX1 hown hK.1 hP hD hS 0 rfl rfl 0 (by decide) kf25 (fun _ h9 => h9) rfl (by decide +kernel) rfl rfl (Nat.le_of_ble_eq_true rfl) dX1_become_5 (fun H locs hP hD hS => ?_)
  have hP : va_P D vwCl [(a0, .inr (0, [.long g_low, .long f_high, .int f_places, .ref a_gains, .ref a_lows, .ref a_highs])), (a_gains, .inl (cA 0, 8, .inl f_gains)), (a_lows, .inl (cA 0, 8, .inl f_lows)), (a_highs, .inl (cA 0, 8, .inl f_highs)), (b0, .inr (0, [.long g_low, .long g_high, .int g_places, .ref b_gains, .ref b_lows, .ref b_highs])), (b_gains, .inl (cA 0, 8, .inl g_gains)), (b_lows, .inl (cA 0, 8, .inl g_lows)), (b_highs, .inl (cA 0, 8, .inl g_highs))] H := hP
  have hD : va_D A [(a0, .inr (0, [.long g_low, .long f_high, .int f_places, .ref a_gains, .ref a_lows, .ref a_highs])), (a_gains, .inl (cA 0, 8, .inl f_gains)), (a_lows, .inl (cA 0, 8, .inl f_lows)), (a_highs, .inl (cA 0, 8, .inl f_highs)), (b0, .inr (0, [.long g_low, .long g_high, .int g_places, .ref b_gains, .ref b_lows, .ref b_highs])), (b_gains, .inl (cA 0, 8, .inl g_gains)), (b_lows, .inl (cA 0, 8, .inl g_lows)), (b_highs, .inl (cA 0, 8, .inl g_highs))] := hD
  refine lv_aload_n hx hb dX1_become_8 rfl (lv_at hl 0 rfl) ?_
  refine lv_aload_n hx hb dX1_become_9 rfl (lv_at hl 1 rfl) ?_
  refine va_get (D := D) (ci := 0) (v := .long g_high) (C := RX1) (T := TX1) (N := 6) hx hb hts iwX1 hown hK.1 hP 4 rfl rfl 1 (by decide) kf29 (fun _ h9 => h9) rfl dX1_become_10 ?_
  refine va_put (D := D) (ci := 0) (v := .long g_high) (ty := .long) (C := RX1) (T := TX1) (N := 6) hx hb hts iwX1 tyX1 tyX1_ok nmX1 hown hK.1 hP hD hS 0 rfl rfl 1 (by decide) kf29 (fun _ h9 => h9) rfl (by decide +kernel) rfl rfl (Nat.le_of_ble_eq_true rfl) dX1_become_13 (fun H locs hP hD hS => ?_)
  have hP : va_P D vwCl [(a0, .inr (0, [.long g_low, .long g_high, .int f_places, .ref a_gains, .ref a_lows, .ref a_highs])), (a_gains, .inl (cA 0, 8, .inl f_gains)), (a_lows, .inl (cA 0, 8, .inl f_lows)), (a_highs, .inl (cA 0, 8, .inl f_highs)), (b0, .inr (0, [.long g_low, .long g_high, .int g_places, .ref b_gains, .ref b_lows, .ref b_highs])), (b_gains, .inl (cA 0, 8, .inl g_gains)), (b_lows, .inl (cA 0, 8, .inl g_lows)), (b_highs, .inl (cA 0, 8, .inl g_highs))] H := hP
  have hD : va_D A [(a0, .inr (0, [.long g_low, .long g_high, .int f_places, .ref a_gains, .ref a_lows, .ref a_highs])), (a_gains, .inl (cA 0, 8, .inl f_gains)), (a_lows, .inl (cA 0, 8, .inl f_lows)), (a_highs, .inl (cA 0, 8, .inl f_highs)), (b0, .inr (0, [.long g_low, .long g_high, .int g_places, .ref b_gains, .ref b_lows, .ref b_highs])), (b_gains, .inl (cA 0, 8, .inl g_gains)), (b_lows, .inl (cA 0, 8, .inl g_lows)), (b_highs, .inl (cA 0, 8, .inl g_highs))] := hD
  refine lv_aload_n hx hb dX1_become_16 rfl (lv_at hl 0 rfl) ?_
  refine lv_aload_n hx hb dX1_become_17 rfl (lv_at hl 1 rfl) ?_
  refine va_get (D := D) (ci := 0) (v := .int g_places) (C := RX1) (T := TX1) (N := 6) hx hb hts iwX1 hown hK.1 hP 4 rfl rfl 2 (by decide) kf21 (fun _ h9 => h9) rfl dX1_become_18 ?_
  refine va_put (D := D) (ci := 0) (v := .int g_places) (ty := .int) (C := RX1) (T := TX1) (N := 6) hx hb hts iwX1 tyX1 tyX1_ok nmX1 hown hK.1 hP hD hS 0 rfl rfl 2 (by decide) kf21 (fun _ h9 => h9) rfl (by decide +kernel) rfl rfl (Nat.le_of_ble_eq_true rfl) dX1_become_21 (fun H locs hP hD hS => ?_)
  have hP : va_P D vwCl [(a0, .inr (0, [.long g_low, .long g_high, .int g_places, .ref a_gains, .ref a_lows, .ref a_highs])), (a_gains, .inl (cA 0, 8, .inl f_gains)), (a_lows, .inl (cA 0, 8, .inl f_lows)), (a_highs, .inl (cA 0, 8, .inl f_highs)), (b0, .inr (0, [.long g_low, .long g_high, .int g_places, .ref b_gains, .ref b_lows, .ref b_highs])), (b_gains, .inl (cA 0, 8, .inl g_gains)), (b_lows, .inl (cA 0, 8, .inl g_lows)), (b_highs, .inl (cA 0, 8, .inl g_highs))] H := hP
  have hD : va_D A [(a0, .inr (0, [.long g_low, .long g_high, .int g_places, .ref a_gains, .ref a_lows, .ref a_highs])), (a_gains, .inl (cA 0, 8, .inl f_gains)), (a_lows, .inl (cA 0, 8, .inl f_lows)), (a_highs, .inl (cA 0, 8, .inl f_highs)), (b0, .inr (0, [.long g_low, .long g_high, .int g_places, .ref b_gains, .ref b_lows, .ref b_highs])), (b_gains, .inl (cA 0, 8, .inl g_gains)), (b_lows, .inl (cA 0, 8, .inl g_lows)), (b_highs, .inl (cA 0, 8, .inl g_highs))] := hD
  refine lv_aload_n hx hb dX1_become_24 rfl (lv_at hl 1 rfl) ?_
  refine va_get (D := D) (ci := 0) (v := .ref b_gains) (C := RX1) (T := TX1) (N := 6) hx hb hts iwX1 hown hK.1 hP 4 rfl rfl 3 (by decide) kf9 (fun _ h9 => h9) rfl dX1_become_25 ?_
  refine lv_iconst (v := 0) hx hb dX1_become_28 (by decide) ?_
  refine lv_aload_n hx hb dX1_become_29 rfl (lv_at hl 0 rfl) ?_
  refine va_get (D := D) (ci := 0) (v := .ref a_gains) (C := RX1) (T := TX1) (N := 6) hx hb hts iwX1 hown hK.1 hP 0 rfl rfl 3 (by decide) kf9 (fun _ h9 => h9) rfl dX1_become_30 ?_
  refine lv_iconst (v := 0) hx hb dX1_become_33 (by decide) ?_
  refine lv_bipush (v := 8) hx hb dX1_become_34 (by decide) ?_
  have hq := hw.1
  have hw := hw.2
  refine va_copyi (ty := .int) hx hb (hml.trans hl.1.symm) hown ac1 ac2 ac3 ac4 hK.1 hP hD hS 5 1 0 0 rfl rfl rfl rfl rfl hq.1 hq.2.1 hq.2.2.1 hq.2.2.2.1 hq.2.2.2.2 (fun _ _ => rfl) (Nat.le_of_ble_eq_true rfl) (Nat.le_of_ble_eq_true rfl) dX1_become_36 (fun H locs hP hD hS => ?_)
  have hP : va_P D vwCl [(a0, .inr (0, [.long g_low, .long g_high, .int g_places, .ref a_gains, .ref a_lows, .ref a_highs])), (a_gains, .inl (cA 0, 8, .inl (va_cpy g_gains f_gains (0 : Int32).toNatClampNeg (0 : Int32).toNatClampNeg (8 : Int32).toNatClampNeg))), (a_lows, .inl (cA 0, 8, .inl f_lows)), (a_highs, .inl (cA 0, 8, .inl f_highs)), (b0, .inr (0, [.long g_low, .long g_high, .int g_places, .ref b_gains, .ref b_lows, .ref b_highs])), (b_gains, .inl (cA 0, 8, .inl g_gains)), (b_lows, .inl (cA 0, 8, .inl g_lows)), (b_highs, .inl (cA 0, 8, .inl g_highs))] H := hP
  have hD : va_D A [(a0, .inr (0, [.long g_low, .long g_high, .int g_places, .ref a_gains, .ref a_lows, .ref a_highs])), (a_gains, .inl (cA 0, 8, .inl (va_cpy g_gains f_gains (0 : Int32).toNatClampNeg (0 : Int32).toNatClampNeg (8 : Int32).toNatClampNeg))), (a_lows, .inl (cA 0, 8, .inl f_lows)), (a_highs, .inl (cA 0, 8, .inl f_highs)), (b0, .inr (0, [.long g_low, .long g_high, .int g_places, .ref b_gains, .ref b_lows, .ref b_highs])), (b_gains, .inl (cA 0, 8, .inl g_gains)), (b_lows, .inl (cA 0, 8, .inl g_lows)), (b_highs, .inl (cA 0, 8, .inl g_highs))] := hD
  refine lv_aload_n hx hb dX1_become_39 rfl (lv_at hl 1 rfl) ?_
  refine va_get (D := D) (ci := 0) (v := .ref b_lows) (C := RX1) (T := TX1) (N := 6) hx hb hts iwX1 hown hK.1 hP 4 rfl rfl 4 (by decide) kf15 (fun _ h9 => h9) rfl dX1_become_40 ?_
  refine lv_iconst (v := 0) hx hb dX1_become_43 (by decide) ?_
  refine lv_aload_n hx hb dX1_become_44 rfl (lv_at hl 0 rfl) ?_
  refine va_get (D := D) (ci := 0) (v := .ref a_lows) (C := RX1) (T := TX1) (N := 6) hx hb hts iwX1 hown hK.1 hP 0 rfl rfl 4 (by decide) kf15 (fun _ h9 => h9) rfl dX1_become_45 ?_
  refine lv_iconst (v := 0) hx hb dX1_become_48 (by decide) ?_
  refine lv_bipush (v := 8) hx hb dX1_become_49 (by decide) ?_
  have hq := hw.1
  have hw := hw.2
  refine va_copyi (ty := .int) hx hb (hml.trans hl.1.symm) hown ac1 ac2 ac3 ac4 hK.1 hP hD hS 6 2 0 0 rfl rfl rfl rfl rfl hq.1 hq.2.1 hq.2.2.1 hq.2.2.2.1 hq.2.2.2.2 (fun _ _ => rfl) (Nat.le_of_ble_eq_true rfl) (Nat.le_of_ble_eq_true rfl) dX1_become_51 (fun H locs hP hD hS => ?_)
  have hP : va_P D vwCl [(a0, .inr (0, [.long g_low, .long g_high, .int g_places, .ref a_gains, .ref a_lows, .ref a_highs])), (a_gains, .inl (cA 0, 8, .inl (va_cpy g_gains f_gains (0 : Int32).toNatClampNeg (0 : Int32).toNatClampNeg (8 : Int32).toNatClampNeg))), (a_lows, .inl (cA 0, 8, .inl (va_cpy g_lows f_lows (0 : Int32).toNatClampNeg (0 : Int32).toNatClampNeg (8 : Int32).toNatClampNeg))), (a_highs, .inl (cA 0, 8, .inl f_highs)), (b0, .inr (0, [.long g_low, .long g_high, .int g_places, .ref b_gains, .ref b_lows, .ref b_highs])), (b_gains, .inl (cA 0, 8, .inl g_gains)), (b_lows, .inl (cA 0, 8, .inl g_lows)), (b_highs, .inl (cA 0, 8, .inl g_highs))] H := hP
  have hD : va_D A [(a0, .inr (0, [.long g_low, .long g_high, .int g_places, .ref a_gains, .ref a_lows, .ref a_highs])), (a_gains, .inl (cA 0, 8, .inl (va_cpy g_gains f_gains (0 : Int32).toNatClampNeg (0 : Int32).toNatClampNeg (8 : Int32).toNatClampNeg))), (a_lows, .inl (cA 0, 8, .inl (va_cpy g_lows f_lows (0 : Int32).toNatClampNeg (0 : Int32).toNatClampNeg (8 : Int32).toNatClampNeg))), (a_highs, .inl (cA 0, 8, .inl f_highs)), (b0, .inr (0, [.long g_low, .long g_high, .int g_places, .ref b_gains, .ref b_lows, .ref b_highs])), (b_gains, .inl (cA 0, 8, .inl g_gains)), (b_lows, .inl (cA 0, 8, .inl g_lows)), (b_highs, .inl (cA 0, 8, .inl g_highs))] := hD
  refine lv_aload_n hx hb dX1_become_54 rfl (lv_at hl 1 rfl) ?_
  refine va_get (D := D) (ci := 0) (v := .ref b_highs) (C := RX1) (T := TX1) (N := 6) hx hb hts iwX1 hown hK.1 hP 4 rfl rfl 5 (by decide) kf18 (fun _ h9 => h9) rfl dX1_become_55 ?_
  refine lv_iconst (v := 0) hx hb dX1_become_58 (by decide) ?_
  refine lv_aload_n hx hb dX1_become_59 rfl (lv_at hl 0 rfl) ?_
  refine va_get (D := D) (ci := 0) (v := .ref a_highs) (C := RX1) (T := TX1) (N := 6) hx hb hts iwX1 hown hK.1 hP 0 rfl rfl 5 (by decide) kf18 (fun _ h9 => h9) rfl dX1_become_60 ?_
  refine lv_iconst (v := 0) hx hb dX1_become_63 (by decide) ?_
  refine lv_bipush (v := 8) hx hb dX1_become_64 (by decide) ?_
  have hq := hw.1
  have hw := hw.2
  refine va_copyi (ty := .int) hx hb (hml.trans hl.1.symm) hown ac1 ac2 ac3 ac4 hK.1 hP hD hS 7 3 0 0 rfl rfl rfl rfl rfl hq.1 hq.2.1 hq.2.2.1 hq.2.2.2.1 hq.2.2.2.2 (fun _ _ => rfl) (Nat.le_of_ble_eq_true rfl) (Nat.le_of_ble_eq_true rfl) dX1_become_66 (fun H locs hP hD hS => ?_)
  have hP : va_P D vwCl [(a0, .inr (0, [.long g_low, .long g_high, .int g_places, .ref a_gains, .ref a_lows, .ref a_highs])), (a_gains, .inl (cA 0, 8, .inl (va_cpy g_gains f_gains (0 : Int32).toNatClampNeg (0 : Int32).toNatClampNeg (8 : Int32).toNatClampNeg))), (a_lows, .inl (cA 0, 8, .inl (va_cpy g_lows f_lows (0 : Int32).toNatClampNeg (0 : Int32).toNatClampNeg (8 : Int32).toNatClampNeg))), (a_highs, .inl (cA 0, 8, .inl (va_cpy g_highs f_highs (0 : Int32).toNatClampNeg (0 : Int32).toNatClampNeg (8 : Int32).toNatClampNeg))), (b0, .inr (0, [.long g_low, .long g_high, .int g_places, .ref b_gains, .ref b_lows, .ref b_highs])), (b_gains, .inl (cA 0, 8, .inl g_gains)), (b_lows, .inl (cA 0, 8, .inl g_lows)), (b_highs, .inl (cA 0, 8, .inl g_highs))] H := hP
  have hD : va_D A [(a0, .inr (0, [.long g_low, .long g_high, .int g_places, .ref a_gains, .ref a_lows, .ref a_highs])), (a_gains, .inl (cA 0, 8, .inl (va_cpy g_gains f_gains (0 : Int32).toNatClampNeg (0 : Int32).toNatClampNeg (8 : Int32).toNatClampNeg))), (a_lows, .inl (cA 0, 8, .inl (va_cpy g_lows f_lows (0 : Int32).toNatClampNeg (0 : Int32).toNatClampNeg (8 : Int32).toNatClampNeg))), (a_highs, .inl (cA 0, 8, .inl (va_cpy g_highs f_highs (0 : Int32).toNatClampNeg (0 : Int32).toNatClampNeg (8 : Int32).toNatClampNeg))), (b0, .inr (0, [.long g_low, .long g_high, .int g_places, .ref b_gains, .ref b_lows, .ref b_highs])), (b_gains, .inl (cA 0, 8, .inl g_gains)), (b_lows, .inl (cA 0, 8, .inl g_lows)), (b_highs, .inl (cA 0, 8, .inl g_highs))] := hD
  exact z_vretw (g_low, g_high, g_places, (va_cpy g_gains f_gains (0 : Int32).toNatClampNeg (0 : Int32).toNatClampNeg (8 : Int32).toNatClampNeg), (va_cpy g_lows f_lows (0 : Int32).toNatClampNeg (0 : Int32).toNatClampNeg (8 : Int32).toNatClampNeg), (va_cpy g_highs f_highs (0 : Int32).toNatClampNeg (0 : Int32).toNatClampNeg (8 : Int32).toNatClampNeg)) hx hb hr hlk hw hP hD hS dX1_become_69
