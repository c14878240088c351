/-! written by wip/whole/gen.py -/
def wX5_isLane  (p1 : Int32) (post : Int32 → Prop) : Prop := (wX5_within p1 (0 : Int32) (2 : Int32) (fun r_1 : Int32 => ((narrow .boolean (.int r_1) = .int r_1 ∧ post r_1))))
abbrev rX5_isLane : Room := { frames := 1, cells := 0, slots := 0, locals := 22 }
theorem vX5_isLane : yX5_isLane.cls ≠ "java/lang/invoke/MethodHandle" ∧ yX5_isLane.cls ≠ "java/lang/invoke/VarHandle" ∧ (parseMethodDescriptor yX5_isLane.desc).map (fun d => d.parameters.length) = some 1 := by decide +kernel
set_option maxHeartbeats 4000000 in
set_option maxRecDepth 100000 in
theorem kX5_isLane (l : Launch) (D : va_G) (cA : Nat → ClassId)  (p1 : Int32) (post : Int32 → Prop) (h : wX5_isLane p1 post) : Met l yX5_isLane wsX5_isLane rX5_isLane (zPr D cA [.int p1] []) (vp_Si post) 0 0 (fun _ => False) := by
  refine z_ro (cc := cX5_isLane) (maxL := 1) (ret := (some .boolean)) (by decide) rfl (Nat.le_of_ble_eq_true rfl) ?_
  intro p e s m args below meth c ls hx hb hr hlk hml hown hts hK hP hl
  have hown : s.vm.findClass RX5 = some m.cls := hown
  have hl : lv_has ls 1 [(0, .int p1)] := hl
  have hw := h
  unfold wX5_isLane at hw
  refine lv_iload_n hx hb dX5_isLane_0 rfl (lv_at hl 0 rfl) ?_
  refine lv_iconst (v := 0) hx hb dX5_isLane_1 (by decide) ?_
  refine lv_iconst (v := 2) hx hb dX5_isLane_2 (by decide) ?_
  refine z_si [.int p1, .int (0 : Int32), .int (2 : Int32)] [] ⟨hx, hb, hml, hown, hts⟩ (kX5_within l D cA p1 (0 : Int32) (2 : Int32) _ hw) (va_cwS 3 hts gX5_isLane_X5_within rfl rfl rfl vX5_within ⟨Nat.le_of_ble_eq_true rfl, Nat.le_of_ble_eq_true rfl⟩) hK z_p0 rfl hl.1 rfl (Nat.le_of_ble_eq_true rfl) dX5_isLane_3 ⟨Nat.zero_le _, Nat.zero_le _⟩ (fun r_1 hw => ?_)
  exact z_zret hx hb hr hlk hw.1 hw.2 dX5_isLane_6
def wX5_sheet (f_sheets_at_kind : Int32) (f_sheets_at_length : Int32) (f_sheets_at_cells : Nat → Int64) (p1 : Int32) (p2 : Int32) (p3 : Int32) (post : Int32 → ((Int32) × (Int32) × (Nat → Int64)) → Prop) : Prop := (wX5_isSheet p1 (fun r_1 : Int32 => (((r_1 = 0 → post (-1 : Int32) (f_sheets_at_kind, f_sheets_at_length, f_sheets_at_cells)) ∧ (¬ r_1 = 0 → (wX5_isLane p2 (fun r_3 : Int32 => (((r_3 = 0 → post (-1 : Int32) (f_sheets_at_kind, f_sheets_at_length, f_sheets_at_cells)) ∧ (¬ r_3 = 0 → ((p3 ≤ (40 : Int32) → ((0 ≤ p3 → (vp_in p1 4 ∧ (wX2_renew f_sheets_at_kind f_sheets_at_length f_sheets_at_cells p2 p3 (fun u_8 : (Int32) × (Int32) × (Nat → Int64) => (post (1 : Int32) (u_8.1, u_8.2.1, u_8.2.2)))))) ∧ (¬ 0 ≤ p3 → post (-14 : Int32) (f_sheets_at_kind, f_sheets_at_length, f_sheets_at_cells)))) ∧ (¬ p3 ≤ (40 : Int32) → post (-1 : Int32) (f_sheets_at_kind, f_sheets_at_length, f_sheets_at_cells)))))))))))))
abbrev rX5_sheet : Room := { frames := 2, cells := 0, slots := 0, locals := 42 }
theorem vX5_sheet : yX5_sheet.cls = RX5 ∧ yX5_sheet.cls ≠ "java/lang/invoke/MethodHandle" ∧ yX5_sheet.cls ≠ "java/lang/invoke/VarHandle" ∧ (parseMethodDescriptor yX5_sheet.desc).map (fun d => d.parameters.length) = some 3 := by decide +kernel
set_option maxHeartbeats 4000000 in
set_option maxRecDepth 100000 in
theorem kX5_sheet (l : Launch) (D : va_G) (cA : Nat → ClassId) (a0 a_tree a_draft a_images a_kept a_tape a_sheets a_sheets_at a_sheets_at_cells : Nat) (f_latestTorn : Int32) (f_sheets : Nat → Option Nat) (f_sheets_at_kind : Int32) (f_sheets_at_length : Int32) (f_sheets_at_cells : Nat → Int64) (sz : Nat) (p1 : Int32) (p2 : Int32) (p3 : Int32) (hsel_sheets : vp_in p1 4 → f_sheets p1.toNatClampNeg = some a_sheets_at) (post : Int32 → ((Int32) × (Int32) × (Nat → Int64)) → Prop) (h : wX5_sheet f_sheets_at_kind f_sheets_at_length f_sheets_at_cells p1 p2 p3 post) : Met l yX5_sheet wsX5_sheet rX5_sheet (zPw D cA [.ref a0, .int p1, .int p2, .int p3] [(a0, .inr (4, [.ref a_tree, .ref a_draft, .ref a_images, .ref a_kept, .ref a_tape, .ref a_sheets, .int f_latestTorn])), (a_sheets, .inl (cA 5, 4, .inr (.inr (.inr (.inr f_sheets))))), (a_sheets_at, .inr (1, [.ref a_sheets_at_cells, .int f_sheets_at_kind, .int f_sheets_at_length])), (a_sheets_at_cells, .inl (cA 1, 40, .inr (.inl f_sheets_at_cells)))] sz) (va_Qi post (zB D (va_A [(a0, .inr (4, [.ref a_tree, .ref a_draft, .ref a_images, .ref a_kept, .ref a_tape, .ref a_sheets, .int f_latestTorn])), (a_sheets, .inl (cA 5, 4, .inr (.inr (.inr (.inr f_sheets))))), (a_sheets_at, .inr (1, [.ref a_sheets_at_cells, .int f_sheets_at_kind, .int f_sheets_at_length])), (a_sheets_at_cells, .inl (cA 1, 40, .inr (.inl f_sheets_at_cells)))] sz) (fun u : (Int32) × (Int32) × (Nat → Int64) => [(a0, .inr (4, [.ref a_tree, .ref a_draft, .ref a_images, .ref a_kept, .ref a_tape, .ref a_sheets, .int f_latestTorn])), (a_sheets, .inl (cA 5, 4, .inr (.inr (.inr (.inr f_sheets))))), (a_sheets_at, .inr (1, [.ref a_sheets_at_cells, .int u.1, .int u.2.1])), (a_sheets_at_cells, .inl (cA 1, 40, .inr (.inl u.2.2)))])) (va_A [(a0, .inr (4, [.ref a_tree, .ref a_draft, .ref a_images, .ref a_kept, .ref a_tape, .ref a_sheets, .int f_latestTorn])), (a_sheets, .inl (cA 5, 4, .inr (.inr (.inr (.inr f_sheets))))), (a_sheets_at, .inr (1, [.ref a_sheets_at_cells, .int f_sheets_at_kind, .int f_sheets_at_length])), (a_sheets_at_cells, .inl (cA 1, 40, .inr (.inl f_sheets_at_cells)))] sz)) 0 0 (va_A [(a0, .inr (4, [.ref a_tree, .ref a_draft, .ref a_images, .ref a_kept, .ref a_tape, .ref a_sheets, .int f_latestTorn])), (a_sheets, .inl (cA 5, 4, .inr (.inr (.inr (.inr f_sheets))))), (a_sheets_at, .inr (1, [.ref a_sheets_at_cells, .int f_sheets_at_kind, .int f_sheets_at_length])), (a_sheets_at_cells, .inl (cA 1, 40, .inr (.inl f_sheets_at_cells)))] sz) := by
  refine z_rw (Qc := fun A => va_Qi post (zB D A (fun u : (Int32) × (Int32) × (Nat → Int64) => [(a0, .inr (4, [.ref a_tree, .ref a_draft, .ref a_images, .ref a_kept, .ref a_tape, .ref a_sheets, .int f_latestTorn])), (a_sheets, .inl (cA 5, 4, .inr (.inr (.inr (.inr f_sheets))))), (a_sheets_at, .inr (1, [.ref a_sheets_at_cells, .int u.1, .int u.2.1])), (a_sheets_at_cells, .inl (cA 1, 40, .inr (.inl u.2.2)))])) A) (cc := cX5_sheet) (maxL := 4) (ret := (some .int)) (by decide) rfl (Nat.le_of_ble_eq_true rfl) ?_
  intro p e s m args below meth c ls A hx hb hr hlk hml hown hts hK hP hD hS hA hl
  have hown : s.vm.findClass RX5 = some m.cls := hown
  have hl : lv_has ls 4 [(0, .ref a0), (1, .int p1), (2, .int p2), (3, .int p3)] := hl
  have hw := h
  unfold wX5_sheet at hw
  have iwX5 : ∀ w ∈ wsX50, w ∈ wsX5_sheet := fun w h9 => List.mem_cons_of_mem _ (List.mem_append_left _ (List.mem_append_right _ h9))
  have kf36 := hts (.fieldLink RX5 36 "ExcessTree" "sheets" "[LExcessTree$Sheet;") (by decide +kernel)
  refine lv_iload_n hx hb dX5_sheet_0 rfl (lv_at hl 1 rfl) ?_
  refine z_si [.int p1] [] ⟨hx, hb, hml, hown, hts⟩ (kX5_isSheet l D cA p1 _ hw) (va_cwS 1 hts gX5_sheet_X5_isSheet rfl rfl rfl vX5_isSheet ⟨Nat.le_of_ble_eq_true rfl, Nat.le_of_ble_eq_true rfl⟩) hK z_p0 rfl hl.1 rfl (Nat.le_of_ble_eq_true rfl) dX5_sheet_1 ⟨Nat.zero_le _, Nat.zero_le _⟩ (fun r_1 hw => ?_)
  refine lv_if_eq (tgt := 20) hx hb dX5_sheet_4 (by decide) (fun c_2 => ?_) (fun c_2 => ?_)
  · have hw := hw.1 c_2
    refine lv_iconst (v := -1) hx hb dX5_sheet_20 (by decide) ?_
    exact z_iretw (f_sheets_at_kind, f_sheets_at_length, f_sheets_at_cells) hx hb hr hlk hw hP hD hS dX5_sheet_21
  · have hw := hw.2 c_2
    refine lv_iload_n hx hb dX5_sheet_7 rfl (lv_at hl 2 rfl) ?_
    refine z_si [.int p2] [] ⟨hx, hb, hml, hown, hts⟩ (kX5_isLane l D cA p2 _ hw) (va_cwS 1 hts gX5_sheet_X5_isLane rfl rfl rfl vX5_isLane ⟨Nat.le_of_ble_eq_true rfl, Nat.le_of_ble_eq_true rfl⟩) hK z_p0 rfl hl.1 rfl (Nat.le_of_ble_eq_true rfl) dX5_sheet_8 ⟨Nat.zero_le _, Nat.zero_le _⟩ (fun r_3 hw => ?_)
    refine lv_if_eq (tgt := 20) hx hb dX5_sheet_11 (by decide) (fun c_4 => ?_) (fun c_4 => ?_)
    · have hw := hw.1 c_4
      refine lv_iconst (v := -1) hx hb dX5_sheet_20 (by decide) ?_
      exact z_iretw (f_sheets_at_kind, f_sheets_at_length, f_sheets_at_cells) hx hb hr hlk hw hP hD hS dX5_sheet_21
    · have hw := hw.2 c_4
      refine lv_iload_n hx hb dX5_sheet_14 rfl (lv_at hl 3 rfl) ?_
      refine lv_bipush (v := 40) hx hb dX5_sheet_15 (by decide) ?_
      refine lv_icmp_le (tgt := 22) hx hb dX5_sheet_17 (by decide) (fun c_5 => ?_) (fun c_5 => ?_)
      · have hw := hw.1 c_5
        refine lv_iload_n hx hb dX5_sheet_22 rfl (lv_at hl 3 rfl) ?_
        refine lv_if_ge (tgt := 29) hx hb dX5_sheet_23 (by decide) (fun c_6 => ?_) (fun c_6 => ?_)
        · have hw := hw.1 c_6
          refine lv_aload_n hx hb dX5_sheet_29 rfl (lv_at hl 0 rfl) ?_
          refine va_get (D := D) (ci := 4) (v := .ref a_sheets) (C := RX5) (T := TX5) (N := 7) hx hb hts iwX5 hown hK.1 hP 0 rfl rfl 5 (by decide) kf36 (fun _ h9 => h9) rfl dX5_sheet_30 ?_
          refine lv_iload_n hx hb dX5_sheet_33 rfl (lv_at hl 1 rfl) ?_
          have hq := hw.1
          have hw := hw.2
          refine z_aldq hx hb hK hP 1 5 rfl rfl hq hsel_sheets dX5_sheet_34 ?_
          refine lv_iload_n hx hb dX5_sheet_35 rfl (lv_at hl 2 rfl) ?_
          refine lv_iload_n hx hb dX5_sheet_36 rfl (lv_at hl 3 rfl) ?_
          refine z_wv (wr := [(a0, .inr (4, [.ref a_tree, .ref a_draft, .ref a_images, .ref a_kept, .ref a_tape, .ref a_sheets, .int f_latestTorn])), (a_sheets, .inl (cA 5, 4, .inr (.inr (.inr (.inr f_sheets)))))]) (wn := (fun u : (Int32) × (Int32) × (Nat → Int64) => [(a0, .inr (4, [.ref a_tree, .ref a_draft, .ref a_images, .ref a_kept, .ref a_tape, .ref a_sheets, .int f_latestTorn])), (a_sheets, .inl (cA 5, 4, .inr (.inr (.inr (.inr f_sheets))))), (a_sheets_at, .inr (1, [.ref a_sheets_at_cells, .int u.1, .int u.2.1])), (a_sheets_at_cells, .inl (cA 1, 40, .inr (.inl u.2.2)))])) [.int p2, .int p3] [] ⟨hx, hb, hml, hown, hts⟩ (kX2_renew l D cA a_sheets_at a_sheets_at_cells f_sheets_at_kind f_sheets_at_length f_sheets_at_cells _ p2 p3 _ hw) (cwV 2 hts gX5_sheet_X2_renew rfl rfl rfl vX2_renew ⟨Nat.le_of_ble_eq_true rfl, Nat.le_of_ble_eq_true rfl⟩) hK hP hD hS hA [2, 3] [0, 1] [0, 1, 2, 3] rfl (by decide) rfl (by decide) (by decide) (fun u => rfl) (by decide) (va_recv hK.1 (hP.sub (ws' := [(a_sheets_at, .inr (1, [.ref a_sheets_at_cells, .int f_sheets_at_kind, .int f_sheets_at_length]))]) [2] rfl) (ci := 1) (q0 := 0) rfl rfl) rfl hl.1 rfl (Nat.le_of_ble_eq_true rfl) dX5_sheet_37 ⟨Nat.zero_le _, Nat.zero_le _⟩ (fun u_8 H locs hw hP hD hS => ?_)
          have hP : va_P D vwCl [(a0, .inr (4, [.ref a_tree, .ref a_draft, .ref a_images, .ref a_kept, .ref a_tape, .ref a_sheets, .int f_latestTorn])), (a_sheets, .inl (cA 5, 4, .inr (.inr (.inr (.inr f_sheets))))), (a_sheets_at, .inr (1, [.ref a_sheets_at_cells, .int u_8.1, .int u_8.2.1])), (a_sheets_at_cells, .inl (cA 1, 40, .inr (.inl u_8.2.2)))] H := hP
          have hD : va_D A [(a0, .inr (4, [.ref a_tree, .ref a_draft, .ref a_images, .ref a_kept, .ref a_tape, .ref a_sheets, .int f_latestTorn])), (a_sheets, .inl (cA 5, 4, .inr (.inr (.inr (.inr f_sheets))))), (a_sheets_at, .inr (1, [.ref a_sheets_at_cells, .int u_8.1, .int u_8.2.1])), (a_sheets_at_cells, .inl (cA 1, 40, .inr (.inl u_8.2.2)))] := hD
          refine lv_iconst (v := 1) hx hb dX5_sheet_40 (by decide) ?_
          exact z_iretw (u_8.1, u_8.2.1, u_8.2.2) hx hb hr hlk hw hP hD hS dX5_sheet_41
        · have hw := hw.2 c_6
          refine lv_bipush (v := -14) hx hb dX5_sheet_26 (by decide) ?_
          exact z_iretw (f_sheets_at_kind, f_sheets_at_length, f_sheets_at_cells) hx hb hr hlk hw hP hD hS dX5_sheet_28
      · have hw := hw.2 c_5
        refine lv_iconst (v := -1) hx hb dX5_sheet_20 (by decide) ?_
        exact z_iretw (f_sheets_at_kind, f_sheets_at_length, f_sheets_at_cells) hx hb hr hlk hw hP hD hS dX5_sheet_21
def wX5_lay (f_sheets_at_kind : Int32) (f_sheets_at_length : Int32) (f_sheets_at_cells : Nat → Int64) (p1 : Int32) (p2 : Int32) (p3 : Int64) (post : Int32 → (Nat → Int64) → Prop) : Prop := (wX5_isSheet p1 (fun r_1 : Int32 => (((¬ r_1 = 0 → (vp_in p1 4 ∧ (wX2_isNothing f_sheets_at_kind (fun r_3 : Int32 => (((r_3 = 0 → (vp_in p1 4 ∧ (wX2_hasCell f_sheets_at_length p2 (fun r_5 : Int32 => (((¬ r_5 = 0 → (vp_in p1 4 ∧ (wX2_put f_sheets_at_kind f_sheets_at_cells p2 p3 (fun u_8 : (Nat → Int64) => (post (1 : Int32) u_8))))) ∧ (r_5 = 0 → post (-12 : Int32) f_sheets_at_cells))))))) ∧ (¬ r_3 = 0 → post (-11 : Int32) f_sheets_at_cells))))))) ∧ (r_1 = 0 → post (-1 : Int32) f_sheets_at_cells)))))
abbrev rX5_lay : Room := { frames := 2, cells := 0, slots := 0, locals := 42 }
theorem vX5_lay : yX5_lay.cls = RX5 ∧ yX5_lay.cls ≠ "java/lang/invoke/MethodHandle" ∧ yX5_lay.cls ≠ "java/lang/invoke/VarHandle" ∧ (parseMethodDescriptor yX5_lay.desc).map (fun d => d.parameters.length) = some 3 := by decide +kernel
set_option maxHeartbeats 4000000 in
set_option maxRecDepth 100000 in
theorem kX5_lay (l : Launch) (D : va_G) (cA : Nat → ClassId) (a0 a_tree a_draft a_images a_kept a_tape a_sheets a_sheets_at a_sheets_at_cells : Nat) (f_latestTorn : Int32) (f_sheets : Nat → Option Nat) (f_sheets_at_kind : Int32) (f_sheets_at_length : Int32) (f_sheets_at_cells : Nat → Int64) (sz : Nat) (p1 : Int32) (p2 : Int32) (p3 : Int64) (hsel_sheets : vp_in p1 4 → f_sheets p1.toNatClampNeg = some a_sheets_at) (post : Int32 → (Nat → Int64) → Prop) (h : wX5_lay f_sheets_at_kind f_sheets_at_length f_sheets_at_cells p1 p2 p3 post) : Met l yX5_lay wsX5_lay rX5_lay (zPw D cA [.ref a0, .int p1, .int p2, .long p3] [(a0, .inr (4, [.ref a_tree, .ref a_draft, .ref a_images, .ref a_kept, .ref a_tape, .ref a_sheets, .int f_latestTorn])), (a_sheets, .inl (cA 5, 4, .inr (.inr (.inr (.inr f_sheets))))), (a_sheets_at, .inr (1, [.ref a_sheets_at_cells, .int f_sheets_at_kind, .int f_sheets_at_length])), (a_sheets_at_cells, .inl (cA 1, 40, .inr (.inl f_sheets_at_cells)))] sz) (va_Qi post (zB D (va_A [(a0, .inr (4, [.ref a_tree, .ref a_draft, .ref a_images, .ref a_kept, .ref a_tape, .ref a_sheets, .int f_latestTorn])), (a_sheets, .inl (cA 5, 4, .inr (.inr (.inr (.inr f_sheets))))), (a_sheets_at, .inr (1, [.ref a_sheets_at_cells, .int f_sheets_at_kind, .int f_sheets_at_length])), (a_sheets_at_cells, .inl (cA 1, 40, .inr (.inl f_sheets_at_cells)))] sz) (fun u : (Nat → Int64) => [(a0, .inr (4, [.ref a_tree, .ref a_draft, .ref a_images, .ref a_kept, .ref a_tape, .ref a_sheets, .int f_latestTorn])), (a_sheets, .inl (cA 5, 4, .inr (.inr (.inr (.inr f_sheets))))), (a_sheets_at, .inr (1, [.ref a_sheets_at_cells, .int f_sheets_at_kind, .int f_sheets_at_length])), (a_sheets_at_cells, .inl (cA 1, 40, .inr (.inl u)))])) (va_A [(a0, .inr (4, [.ref a_tree, .ref a_draft, .ref a_images, .ref a_kept, .ref a_tape, .ref a_sheets, .int f_latestTorn])), (a_sheets, .inl (cA 5, 4, .inr (.inr (.inr (.inr f_sheets))))), (a_sheets_at, .inr (1, [.ref a_sheets_at_cells, .int f_sheets_at_kind, .int f_sheets_at_length])), (a_sheets_at_cells, .inl (cA 1, 40, .inr (.inl f_sheets_at_cells)))] sz)) 0 0 (va_A [(a0, .inr (4, [.ref a_tree, .ref a_draft, .ref a_images, .ref a_kept, .ref a_tape, .ref a_sheets, .int f_latestTorn])), (a_sheets, .inl (cA 5, 4, .inr (.inr (.inr (.inr f_sheets))))), (a_sheets_at, .inr (1, [.ref a_sheets_at_cells, .int f_sheets_at_kind, .int f_sheets_at_length])), (a_sheets_at_cells, .inl (cA 1, 40, .inr (.inl f_sheets_at_cells)))] sz) := by
  refine z_rw (Qc := fun A => va_Qi post (zB D A (fun u : (Nat → Int64) => [(a0, .inr (4, [.ref a_tree, .ref a_draft, .ref a_images, .ref a_kept, .ref a_tape, .ref a_sheets, .int f_latestTorn])), (a_sheets, .inl (cA 5, 4, .inr (.inr (.inr (.inr f_sheets))))), (a_sheets_at, .inr (1, [.ref a_sheets_at_cells, .int f_sheets_at_kind, .int f_sheets_at_length])), (a_sheets_at_cells, .inl (cA 1, 40, .inr (.inl u)))])) A) (cc := cX5_lay) (maxL := 5) (ret := (some .int)) (by decide) rfl (Nat.le_of_ble_eq_true rfl) ?_
  intro p e s m args below meth c ls A hx hb hr hlk hml hown hts hK hP hD hS hA hl
  have hown : s.vm.findClass RX5 = some m.cls := hown
  have hl : lv_has ls 5 [(0, .ref a0), (1, .int p1), (2, .int p2), (3, .long p3)] := hl
  have hw := h
  unfold wX5_lay at hw
  have iwX5 : ∀ w ∈ wsX50, w ∈ wsX5_lay := fun w h9 => List.mem_cons_of_mem _ (List.mem_append_left _ (List.mem_append_right _ h9))
  have kf36 := hts (.fieldLink RX5 36 "ExcessTree" "sheets" "[LExcessTree$Sheet;") (by decide +kernel)
  refine lv_iload_n hx hb dX5_lay_0 rfl (lv_at hl 1 rfl) ?_
  refine z_si [.int p1] [] ⟨hx, hb, hml, hown, hts⟩ (kX5_isSheet l D cA p1 _ hw) (va_cwS 1 hts gX5_lay_X5_isSheet rfl rfl rfl vX5_isSheet ⟨Nat.le_of_ble_eq_true rfl, Nat.le_of_ble_eq_true rfl⟩) hK z_p0 rfl hl.1 rfl (Nat.le_of_ble_eq_true rfl) dX5_lay_1 ⟨Nat.zero_le _, Nat.zero_le _⟩ (fun r_1 hw => ?_)
  refine lv_if_ne (tgt := 9) hx hb dX5_lay_4 (by decide) (fun c_2 => ?_) (fun c_2 => ?_)
  · have hw := hw.1 c_2
    refine lv_aload_n hx hb dX5_lay_9 rfl (lv_at hl 0 rfl) ?_
    refine va_get (D := D) (ci := 4) (v := .ref a_sheets) (C := RX5) (T := TX5) (N := 7) hx hb hts iwX5 hown hK.1 hP 0 rfl rfl 5 (by decide) kf36 (fun _ h9 => h9) rfl dX5_lay_10 ?_
    refine lv_iload_n hx hb dX5_lay_13 rfl (lv_at hl 1 rfl) ?_
    have hq := hw.1
    have hw := hw.2
    refine z_aldq hx hb hK hP 1 5 rfl rfl hq hsel_sheets dX5_lay_14 ?_
    refine z_ri [] [] ⟨hx, hb, hml, hown, hts⟩ (kX2_isNothing l D cA a_sheets_at a_sheets_at_cells f_sheets_at_kind f_sheets_at_length f_sheets_at_cells _ hw) (cwV 0 hts gX5_lay_X2_isNothing rfl rfl rfl vX2_isNothing ⟨Nat.le_of_ble_eq_true rfl, Nat.le_of_ble_eq_true rfl⟩) hK (hP.sub [2, 3] rfl) (va_recv hK.1 (hP.sub (ws' := [(a_sheets_at, .inr (1, [.ref a_sheets_at_cells, .int f_sheets_at_kind, .int f_sheets_at_length]))]) [2] rfl) (ci := 1) (q0 := 0) rfl rfl) rfl hl.1 rfl (Nat.le_of_ble_eq_true rfl) dX5_lay_15 ⟨Nat.zero_le _, Nat.zero_le _⟩ (fun r_3 hw => ?_)
    refine lv_if_eq (tgt := 24) hx hb dX5_lay_18 (by decide) (fun c_4 => ?_) (fun c_4 => ?_)
    · have hw := hw.1 c_4
      refine lv_aload_n hx hb dX5_lay_24 rfl (lv_at hl 0 rfl) ?_
      refine va_get (D := D) (ci := 4) (v := .ref a_sheets) (C := RX5) (T := TX5) (N := 7) hx hb hts iwX5 hown hK.1 hP 0 rfl rfl 5 (by decide) kf36 (fun _ h9 => h9) rfl dX5_lay_25 ?_
      refine lv_iload_n hx hb dX5_lay_28 rfl (lv_at hl 1 rfl) ?_
      have hq := hw.1
      have hw := hw.2
      refine z_aldq hx hb hK hP 1 5 rfl rfl hq hsel_sheets dX5_lay_29 ?_
      refine lv_iload_n hx hb dX5_lay_30 rfl (lv_at hl 2 rfl) ?_
      refine z_ri [.int p2] [] ⟨hx, hb, hml, hown, hts⟩ (kX2_hasCell l D cA a_sheets_at a_sheets_at_cells f_sheets_at_kind f_sheets_at_length f_sheets_at_cells p2 _ hw) (cwV 1 hts gX5_lay_X2_hasCell rfl rfl rfl vX2_hasCell ⟨Nat.le_of_ble_eq_true rfl, Nat.le_of_ble_eq_true rfl⟩) hK (hP.sub [2, 3] rfl) (va_recv hK.1 (hP.sub (ws' := [(a_sheets_at, .inr (1, [.ref a_sheets_at_cells, .int f_sheets_at_kind, .int f_sheets_at_length]))]) [2] rfl) (ci := 1) (q0 := 0) rfl rfl) rfl hl.1 rfl (Nat.le_of_ble_eq_true rfl) dX5_lay_31 ⟨Nat.zero_le _, Nat.zero_le _⟩ (fun r_5 hw => ?_)
      refine lv_if_ne (tgt := 40) hx hb dX5_lay_34 (by decide) (fun c_6 => ?_) (fun c_6 => ?_)
      · have hw := hw.1 c_6
        refine lv_aload_n hx hb dX5_lay_40 rfl (lv_at hl 0 rfl) ?_
        refine va_get (D := D) (ci := 4) (v := .ref a_sheets) (C := RX5) (T := TX5) (N := 7) hx hb hts iwX5 hown hK.1 hP 0 rfl rfl 5 (by decide) kf36 (fun _ h9 => h9) rfl dX5_lay_41 ?_
        refine lv_iload_n hx hb dX5_lay_44 rfl (lv_at hl 1 rfl) ?_
        have hq := hw.1
        have hw := hw.2
        refine z_aldq hx hb hK hP 1 5 rfl rfl hq hsel_sheets dX5_lay_45 ?_
        refine lv_iload_n hx hb dX5_lay_46 rfl (lv_at hl 2 rfl) ?_
        refine lv_lload_n hx hb dX5_lay_47 rfl (lv_at hl 3 rfl) ?_
        refine z_wv (wr := [(a0, .inr (4, [.ref a_tree, .ref a_draft, .ref a_images, .ref a_kept, .ref a_tape, .ref a_sheets, .int f_latestTorn])), (a_sheets, .inl (cA 5, 4, .inr (.inr (.inr (.inr f_sheets)))))]) (wn := (fun u : (Nat → Int64) => [(a0, .inr (4, [.ref a_tree, .ref a_draft, .ref a_images, .ref a_kept, .ref a_tape, .ref a_sheets, .int f_latestTorn])), (a_sheets, .inl (cA 5, 4, .inr (.inr (.inr (.inr f_sheets))))), (a_sheets_at, .inr (1, [.ref a_sheets_at_cells, .int f_sheets_at_kind, .int f_sheets_at_length])), (a_sheets_at_cells, .inl (cA 1, 40, .inr (.inl u)))])) [.int p2, .long p3] [] ⟨hx, hb, hml, hown, hts⟩ (kX2_put l D cA a_sheets_at a_sheets_at_cells f_sheets_at_kind f_sheets_at_length f_sheets_at_cells _ p2 p3 _ hw) (cwV 2 hts gX5_lay_X2_put rfl rfl rfl vX2_put ⟨Nat.le_of_ble_eq_true rfl, Nat.le_of_ble_eq_true rfl⟩) hK hP hD hS hA [2, 3] [0, 1] [0, 1, 2, 3] rfl (by decide) rfl (by decide) (by decide) (fun u => rfl) (by decide) (va_recv hK.1 (hP.sub (ws' := [(a_sheets_at, .inr (1, [.ref a_sheets_at_cells, .int f_sheets_at_kind, .int f_sheets_at_length]))]) [2] rfl) (ci := 1) (q0 := 0) rfl rfl) rfl hl.1 rfl (Nat.le_of_ble_eq_true rfl) dX5_lay_48 ⟨Nat.zero_le _, Nat.zero_le _⟩ (fun u_8 H locs hw hP hD hS => ?_)
        have hP : va_P D vwCl [(a0, .inr (4, [.ref a_tree, .ref a_draft, .ref a_images, .ref a_kept, .ref a_tape, .ref a_sheets, .int f_latestTorn])), (a_sheets, .inl (cA 5, 4, .inr (.inr (.inr (.inr f_sheets))))), (a_sheets_at, .inr (1, [.ref a_sheets_at_cells, .int f_sheets_at_kind, .int f_sheets_at_length])), (a_sheets_at_cells, .inl (cA 1, 40, .inr (.inl u_8)))] H := hP
        have hD : va_D A [(a0, .inr (4, [.ref a_tree, .ref a_draft, .ref a_images, .ref a_kept, .ref a_tape, .ref a_sheets, .int f_latestTorn])), (a_sheets, .inl (cA 5, 4, .inr (.inr (.inr (.inr f_sheets))))), (a_sheets_at, .inr (1, [.ref a_sheets_at_cells, .int f_sheets_at_kind, .int f_sheets_at_length])), (a_sheets_at_cells, .inl (cA 1, 40, .inr (.inl u_8)))] := hD
        refine lv_iconst (v := 1) hx hb dX5_lay_51 (by decide) ?_
        exact z_iretw u_8 hx hb hr hlk hw hP hD hS dX5_lay_52
      · have hw := hw.2 c_6
        refine lv_bipush (v := -12) hx hb dX5_lay_37 (by decide) ?_
        exact z_iretw f_sheets_at_cells hx hb hr hlk hw hP hD hS dX5_lay_39
    · have hw := hw.2 c_4
      refine lv_bipush (v := -11) hx hb dX5_lay_21 (by decide) ?_
      exact z_iretw f_sheets_at_cells hx hb hr hlk hw hP hD hS dX5_lay_23
  · have hw := hw.2 c_2
    refine lv_iconst (v := -1) hx hb dX5_lay_7 (by decide) ?_
    exact z_iretw f_sheets_at_cells hx hb hr hlk hw hP hD hS dX5_lay_8
def wX5_look (f_sheets_at_length : Int32) (f_sheets_at_cells : Nat → Int64) (p1 : Int32) (p2 : Int32) (post : Int64 → Prop) : Prop := (wX5_isSheet p1 (fun r_1 : Int32 => (((r_1 = 0 → post (0 : Int64)) ∧ (¬ r_1 = 0 → (vp_in p1 4 ∧ (wX2_hasCell f_sheets_at_length p2 (fun r_3 : Int32 => (((r_3 = 0 → post (0 : Int64)) ∧ (¬ r_3 = 0 → (vp_in p1 4 ∧ (vp_in p2 40 ∧ post (f_sheets_at_cells p2.toNatClampNeg))))))))))))))
abbrev rX5_look : Room := { frames := 2, cells := 0, slots := 0, locals := 42 }
theorem vX5_look : yX5_look.cls = RX5 ∧ yX5_look.cls ≠ "java/lang/invoke/MethodHandle" ∧ yX5_look.cls ≠ "java/lang/invoke/VarHandle" ∧ (parseMethodDescriptor yX5_look.desc).map (fun d => d.parameters.length) = some 2 := by decide +kernel
set_option maxHeartbeats 4000000 in
set_option maxRecDepth 100000 in
theorem kX5_look (l : Launch) (D : va_G) (cA : Nat → ClassId) (a0 a_tree a_draft a_images a_kept a_tape a_sheets a_sheets_at a_sheets_at_cells : Nat) (f_latestTorn : Int32) (f_sheets : Nat → Option Nat) (f_sheets_at_kind : Int32) (f_sheets_at_length : Int32) (f_sheets_at_cells : Nat → Int64) (p1 : Int32) (p2 : Int32) (hsel_sheets : vp_in p1 4 → f_sheets p1.toNatClampNeg = some a_sheets_at) (post : Int64 → Prop) (h : wX5_look f_sheets_at_length f_sheets_at_cells p1 p2 post) : Met l yX5_look wsX5_look rX5_look (zPr D cA [.ref a0, .int p1, .int p2] [(a0, .inr (4, [.ref a_tree, .ref a_draft, .ref a_images, .ref a_kept, .ref a_tape, .ref a_sheets, .int f_latestTorn])), (a_sheets, .inl (cA 5, 4, .inr (.inr (.inr (.inr f_sheets))))), (a_sheets_at, .inr (1, [.ref a_sheets_at_cells, .int f_sheets_at_kind, .int f_sheets_at_length])), (a_sheets_at_cells, .inl (cA 1, 40, .inr (.inl f_sheets_at_cells)))]) (vp_Sl post) 0 0 (fun _ => False) := by
  refine z_ro (cc := cX5_look) (maxL := 3) (ret := (some .long)) (by decide) rfl (Nat.le_of_ble_eq_true rfl) ?_
  intro p e s m args below meth c ls hx hb hr hlk hml hown hts hK hP hl
  have hown : s.vm.findClass RX5 = some m.cls := hown
  have hl : lv_has ls 3 [(0, .ref a0), (1, .int p1), (2, .int p2)] := hl
  have hw := h
  unfold wX5_look at hw
  have iwX5 : ∀ w ∈ wsX50, w ∈ wsX5_look := fun w h9 => List.mem_cons_of_mem _ (List.mem_append_left _ (List.mem_append_right _ h9))
  have kf36 := hts (.fieldLink RX5 36 "ExcessTree" "sheets" "[LExcessTree$Sheet;") (by decide +kernel)
  have iwX2 : ∀ w ∈ wsX20, w ∈ wsX5_look := fun w h9 => List.mem_cons_of_mem _ (List.mem_append_right _ h9)
  have kn260 := hK.nest (A := args) 10 rfl
  refine lv_iload_n hx hb dX5_look_0 rfl (lv_at hl 1 rfl) ?_
  refine z_si [.int p1] [] ⟨hx, hb, hml, hown, hts⟩ (kX5_isSheet l D cA p1 _ hw) (va_cwS 1 hts gX5_look_X5_isSheet rfl rfl rfl vX5_isSheet ⟨Nat.le_of_ble_eq_true rfl, Nat.le_of_ble_eq_true rfl⟩) hK z_p0 rfl hl.1 rfl (Nat.le_of_ble_eq_true rfl) dX5_look_1 ⟨Nat.zero_le _, Nat.zero_le _⟩ (fun r_1 hw => ?_)
  refine lv_if_eq (tgt := 34) hx hb dX5_look_4 (by decide) (fun c_2 => ?_) (fun c_2 => ?_)
  · have hw := hw.1 c_2
    refine lv_lconst (v := 0) hx hb dX5_look_34 (by decide) ?_
    exact z_lret hx hb hr hlk hw dX5_look_35
  · have hw := hw.2 c_2
    refine lv_aload_n hx hb dX5_look_7 rfl (lv_at hl 0 rfl) ?_
    refine va_get (D := D) (ci := 4) (v := .ref a_sheets) (C := RX5) (T := TX5) (N := 7) hx hb hts iwX5 hown hK.1 hP 0 rfl rfl 5 (by decide) kf36 (fun _ h9 => h9) rfl dX5_look_8 ?_
    refine lv_iload_n hx hb dX5_look_11 rfl (lv_at hl 1 rfl) ?_
    have hq := hw.1
    have hw := hw.2
    refine z_aldq hx hb hK hP 1 5 rfl rfl hq hsel_sheets dX5_look_12 ?_
    refine lv_iload_n hx hb dX5_look_13 rfl (lv_at hl 2 rfl) ?_
    refine z_ri [.int p2] [] ⟨hx, hb, hml, hown, hts⟩ (kX2_hasCell l D cA a_sheets_at a_sheets_at_cells f_sheets_at_kind f_sheets_at_length f_sheets_at_cells p2 _ hw) (cwV 1 hts gX5_look_X2_hasCell rfl rfl rfl vX2_hasCell ⟨Nat.le_of_ble_eq_true rfl, Nat.le_of_ble_eq_true rfl⟩) hK (hP.sub [2, 3] rfl) (va_recv hK.1 (hP.sub (ws' := [(a_sheets_at, .inr (1, [.ref a_sheets_at_cells, .int f_sheets_at_kind, .int f_sheets_at_length]))]) [2] rfl) (ci := 1) (q0 := 0) rfl rfl) rfl hl.1 rfl (Nat.le_of_ble_eq_true rfl) dX5_look_14 ⟨Nat.zero_le _, Nat.zero_le _⟩ (fun r_3 hw => ?_)
    refine lv_if_eq (tgt := 34) hx hb dX5_look_17 (by decide) (fun c_4 => ?_) (fun c_4 => ?_)
    · have hw := hw.1 c_4
      refine lv_lconst (v := 0) hx hb dX5_look_34 (by decide) ?_
      exact z_lret hx hb hr hlk hw dX5_look_35
    · have hw := hw.2 c_4
      refine lv_aload_n hx hb dX5_look_20 rfl (lv_at hl 0 rfl) ?_
      refine va_get (D := D) (ci := 4) (v := .ref a_sheets) (C := RX5) (T := TX5) (N := 7) hx hb hts iwX5 hown hK.1 hP 0 rfl rfl 5 (by decide) kf36 (fun _ h9 => h9) rfl dX5_look_21 ?_
      refine lv_iload_n hx hb dX5_look_24 rfl (lv_at hl 1 rfl) ?_
      have hq := hw.1
      have hw := hw.2
      refine z_aldq hx hb hK hP 1 5 rfl rfl hq hsel_sheets dX5_look_25 ?_
      refine va_getN (own := RX5) (index := 260) (ref := "ExcessTree$Sheet") (host := "ExcessTree") (D := D) (ci := 1) (v := .ref a_sheets_at_cells) (C := RX2) (T := TX2) (N := 3) hx hb hts iwX2 hown hK.1 hP 2 rfl rfl 0 (by decide) kn260 (fun _ h9 => h9) rfl dX5_look_26 ?_
      refine lv_iload_n hx hb dX5_look_29 rfl (lv_at hl 2 rfl) ?_
      have hq := hw.1
      have hw := hw.2
      refine va_lald hx hb hK.1 hP 3 1 rfl rfl hq dX5_look_30 ?_
      refine lv_goto (tgt := 35) hx hb dX5_look_31 (by decide) ?_
      exact z_lret hx hb hr hlk hw dX5_look_35
