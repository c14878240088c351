/-! text: both sides -/
abbrev M11 : Type := Int32 × Int32 × Int32 × Int32 × Int32 × Int32 × Int32 × Int32 × (Nat → Int32) × (Nat → Int32) × (Nat → Int32)
def TI (L : Nat) (tb : Nat → Nat) (depth pl br ba sp hr tk va : Int32) (g : Nat → Int32) : Prop := (br = 0 ∧ ∃ n s i kd e v, Run L tb n s ∧ TK L tb s.1 i kd e v ∧ ¬ kd = 2 ∧ (s.2.2.2.2 = 40 → ¬ kd = 1) ∧ depth = iI (ex s.2.1 s.2.2.1) ∧ pl = nI s.2.2.1 ∧ sp = nI e ∧ hr = nI i ∧ tk = nI (tcd kd) ∧ RP g s) ∨ (∃ f i s, Out L tb f i s ∧ 0 < f ∧ f < 10 ∧ br = nI f ∧ ba = nI i)
def TM (L : Nat) (depth pl br ba sp hr tk va : Int32) (g : Nat → Int32) : Nat := if br = 0 then 2 * (L - sp.toNatClampNeg) + (if tk = 0 then 1 else 2) else 0
theorem m_textLoop {L : Nat} {tb : Nat → Nat} {ta : Nat → Int32} (hL : L ≤ 160) (hb : TB L tb ta) {st ik : Nat → Int32} {post : Int32 → M11 → Prop} (h0 : ∀ i s st' c3 c4 c5 c6 c7 c8 rp', Out L tb 0 i s → MT st' s.2.1 s.2.2.1 s.2.2.2.1 → (∀ k, 193 ≤ k → st' k = st k) → post (nI (fb_ct s.2.1 s.2.2.1)) (0, 0, c3, c4, c5, c6, c7, c8, st', rp', upd (upd ik 0 (vp_nar .boolean 0)) 1 (vp_nar .boolean 0))) (h1 : ∀ f i s c3 c4 c5 c6 c7 c8 rp', Out L tb f i s → ¬ f = 0 → post (-10 - nI i) (0, nI f, c3, c4, c5, c6, c7, c8, st, rp', ik)) : ∀ (x_4 : Int32) (x_5 : Int32) (f_broken_6 : Int32) (f_brokenAt_7 : Int32) (f_spot_8 : Int32) (f_here_9 : Int32) (f_token_10 : Int32) (f_value_11 : Int32) (f_readPage_12 : Nat → Int32), TI L tb x_4 x_5 f_broken_6 f_brokenAt_7 f_spot_8 f_here_9 f_token_10 f_value_11 f_readPage_12 → ((¬ f_broken_6 = 0 → ((f_broken_6 ≤ 0 → (∃ (I_15 : Int32 → (Nat → Int32) → Prop) (mu_15 : Int32 → (Nat → Int32) → Nat), I_15 (0 : Int32) st ∧ ∀ (x_16 : Int32) (f_state_17 : Nat → Int32), I_15 x_16 f_state_17 → (((193 : Int32) ≤ x_16 → (vp_in (0 : Int32) 2 ∧ (vp_in (1 : Int32) 2 ∧ (vp_in (192 : Int32) 579 ∧ post (f_state_17 192) ((0 : Int32), f_broken_6, f_broken_6, f_brokenAt_7, f_spot_8, f_here_9, f_token_10, f_value_11, f_state_17, f_readPage_12, (upd (upd ik 0 (vp_nar .boolean (0 : Int32))) 1 (vp_nar .boolean (0 : Int32)))))))) ∧ (¬ (193 : Int32) ≤ x_16 → (vp_in x_16 193 ∧ (∀ x_19 : Int32, x_19 = (f_readPage_12 x_16.toNatClampNeg) → (vp_in x_16 579 ∧ (∀ x_20 : Int32, x_20 = x_16 + (1) → (I_15 x_20 (upd f_state_17 x_16.toNatClampNeg x_19) ∧ mu_15 x_20 (upd f_state_17 x_16.toNatClampNeg x_19) < mu_15 x_16 f_state_17))))))))) ∧ (¬ f_broken_6 ≤ 0 → post ((-10 : Int32) - f_brokenAt_7) ((0 : Int32), f_broken_6, f_broken_6, f_brokenAt_7, f_spot_8, f_here_9, f_token_10, f_value_11, st, f_readPage_12, ik)))) ∧ (f_broken_6 = 0 → ((¬ f_token_10 = 0 → (wX6_takes (nI L) f_broken_6 f_brokenAt_7 f_spot_8 f_here_9 f_token_10 f_value_11 f_readPage_12 ta x_4 x_5 (fun (r_22 : Int32) (u_23 : (Int32) × (Int32) × (Int32) × (Int32) × (Int32) × (Int32) × (Nat → Int32)) => ((∀ x_24 : Int32, x_24 = x_5 + (1) → (TI L tb r_22 x_24 u_23.1 u_23.2.1 u_23.2.2.1 u_23.2.2.2.1 u_23.2.2.2.2.1 u_23.2.2.2.2.2.1 u_23.2.2.2.2.2.2 ∧ TM L r_22 x_24 u_23.1 u_23.2.1 u_23.2.2.1 u_23.2.2.2.1 u_23.2.2.2.2.1 u_23.2.2.2.2.2.1 u_23.2.2.2.2.2.2 < TM L x_4 x_5 f_broken_6 f_brokenAt_7 f_spot_8 f_here_9 f_token_10 f_value_11 f_readPage_12)))))) ∧ (f_token_10 = 0 → ((x_4 ≤ 0 → ((f_broken_6 ≤ 0 → (∃ (I_27 : Int32 → (Nat → Int32) → Prop) (mu_27 : Int32 → (Nat → Int32) → Nat), I_27 (0 : Int32) st ∧ ∀ (x_28 : Int32) (f_state_29 : Nat → Int32), I_27 x_28 f_state_29 → (((193 : Int32) ≤ x_28 → (vp_in (0 : Int32) 2 ∧ (vp_in (1 : Int32) 2 ∧ (vp_in (192 : Int32) 579 ∧ post (f_state_29 192) ((0 : Int32), f_broken_6, f_broken_6, f_brokenAt_7, f_spot_8, f_here_9, f_token_10, f_value_11, f_state_29, f_readPage_12, (upd (upd ik 0 (vp_nar .boolean (0 : Int32))) 1 (vp_nar .boolean (0 : Int32)))))))) ∧ (¬ (193 : Int32) ≤ x_28 → (vp_in x_28 193 ∧ (∀ x_31 : Int32, x_31 = (f_readPage_12 x_28.toNatClampNeg) → (vp_in x_28 579 ∧ (∀ x_32 : Int32, x_32 = x_28 + (1) → (I_27 x_32 (upd f_state_29 x_28.toNatClampNeg x_31) ∧ mu_27 x_32 (upd f_state_29 x_28.toNatClampNeg x_31) < mu_27 x_28 f_state_29))))))))) ∧ (¬ f_broken_6 ≤ 0 → post ((-10 : Int32) - f_brokenAt_7) ((0 : Int32), f_broken_6, f_broken_6, f_brokenAt_7, f_spot_8, f_here_9, f_token_10, f_value_11, st, f_readPage_12, ik)))) ∧ (¬ x_4 ≤ 0 → (wX6_takes (nI L) f_broken_6 f_brokenAt_7 f_spot_8 f_here_9 f_token_10 f_value_11 f_readPage_12 ta x_4 x_5 (fun (r_33 : Int32) (u_34 : (Int32) × (Int32) × (Int32) × (Int32) × (Int32) × (Int32) × (Nat → Int32)) => ((∀ x_35 : Int32, x_35 = x_5 + (1) → (TI L tb r_33 x_35 u_34.1 u_34.2.1 u_34.2.2.1 u_34.2.2.2.1 u_34.2.2.2.2.1 u_34.2.2.2.2.2.1 u_34.2.2.2.2.2.2 ∧ TM L r_33 x_35 u_34.1 u_34.2.1 u_34.2.2.1 u_34.2.2.2.1 u_34.2.2.2.2.1 u_34.2.2.2.2.2.1 u_34.2.2.2.2.2.2 < TM L x_4 x_5 f_broken_6 f_brokenAt_7 f_spot_8 f_here_9 f_token_10 f_value_11 f_readPage_12))))))))))) := by
  intro x4 x5 br ba sp hr tk va g hI
  rcases hI with ⟨rfl, n, s, i, kd, e, v, hR, hT, hk2, hbf, rfl, rfl, rfl, rfl, rfl, hrp⟩ | ⟨f, i, s, hO, f0, f1, rfl, rfl⟩
  · have hI := hR.inv
    have hle := hI.le
    obtain ⟨a1, a2, a3, a4, a5, a6, a7⟩ := hI
    have eb := ex_b s.2.1 s.2.2.1
    obtain ⟨b1, b2, b3, b4, b5⟩ := hT.bd
    have tak : (kd = 0 → 0 < ex s.2.1 s.2.2.1) → wX6_takes (nI L) 0 ba (nI e) (nI i) (nI (tcd kd)) va g ta (iI (ex s.2.1 s.2.2.1)) (nI s.2.2.1) (fun (r_33 : Int32) (u_34 : (Int32) × (Int32) × (Int32) × (Int32) × (Int32) × (Int32) × (Nat → Int32)) => ((∀ x_35 : Int32, x_35 = nI s.2.2.1 + (1) → (TI L tb r_33 x_35 u_34.1 u_34.2.1 u_34.2.2.1 u_34.2.2.2.1 u_34.2.2.2.2.1 u_34.2.2.2.2.2.1 u_34.2.2.2.2.2.2 ∧ TM L r_33 x_35 u_34.1 u_34.2.1 u_34.2.2.1 u_34.2.2.2.1 u_34.2.2.2.2.1 u_34.2.2.2.2.2.1 u_34.2.2.2.2.2.2 < TM L (iI (ex s.2.1 s.2.2.1)) (nI s.2.2.1) 0 ba (nI e) (nI i) (nI (tcd kd)) va g)))) := by
      intro hgo
      obtain ⟨s1, B, P, w, bf⟩ := s
      refine m_takes hL hb hR hT hk2 hbf hgo hrp (fun n' s' i' kd' e' v' ba' va' rp' k0 g1 g2 g3 g4 g5 g6 g7 => ?_) (fun f i' s' d' sp hr tk va' rp' g1 g2 g3 => ?_)
      · rintro _ rfl
        have hs' := g1.inv
        obtain ⟨d1, d2, d3, d4, d5⟩ := g2.bd
        refine ⟨Or.inl ⟨rfl, n', s', i', kd', e', v', g1, g2, g3, g4, rfl, ?_, rfl, rfl, rfl, g5⟩, ?_⟩
        · show nI P + 1 = nI s'.2.2.1
          rw [nI_1, g6]
        · show TM L _ _ 0 ba' (nI e') (nI i') (nI (tcd kd')) va' rp' < TM L _ _ 0 ba (nI e) (nI i) (nI (tcd kd)) va g
          unfold TM
          rw [if_pos rfl, if_pos rfl, nI_clamp (by omega), nI_clamp (by omega), if_neg (show ¬ nI (tcd kd) = (0 : Int32) from fun z => k0 (tcd_0 z))]
          by_cases k0' : kd' = 0
          · subst k0'
            rw [if_pos (show nI (tcd 0) = (0 : Int32) from rfl)]; omega
          · have := d4 k0'
            rw [if_neg (show ¬ nI (tcd kd') = (0 : Int32) from fun z => k0' (tcd_0 z))]; omega
      · rintro _ rfl
        refine ⟨Or.inr ⟨f, i', s', g1, g2, g3, rfl, rfl⟩, ?_⟩
        show TM L _ _ (nI f) (nI i') sp hr tk va' rp' < TM L _ _ 0 ba (nI e) (nI i) (nI (tcd kd)) va g
        unfold TM
        rw [if_neg (nI_ne0 g2 (by omega)), if_pos rfl]
        split <;> omega
    refine ⟨fun z => absurd rfl z, fun _ => ⟨fun z => ?_, fun z => ⟨fun z2 => ?_, fun z2 => ?_⟩⟩⟩
    · exact tak (fun k0 => absurd (by rw [k0]; rfl) z)
    · have k0 := tcd_0 z
      subst k0
      have ex0 : ex s.2.1 s.2.2.1 = 0 := by
        rw [i_0, iI_le (by omega) (by omega) (by omega) (by omega)] at z2; omega
      have hO : Out L tb 0 i s := ⟨n, 0, e, v, hR, hT, by rw [ft_0, if_neg (by omega)], Or.inl rfl⟩
      refine ⟨fun _ => ?_, fun y => absurd (show (0 : Int32) ≤ 0 by decide) y⟩
      rw [show (193 : Int32) = nI 193 from rfl]
      refine lp_same (by omega) (by omega) (by omega) (by omega) (fun f1 hf1 => ⟨pk_in 0 2 (by omega), pk_in 1 2 (by omega), pk_in 192 579 (by omega), ?_⟩)
      obtain ⟨r1, r2, r3⟩ := hrp
      have e192 : f1 192 = nI (fb_ct s.2.1 s.2.2.1) := by rw [hf1 192, if_pos (by omega)]; exact r1
      rw [e192]
      refine h0 i s f1 _ _ _ _ _ _ _ hO ⟨fun k hk => ?_, e192, fun j hj => ?_⟩ (fun k hk => ?_)
      · rw [hf1 k, if_pos (by omega)]; exact r2 k hk
      · rw [hf1 _, if_pos (by omega)]; exact r3 j hj
      · rw [hf1 k, if_neg (by omega)]
    · refine tak (fun _ => ?_)
      rw [i_0, iI_le (by omega) (by omega) (by omega) (by omega)] at z2; omega
  · refine ⟨fun _ => ⟨fun z => absurd z (nI_nle f0 (by omega)), fun _ => h1 f i s _ _ _ _ _ _ _ hO (by omega)⟩, fun z => absurd z (nI_ne0 f0 (by omega))⟩
theorem m_text {L : Nat} {tb : Nat → Nat} {ta : Nat → Int32} (hL : L ≤ 160) (hb : TB L tb ta) {fa br ba sp hr tk va : Int32} {st rp ik : Nat → Int32} {post : Int32 → M11 → Prop} (h0 : ∀ i s st' c3 c4 c5 c6 c7 c8 rp', Out L tb 0 i s → MT st' s.2.1 s.2.2.1 s.2.2.2.1 → (∀ k, 193 ≤ k → st' k = st k) → post (nI (fb_ct s.2.1 s.2.2.1)) (0, 0, c3, c4, c5, c6, c7, c8, st', rp', upd (upd ik 0 (vp_nar .boolean 0)) 1 (vp_nar .boolean 0))) (h1 : ∀ f i s c3 c4 c5 c6 c7 c8 rp', Out L tb f i s → ¬ f = 0 → post (-10 - nI i) (0, nI f, c3, c4, c5, c6, c7, c8, st, rp', ik)) : wX6_text (nI L) fa br ba sp hr tk va st rp ta ik post := by
  unfold wX6_text
  refine ⟨pk_in 192 193 (by omega), ?_⟩
  rw [show (192 : Int32).toNatClampNeg = 192 from rfl, show (0 : Int32).toNatClampNeg = 0 from rfl, show (1 : Int32).toNatClampNeg = 1 from rfl]
  refine m_readsOn (s := 0) hL (Nat.zero_le _) hb (fun i kd e v vv hTK hk2 hv => ?_) (fun i e v t vv hTK => ?_)
  · refine ⟨TI L tb, TM L, Or.inl ⟨rfl, 0, (0, fun _ => false, 0, fun _ => 0, 0), i, kd, e, v, rfl, hTK, hk2, fun z => absurd (show (0 : Nat) = 40 from z) (by decide), ?_, rfl, rfl, rfl, rfl, pk_us, fun k hk => absurd hk (Nat.not_lt_zero _), fun j hj => absurd hj (Nat.not_lt_zero _)⟩, m_textLoop hL hb h0 h1⟩
    show (0 : Int32) = iI (ex (fun _ => false) 0)
    rw [ex_0]; rfl
  · exact ⟨TI L tb, TM L, Or.inr ⟨1, i, (0, fun _ => false, 0, fun _ => 0, 0), ⟨0, 2, e, v, rfl, hTK, by rw [ft_2], Or.inr (by decide)⟩, by decide, by decide, rfl, rfl⟩, m_textLoop hL hb h0 h1⟩
abbrev U20 : Type := Int64 × Int64 × Int32 × (Nat → Int32) × (Nat → Int32) × (Nat → Int32) × (Nat → Int32) × Int64 × Int64 × Int32 × (Nat → Int32) × (Nat → Int32) × (Nat → Int32) × (Nat → Int32) × (Nat → Int32) × Int32 × Int32 × Int32 × Int32 × Int32
theorem nb0 : vp_nar .boolean (0 : Int32) = 0 := rfl
theorem o_text {low high : Int64} {pl : Int32} {g lo hi w st : Nat → Int32} {dl dh : Int64} {dp : Int32} {dg dlo dhi dw : Nat → Int32} {kf : Nat → Int32} {ln at0 st0 num fa0 tp fa br ba sp hr tk va : Int32} {by_ ta rp ik : Nat → Int32} (hTP : TP ln by_ tp ta) {Q : U20 → M11 → Prop} (hQ1 : ∀ a b c d e f g a' b' c' d' e' f' g' kf' x1 x2 x3 c3 c4 c5 c6 c7 c8 st' rp' ik', RR (a, b, c, d, e, f, g) st' → kf' 0 = 0 → kf' 1 = 0 → ik' 0 = 0 → ik' 1 = 0 → Q (a, b, c, d, e, f, g, a', b', c', d', e', f', g', kf', 0, x1, x2, x3, 0) (0, 0, c3, c4, c5, c6, c7, c8, st', rp', ik')) (hQ2 : ∀ a' b' c' d' e' f' g' x1 x2 x3 fl c3 c4 c5 c6 c7 c8 rp', Q (low, high, pl, g, lo, hi, w, a', b', c', d', e', f', g', kf, 0, x1, x2, x3, fl) (0, fl, c3, c4, c5, c6, c7, c8, st, rp', ik)) : wX5_text low high pl g lo hi w dl dh dp dg dlo dhi dw kf ln at0 st0 num fa0 by_ (fun r1 u1 => wX6_text tp fa br ba sp hr tk va st rp ta ik (fun r2 u2 => r1 = r2 ∧ Q u1 u2)) := by
  obtain ⟨L, hL, rfl, rfl, hb⟩ := hTP
  have tb2 : TB L (fun i => (ta i).toNatClampNeg) ta := fun i hi => by
    obtain ⟨c, c1, c2⟩ := (hb i hi).2
    have e : (ta i).toNatClampNeg = c := by rw [c2, nI_clamp (by omega)]
    show ta i = nI (ta i).toNatClampNeg ∧ (ta i).toNatClampNeg < 128
    rw [e]; exact ⟨c2, c1⟩
  have tb1 : TB L (fun i => (ta i).toNatClampNeg) by_ := fun i hi => by
    rw [(hb i hi).1]; exact tb2 i hi
  unfold wX5_text
  refine x_tell hL tb1 (fun f i s a nm low1 high1 g1 lo1 hi1 w1 hO hB hS hw => ?_)
  have hO2 := hO
  obtain ⟨n, kd, e, v, hR, hT, hf, hf0⟩ := hO
  have hI := hR.inv
  have hle := hI.le
  obtain ⟨a1, a2, a3, a4, a5, a6, a7⟩ := hI
  obtain ⟨b1, b2, b3, b4, b5⟩ := hT.bd
  have hfl : f < 10 := by
    rw [hf]
    rcases b5 with rfl | rfl | rfl | rfl | rfl
    · rw [ft_0]; split <;> omega
    · rw [ft_1]; split <;> omega
    · rw [ft_2]; omega
    · rw [ft_40]; split
      · omega
      · split <;> omega
    · rw [ft_41]; split <;> omega
  refine pk_eq f 0 (fun c => ?_) (fun c => ?_)
  · have k0 : kd = 0 := by
      rcases hf0 with y | y
      · exact y
      · exact absurd c y
    subst k0
    rw [ft_0, c] at hf
    have ex0 : ex s.2.1 s.2.2.1 = 0 := by
      rcases Int.lt_or_le 0 (ex s.2.1 s.2.2.1) with y | y
      · rw [if_pos y] at hf; omega
      · omega
    have hX1 : XT low1 high1 s.2.2.1 g1 lo1 hi1 := by
      refine ⟨?_, ?_, hS⟩
      · rw [hB]; exact ⟨by omega, ex0, a5⟩
      · rw [hB]; exact a6
    refine x_become hX1 (fun g2 lo2 hi2 w2 k1 k2 => ?_)
    rw [show (2 : Int32) = nI 2 from rfl]
    refine lp_fill0 (by omega) (by omega) (fun kf' hkf => x_nodes k1 ?_)
    subst c
    refine m_text hL tb2 (fun i' s' st' c3 c4 c5 c6 c7 c8 rp' hO' hM hfr => ?_) (fun f' i' s' c3 c4 c5 c6 c7 c8 rp' hO' hne => absurd (hO2.one hO').1.symm hne)
    obtain ⟨e1, e2, e3⟩ := hO2.one hO'
    subst e3
    refine ⟨by rw [hB], ?_⟩
    refine hQ1 _ _ _ _ _ _ _ _ _ _ _ _ _ _ kf' _ _ _ c3 c4 c5 c6 c7 c8 st' rp' _ ⟨s.2.2.1, rfl, k1, ?_⟩ ?_ ?_ ?_ ?_
    · refine hM.cong (fun k _ => by rw [← hB]) (fun j hj => ?_)
      show s.2.2.2.1 j = w2 j
      exact ((k2 j (by omega)).trans (hw j hj)).symm
    · rw [hkf 0, if_pos (by omega)]; rfl
    · rw [hkf 1, if_pos (by omega)]; rfl
    · rw [pk_un (by omega), pk_us]; rfl
    · rw [pk_us]; rfl
  · refine m_text hL tb2 (fun i' s' st' c3 c4 c5 c6 c7 c8 rp' hO' hM hfr => absurd (hO2.one hO').1 c) (fun f' i' s' c3 c4 c5 c6 c7 c8 rp' hO' hne => ?_)
    obtain ⟨e1, e2, e3⟩ := hO2.one hO'
    subst e1 e2
    exact ⟨rfl, hQ2 _ _ _ _ _ _ _ _ _ _ _ c3 c4 c5 c6 c7 c8 rp'⟩
