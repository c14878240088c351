/-! melt: both sides -/
theorem rr_rm {low high : Int64} {N : Nat} {g lo hi : Nat → Int32} (hX : XT low high N g lo hi) {w w' st' g' lo' hi' : Nat → Int32} {low' high' : Int64} {v : Nat} (hv : v < fb_ct (bb low high) N) (hc : 0 < kp (bb low high) N v ∨ N = 2 ∨ cn (bb low high) N 0 = 1) (h1 : ∀ k, bb low' high' k = RM (bb low high) (kp (bb low high) N v) (sh (bb low high) N (kp (bb low high) N v)) k) (h2 : SM (bb low' high') (N - 2) g' lo' hi') (h3 : ∀ i, i + 1 < fb_ct (bb low high) N → w' i = if i < v then w i else w (i + 1)) (h4 : MT st' (RM (bb low high) (kp (bb low high) N v) (sh (bb low high) N (kp (bb low high) N v))) (N - 2) (fun i => if i < v then w i else w (i + 1))) : RR (low', high', nI (N - 2), g', lo', hi', w') st' ∧ fb_ct (bb low' high') (N - 2) + 1 = fb_ct (bb low high) N ∧ XT low' high' (N - 2) g' lo' hi' ∧ MT st' (bb low' high') (N - 2) w' := by
  obtain ⟨o1, o2, o3⟩ := kp_spec hv
  have hs := sh_spec hX.1 o1 o2
  have hf := sh_false hX.1 o1 o2
  have cnt := RM_N hs.1 o2 hf hs.2.1
  have hxt : XT low' high' (N - 2) g' lo' hi' := by
    refine ⟨(RM_Tr hX.1 o1 o2 hc).cong (fun k _ => (h1 k).symm), fun k hk => ?_, h2⟩
    rw [h1 k, RM_hi (by omega) (by omega), hX.2.1 _ (by omega)]
  have hmt : MT st' (bb low' high') (N - 2) w' := h4.cong (fun k _ => (h1 k).symm) (fun i hi => (h3 i (by omega)).symm)
  refine ⟨⟨N - 2, rfl, hxt, hmt⟩, ?_, hxt, hmt⟩
  rw [fb_ct_cong (p := bb low' high') (fun k _ => h1 k)]; exact cnt
theorem o_melt {low high : Int64} {N : Nat} {g lo hi st w : Nat → Int32} (hX : XT low high N g lo hi) (hM : MT st (bb low high) N w) {p : Int32} {Q : U7 → (Nat → Int32) → Prop} (hQ : ∀ u st', RR u st' → (∀ k, 193 ≤ k → st' k = st k) → Q u st') : wX5_melt low high (nI N) g lo hi w p (fun r1 u1 => wX6_melt st p (fun r2 u2 => r1 = r2 ∧ Q u1 u2)) := by
  have hN := hX.1.1
  have h64 := hM.m64 hX.1
  have hNc := hX.1.two
  have hQ0 : Q (low, high, nI N, g, lo, hi, w) st := hQ _ st ⟨N, rfl, hX, hM⟩ (fun _ _ => rfl)
  unfold wX5_melt
  rcases node_or p (fb_ct (bb low high) N) with ⟨v, hv, rfl⟩ | c
  · obtain ⟨o1, o2, o3⟩ := kp_spec hv
    have hcb : cn (bb low high) N (kp (bb low high) N v) < 2147483648 := by unfold cn; have := fb_ct_le (CQ (bb low high) (kp (bb low high) N v)) (sh (bb low high) N (kp (bb low high) N v)); have := sh_spec hX.1 o1 o2; omega
    refine x_has_y hX hv (t1b (pk_ne v 0 (fun cv => ?_) (fun cv => ?_)))
    · have hq : 0 < kp (bb low high) N v := by
        rcases Nat.eq_zero_or_pos (kp (bb low high) N v) with z | z
        · rw [z] at o3; exact absurd o3.symm cv
        · exact z
      refine x_removeAlone hX hv h64 (fun low' high' g' lo' hi' w' h1 h2 h3 => ?_)
      have key : ∀ st', MT st' (RM (bb low high) (kp (bb low high) N v) (sh (bb low high) N (kp (bb low high) N v))) (N - 2) (fun i => if i < v then w i else w (i + 1)) → RR (low', high', nI (N - 2), g', lo', hi', w') st' ∧ fb_ct (bb low' high') (N - 2) + 1 = fb_ct (bb low high) N ∧ XT low' high' (N - 2) g' lo' hi' ∧ MT st' (bb low' high') (N - 2) w' := fun st' h4 => rr_rm hX hv (Or.inl hq) h1 h2 h3 h4
      have hxt : XT low' high' (N - 2) g' lo' hi' := by
        have hs := sh_spec hX.1 o1 o2
        refine ⟨(RM_Tr hX.1 o1 o2 (Or.inl hq)).cong (fun k _ => (h1 k).symm), fun k hk => ?_, h2⟩
        rw [h1 k, RM_hi (by omega) (by omega), hX.2.1 _ (by omega)]
      refine x_nodes hxt ?_
      unfold wX6_melt
      refine m_node1 hM.2.1 h64 hv (t1b ⟨fun _ => m_goesOut hM hX.1 hv (fun st' h4 h5 => ?_), fun z => ?_⟩)
      · obtain ⟨k1, k2, k3, k4⟩ := key st' h4
        exact m_many k4.2.1 ⟨rfl, hQ _ st' k1 h5⟩
      · rw [show (0 : Int32) = nI 0 from rfl, nI_eq (by omega) (by omega)] at z; omega
    · subst cv
      have k0 := kp_0 hX.1 hv
      have hx0 : (0 : Int32) = nI 0 := rfl
      rw [hx0]
      refine x_childrenOf hX hv (pk_eq (cn (bb low high) N (kp (bb low high) N 0)) 1 (fun c1 => ?_) (fun c1 => ?_))
      · refine x_removeAlone hX hv h64 (fun low' high' g' lo' hi' w' h1 h2 h3 => ?_)
        have hc : 0 < kp (bb low high) N 0 ∨ N = 2 ∨ cn (bb low high) N 0 = 1 := by rw [k0] at c1; exact Or.inr (Or.inr c1)
        have key : ∀ st', MT st' (RM (bb low high) (kp (bb low high) N 0) (sh (bb low high) N (kp (bb low high) N 0))) (N - 2) (fun i => if i < 0 then w i else w (i + 1)) → RR (low', high', nI (N - 2), g', lo', hi', w') st' ∧ fb_ct (bb low' high') (N - 2) + 1 = fb_ct (bb low high) N ∧ XT low' high' (N - 2) g' lo' hi' ∧ MT st' (bb low' high') (N - 2) w' := fun st' h4 => rr_rm hX hv hc h1 h2 h3 h4
        have hxt : XT low' high' (N - 2) g' lo' hi' := by
          have hs := sh_spec hX.1 o1 o2
          refine ⟨(RM_Tr hX.1 o1 o2 hc).cong (fun k _ => (h1 k).symm), fun k hk => ?_, h2⟩
          rw [h1 k, RM_hi (by omega) (by omega), hX.2.1 _ (by omega)]
        refine x_nodes hxt ?_
        unfold wX6_melt
        refine m_node1 hM.2.1 h64 hv (t1b ⟨fun z => absurd rfl z, fun _ => m_childrenOf hM.1 hX.1 hv (pk_eq (cn (bb low high) N (kp (bb low high) N 0)) 1 (fun _ => m_goesOut hM hX.1 hv (fun st' h4 h5 => ?_)) (fun z => absurd c1 z))⟩)
        obtain ⟨k1, k2, k3, k4⟩ := key st' h4
        exact m_many k4.2.1 ⟨rfl, hQ _ st' k1 h5⟩
      · unfold wX6_melt
        exact m_node1 hM.2.1 h64 hv (t1b ⟨fun z => absurd rfl z, fun _ => m_childrenOf hM.1 hX.1 hv (pk_eq (cn (bb low high) N (kp (bb low high) N 0)) 1 (fun z => absurd z c1) (fun _ => ⟨rfl, hQ0⟩))⟩)
  · refine x_has_n hX c (t0b ?_)
    unfold wX6_melt
    exact m_node_n hM.2.1 h64 c (t0b ⟨rfl, hQ0⟩)
