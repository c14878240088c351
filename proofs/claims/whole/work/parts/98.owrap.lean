/-! wrap: both sides -/
theorem o_wrap {low high : Int64} {N : Nat} {g lo hi st w : Nat → Int32} (hX : XT low high N g lo hi) (hM : MT st (bb low high) N w) {p i j x : Int32} {Q : U7 → (Nat → Int32) → Prop} (hQ : ∀ u st', RR u st' → (∀ k, 193 ≤ k → st' k = st k) → Q u st') : wX5_wrap low high (nI N) g lo hi w p i j x (fun r1 u1 => wX6_wrap st p i j x (fun r2 u2 => r1 = r2 ∧ Q u1 u2)) := by
  have hN := hX.1.1
  have h64 := hM.m64 hX.1
  have hNc := hX.1.two
  have hQ0 : Q (low, high, nI N, g, lo, hi, w) st := hQ _ st ⟨N, rfl, hX, hM⟩ (fun _ _ => rfl)
  unfold wX5_wrap
  rcases node_or p (fb_ct (bb low high) N) with ⟨v, hv, rfl⟩ | c
  · obtain ⟨o1, o2, o3⟩ := kp_spec hv
    have hs := sh_spec hX.1 o1 o2
    have hcb : cn (bb low high) N (kp (bb low high) N v) ≤ 128 := by unfold cn; have := fb_ct_le (CQ (bb low high) (kp (bb low high) N v)) (sh (bb low high) N (kp (bb low high) N v)); omega
    have hri := fb_rng i
    have hrj := fb_rng j
    have e2 : (i.toInt64 + j.toInt64).toInt = i.toInt + j.toInt := by
      rw [fb_addL (by rw [t64, t64]; omega) (by rw [t64, t64]; omega), t64, t64]
    have bad : (i.toInt < 0 ∨ j.toInt < 0 ∨ (cn (bb low high) N (kp (bb low high) N v) : Int) < i.toInt + j.toInt ∨ ¬ 0 ≤ x) → wX6_wrap st (nI v) i j x (fun r2 u2 => (-1 : Int32) = r2 ∧ Q (low, high, nI N, g, lo, hi, w) u2) := by
      intro hb
      unfold wX6_wrap
      refine m_node1 hM.2.1 h64 hv (t1a ?_)
      rw [neg_iff i, neg_iff j]
      refine ⟨fun _ => ⟨rfl, hQ0⟩, fun c1 => ⟨fun _ => ⟨rfl, hQ0⟩, fun c2 => m_childrenOf hM.1 hX.1 hv ?_⟩⟩
      rw [lg_gt, e2, t64, nI_toInt (by omega)]
      refine ⟨fun _ => ⟨rfl, hQ0⟩, fun c3 => ⟨fun z => ?_, fun _ => ⟨rfl, hQ0⟩⟩⟩
      rcases hb with y | y | y | y
      · omega
      · omega
      · omega
      · exact absurd z y
    refine x_has_y hX hv (t1a ⟨fun cx => x_childrenOf hX hv ?_, fun cx => bad (by simp [cx])⟩)
    rcases upto i (cn (bb low high) N (kp (bb low high) N v)) with ⟨a, a1, rfl⟩ | c2
    · refine x_within (fun _ _ => t1a ?_) (fun z => by rw [nI_toInt (by omega), nI_toInt (by omega), show (0 : Int32).toInt = 0 from rfl] at z; omega)
      rw [pk_sub a1]
      rw [nI_toInt (by omega)] at bad e2
      rcases upto j (cn (bb low high) N (kp (bb low high) N v) - a) with ⟨b, b1, rfl⟩ | c3
      · rw [nI_toInt (by omega)] at e2
        refine x_within (fun _ _ => t1b ?_) (fun z => by rw [nI_toInt (by omega), nI_toInt (by omega), show (0 : Int32).toInt = 0 from rfl] at z; omega)
        have ml : ∀ P : Int32 → (Nat → Int32) → Prop, ((¬ nI (fb_ct (bb low high) N) = (64 : Int32) → wX6_edgeOf st (nI v) (nI a) (fun r_10 => wX6_edgeOf st (nI v) (nI a + nI b) (fun r_11 => wX6_comesIn st r_10 r_11 x (fun u_13 => wX6_opensAt u_13 r_10 (fun r_14 => P r_14 u_13))))) ∧ (nI (fb_ct (bb low high) N) = (64 : Int32) → P (-3) st)) → wX6_wrap st (nI v) (nI a) (nI b) x P := by
          intro P hP
          unfold wX6_wrap
          refine m_node1 hM.2.1 h64 hv (t1a ⟨fun z => absurd z (nI_pos (by omega)), fun _ => ⟨fun z => absurd z (nI_pos (by omega)), fun _ => m_childrenOf hM.1 hX.1 hv ?_⟩⟩)
          rw [lg_gt, e2, t64, nI_toInt (by omega)]
          exact ⟨fun z => by omega, fun _ => ⟨fun _ => m_many hM.2.1 hP, fun z => absurd cx z⟩⟩
        refine x_nodes hX (pk_lt (fb_ct (bb low high) N) 64 (fun c3 => ?_) (fun c3 => ?_))
        · have hle := eg_le (i := a) hX.1 o1 o2
          have hle2 := eg_le (i := a + b) hX.1 o1 o2
          have hmono : eg (bb low high) N (kp (bb low high) N v) a ≤ eg (bb low high) N (kp (bb low high) N v) (a + b) := by
            rcases Nat.lt_or_ge (a + b) (cn (bb low high) N (kp (bb low high) N v)) with y | y
            · have g1 := (eg_lt hX.1 o1 o2 y).2.2.2.2
              have g2 := (eg_lt hX.1 o1 o2 (show a < cn (bb low high) N (kp (bb low high) N v) by omega)).2.2.2.2
              rcases Nat.lt_or_ge (eg (bb low high) N (kp (bb low high) N v) (a + b)) (eg (bb low high) N (kp (bb low high) N v) a) with q | q
              · have g3 := fb_ct_mono (CQ (bb low high) (kp (bb low high) N v)) (Nat.le_of_lt q)
                have hb0 : b = 0 := by omega
                rw [hb0, Nat.add_zero] at q
                omega
              · exact q
            · rw [eg_end y]; exact hle.2
          refine x_placeForChild hX hv (by omega) ?_
          rw [nI_add]
          refine x_placeForChild hX hv (by omega) ?_
          refine x_addAbout hX hmono (by omega) (by omega) c3 (fun low' high' g' lo' hi' w' h1 h2 h3 => ?_)
          refine ml _ ⟨fun _ => ?_, fun z => by rw [show (64 : Int32) = nI 64 from rfl, nI_eq (by omega) (by omega)] at z; omega⟩
          refine m_edgeOf hM.1 hX.1 hv (by omega) ?_
          rw [nI_add]
          refine m_edgeOf hM.1 hX.1 hv (by omega) ?_
          refine m_comesIn hM hmono (by omega) (by omega) c3 (fun st' h4 h5 => ?_)
          refine m_opensAt h4.1 (by omega) (by omega) ?_
          rw [WR_a (Nat.le_refl _)]
          exact ⟨rfl, hQ _ st' (rr_wr hX (by omega) hmono (by omega) (by omega) h1 h2 h3 h4) h5⟩
        · refine ml _ ⟨fun z => ?_, fun _ => ⟨rfl, hQ0⟩⟩
          rw [show fb_ct (bb low high) N = 64 by omega] at z
          exact absurd rfl z
      · refine x_within (fun z1 z2 => by rw [nI_toInt (by omega)] at z2; rw [show (0 : Int32).toInt = 0 from rfl] at z1; omega) (fun _ => t0b (bad (by omega)))
    · refine x_within (fun z1 z2 => by rw [nI_toInt (by omega)] at z2; rw [show (0 : Int32).toInt = 0 from rfl] at z1; omega) (fun _ => t0a (bad ?_))
      omega
  · refine x_has_n hX c (t0a ?_)
    unfold wX6_wrap
    exact m_node_n hM.2.1 h64 c (t0a ⟨rfl, hQ0⟩)
