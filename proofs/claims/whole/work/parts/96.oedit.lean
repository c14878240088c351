/-! edits: both sides -/
abbrev U7 : Type := Int64 × Int64 × Int32 × (Nat → Int32) × (Nat → Int32) × (Nat → Int32) × (Nat → Int32)
def RR (u : U7) (st : Nat → Int32) : Prop := ∃ N, u.2.2.1 = nI N ∧ XT u.1 u.2.1 N u.2.2.2.1 u.2.2.2.2.1 u.2.2.2.2.2.1 ∧ MT st (bb u.1 u.2.1) N u.2.2.2.2.2.2
theorem rr_wr {low high : Int64} {N : Nat} {g lo hi : Nat → Int32} (hX : XT low high N g lo hi) {w w' st' g' lo' hi' : Nat → Int32} {low' high' : Int64} {p q : Nat} {x : Int32} (h0 : 0 < p) (hpq : p ≤ q) (hq : q < N) (hN2 : N + 2 ≤ 128) (h1 : ∀ k, bb low' high' k = WR (bb low high) p q k) (h2 : SM (bb low' high') (N + 2) g' lo' hi') (h3 : ∀ i, i < fb_ct (bb low high) N + 1 → w' i = WW w (fb_ct (bb low high) p) x i) (h4 : MT st' (WR (bb low high) p q) (N + 2) (fun i => if i < fb_ct (bb low high) p then w i else if i = fb_ct (bb low high) p then x else w (i - 1))) : RR (low', high', nI (N + 2), g', lo', hi', w') st' := by
  refine ⟨N + 2, rfl, ⟨?_, fun k hk => ?_, h2⟩, ?_⟩
  · exact (WR_Tr hX.1 h0 hpq hq hN2).cong (fun k _ => (h1 k).symm)
  · show bb low' high' k = false
    rw [h1 k]
    obtain ⟨j, rfl⟩ : ∃ j, k = j + 2 := ⟨k - 2, by omega⟩
    rw [WR_hi hpq (by omega), hX.2.1 j (by omega)]
  · refine h4.cong (fun k _ => (h1 k).symm) (fun i hi => ?_)
    have cnt : fb_ct (WR (bb low high) p q) (N + 2) = fb_ct (bb low high) N + 1 := by
      have := WR_c (B := (bb low high)) hpq (N - q)
      rw [show q + (N - q) = N by omega] at this; exact this
    rw [cnt] at hi
    exact (h3 i hi).symm
theorem o_set {low high : Int64} {N : Nat} {g lo hi st w : Nat → Int32} (hX : XT low high N g lo hi) (hM : MT st (bb low high) N w) {p x : Int32} {Q : (Nat → Int32) → (Nat → Int32) → Prop} (hQ : ∀ w' st', MT st' (bb low high) N w' → (∀ k, 193 ≤ k → st' k = st k) → Q w' st') : wX5_set (nI N) w p x (fun r1 u1 => wX6_set st p x (fun r2 u2 => r1 = r2 ∧ Q u1 u2)) := by
  have h64 := hM.m64 hX.1
  have hNc := hX.1.two
  have hQ0 := hQ w st hM (fun _ _ => rfl)
  unfold wX5_set
  rcases node_or p (fb_ct (bb low high) N) with ⟨v, hv, rfl⟩ | c
  · refine x_has_y hX hv (t1a ⟨fun c => ⟨pk_in v 64 (by omega), ?_⟩, fun c => ?_⟩)
    · rintro _ rfl
      refine ⟨pk_in v 64 (by omega), ?_⟩
      unfold wX6_set
      refine m_node1 hM.2.1 h64 hv (t1a ⟨fun _ => ?_, fun z => absurd c z⟩)
      rw [show (128 : Int32) = nI 128 from rfl, nI_add]
      refine ⟨pk_in (128 + v) 579 (by omega), ?_⟩
      rintro _ rfl
      refine ⟨pk_in (128 + v) 579 (by omega), ?_⟩
      rw [nI_clamp (by omega), nI_clamp (by omega)]
      refine ⟨(hM.2.2 v hv).symm, hQ _ _ ⟨fun k hk => ?_, ?_, fun i hi => ?_⟩ (fun k hk => pk_un (by omega))⟩
      · rw [pk_un (by omega)]; exact hM.1 k hk
      · rw [pk_un (by omega)]; exact hM.2.1
      · by_cases e : i = v
        · rw [e, pk_us, pk_us]
        · rw [pk_un (by omega), pk_un e]; exact hM.2.2 i hi
    · unfold wX6_set
      exact m_node1 hM.2.1 h64 hv (t1a ⟨fun z => absurd z c, fun _ => ⟨rfl, hQ0⟩⟩)
  · refine x_has_n hX c (t0a ?_)
    unfold wX6_set
    exact m_node_n hM.2.1 h64 c (t0a ⟨rfl, hQ0⟩)
theorem m_leafs {st w : Nat → Int32} {B : Nat → Bool} {N v i : Nat} {x : Int32} (hM : MT st B N w) (hT : Tr B N) (hv : v < fb_ct B N) (hil : i < 2147483648) (hN2 : N + 2 ≤ 128) (hC : fb_ct B N < 64) {post : Int32 → (Nat → Int32) → Prop} (h : ∀ st' : Nat → Int32, MT st' (WR B (eg B N (kp B N v) i) (eg B N (kp B N v) i)) (N + 2) (fun j => if j < fb_ct B (eg B N (kp B N v) i) then w j else if j = fb_ct B (eg B N (kp B N v) i) then x else w (j - 1)) → (∀ k, 193 ≤ k → st' k = st k) → post (nI (fb_ct B (eg B N (kp B N v) i))) st') : wX6_leafs st (nI v) (nI i) x post := by
  obtain ⟨o1, o2, o3⟩ := kp_spec hv
  have hs := sh_spec hT o1 o2
  have hle := eg_le (i := i) hT o1 o2
  unfold wX6_leafs
  refine m_edgeOf hM.1 hT hv hil ?_
  refine m_comesIn hM (Nat.le_refl _) (by omega) hN2 hC (fun st' h1 h2 => ?_)
  refine m_opensAt h1.1 (by omega) hN2 ?_
  rw [WR_a (Nat.le_refl _)]
  exact h st' h1 h2
theorem o_leaf {low high : Int64} {N : Nat} {g lo hi st w : Nat → Int32} (hX : XT low high N g lo hi) (hM : MT st (bb low high) N w) {p i x : Int32} {Q : U7 → (Nat → Int32) → Prop} (hQ : ∀ u st', RR u st' → (∀ k, 193 ≤ k → st' k = st k) → Q u st') : wX5_leaf low high (nI N) g lo hi w p i x (fun r1 u1 => wX6_leaf st p i x (fun r2 u2 => r1 = r2 ∧ Q u1 u2)) := by
  have hN := hX.1.1
  have h64 := hM.m64 hX.1
  have hNc := hX.1.two
  have hQ0 : Q (low, high, nI N, g, lo, hi, w) st := hQ _ st ⟨N, rfl, hX, hM⟩ (fun _ _ => rfl)
  unfold wX5_leaf
  rcases node_or p (fb_ct (bb low high) N) with ⟨v, hv, rfl⟩ | c
  · obtain ⟨o1, o2, o3⟩ := kp_spec hv
    have hs := sh_spec hX.1 o1 o2
    have hcb : cn (bb low high) N (kp (bb low high) N v) < 2147483648 := by unfold cn; have := fb_ct_le (CQ (bb low high) (kp (bb low high) N v)) (sh (bb low high) N (kp (bb low high) N v)); omega
    refine x_has_y hX hv (t1a ⟨fun c => ?_, fun c => ?_⟩)
    · unfold wX6_leaf
      refine m_node1 hM.2.1 h64 hv (t1a (m_childrenOf hM.1 hX.1 hv ?_))
      rw [neg_iff] at c
      refine m_in (fun _ _ => t1a ⟨fun z => ?_, fun _ => ⟨rfl, hQ0⟩⟩) (fun _ => t0a ⟨rfl, hQ0⟩)
      rw [Int32.le_iff_toInt_le] at z
      have z : (0 : Int) ≤ x.toInt := z
      omega
    · refine x_childrenOf hX hv ?_
      have cx : 0 ≤ x := by
        rw [neg_iff] at c
        rw [Int32.le_iff_toInt_le]
        show (0 : Int) ≤ x.toInt
        omega
      rcases upto i (cn (bb low high) N (kp (bb low high) N v)) with ⟨j, j1, rfl⟩ | c2
      · refine x_within (fun _ _ => t1b ?_) (fun z => by rw [nI_toInt (by omega), nI_toInt (by omega), show (0 : Int32).toInt = 0 from rfl] at z; omega)
        have ml : ∀ P : Int32 → (Nat → Int32) → Prop, ((¬ nI (fb_ct (bb low high) N) = (64 : Int32) → wX6_leafs st (nI v) (nI j) x (fun r u => P r u)) ∧ (nI (fb_ct (bb low high) N) = (64 : Int32) → P (-3) st)) → wX6_leaf st (nI v) (nI j) x P := by
          intro P hP
          unfold wX6_leaf
          refine m_node1 hM.2.1 h64 hv (t1a (m_childrenOf hM.1 hX.1 hv ?_))
          refine m_in_y (by rw [nI_toInt (by omega)]; show (0 : Int) ≤ _; omega) (by rw [t64, nI_toInt (by omega), nI_toInt (by omega)]; omega) (t1a ⟨fun _ => m_many hM.2.1 hP, fun z => absurd cx z⟩)
        refine x_nodes hX (pk_lt (fb_ct (bb low high) N) 64 (fun c3 => ?_) (fun c3 => ?_))
        · have hle := eg_le (i := j) hX.1 o1 o2
          refine x_placeForChild hX hv (by omega) ?_
          refine x_addLeafAt hX (by omega) (by omega) c3 (fun low' high' g' lo' hi' w' h1 h2 h3 => ?_)
          refine ml _ ⟨fun _ => ?_, fun z => by rw [show (64 : Int32) = nI 64 from rfl, nI_eq (by omega) (by omega)] at z; omega⟩
          refine m_leafs hM hX.1 hv (by omega) (by omega) c3 (fun st' h4 h5 => ⟨rfl, hQ _ st' ?_ h5⟩)
          exact rr_wr hX (by omega) (Nat.le_refl _) (by omega) (by omega) h1 h2 h3 h4
        · refine ml _ ⟨fun z => ?_, fun _ => ⟨rfl, hQ0⟩⟩
          rw [show fb_ct (bb low high) N = 64 by omega] at z
          exact absurd rfl z
      · refine x_within (fun z1 z2 => by rw [nI_toInt (by omega)] at z2; rw [show (0 : Int32).toInt = 0 from rfl] at z1; omega) (fun _ => t0b ?_)
        unfold wX6_leaf
        refine m_node1 hM.2.1 h64 hv (t1a (m_childrenOf hM.1 hX.1 hv ?_))
        refine m_in_n (by rw [t64, nI_toInt (by omega)]; show ¬ ((0 : Int) ≤ _ ∧ _); omega) (t0a ⟨rfl, hQ0⟩)
  · refine x_has_n hX c (t0a ?_)
    unfold wX6_leaf
    exact m_node_n hM.2.1 h64 c (t0a ⟨rfl, hQ0⟩)
