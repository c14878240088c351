/-! nodes: both sides -/
theorem IsDp.one {B : Nat → Bool} {N v e w w' : Nat} (h : IsDp B N v e w) (h' : IsDp B N v e w') (hw : w < e) (hw' : w' < e) : w = w' := by
  obtain ⟨a1, a2, a3⟩ := h
  obtain ⟨b1, b2, b3⟩ := h'
  rcases Nat.lt_trichotomy w w' with z | z | z
  · have := b3 w a1 z; have := a2 w' b1 hw'; omega
  · exact z
  · have := a3 w' b1 z; have := b2 w a1 hw; omega
theorem IsDp_ex (B : Nat → Bool) (N v n : Nat) (h : 0 < n) : ∃ w, w < v + n ∧ IsDp B N v (v + n) w := by
  obtain ⟨i, i1, i2, i3⟩ := fb_best (fun j => ex B (kp B N (v + j))) h
  refine ⟨v + i, by omega, by omega, fun u u1 u2 => ?_, fun u u1 u2 => ?_⟩
  · have : ex B (kp B N (v + (u - v))) ≤ ex B (kp B N (v + i)) := i2 (u - v) (by omega)
    rw [show v + (u - v) = u by omega] at this; exact this
  · have : ex B (kp B N (v + (u - v))) < ex B (kp B N (v + i)) := i3 (u - v) (by omega)
    rw [show v + (u - v) = u by omega] at this; exact this
theorem dp_max {B : Nat → Bool} {N v w : Nat} (hT : Tr B N) (hv : v < fb_ct B N) (hw : w < v + sz B N v) (h : IsDp B N v (v + sz B N v) w) : IsMx B (kp B N v) (sh B N (kp B N v)) (ex B (kp B N w) + 1) ∧ ∀ k, kp B N v ≤ k → k ≤ kp B N w → ex B k < ex B (kp B N w) + 1 := by
  obtain ⟨o1, o2, o3⟩ := kp_spec hv
  obtain ⟨z1, z2, z3, z4⟩ := sz_eq hT hv
  have hs := sh_spec hT o1 o2
  obtain ⟨d1, d2, d3⟩ := h
  have hwM : w < fb_ct B N := by omega
  obtain ⟨p1, p2, p3⟩ := kp_spec hwM
  obtain ⟨c1, c2⟩ := (IN_iff hT hv hwM).mp ⟨d1, hw⟩
  have hv0 := d2 v (Nat.le_refl _) (by omega)
  have nd : ∀ k, kp B N v ≤ k → k < sh B N (kp B N v) → B k = true → kp B N (fb_ct B k) = k ∧ v ≤ fb_ct B k ∧ fb_ct B k < v + sz B N v := by
    intro k k1 k2 k3
    obtain ⟨e1, e2⟩ := kp_ct' (show k < N by omega) k3
    have := (IN_iff hT hv e2).mpr (by rw [e1]; exact ⟨k1, k2⟩)
    exact ⟨e1, this.1, this.2⟩
  have up : ∀ n, kp B N v + n ≤ sh B N (kp B N v) → ex B (kp B N v + n) ≤ ex B (kp B N w) + 1 := by
    intro n
    induction n with
    | zero => intro _; rw [Nat.add_zero]; omega
    | succ n ih =>
      intro hn
      have ih := ih (by omega)
      cases hb : B (kp B N v + n) with
      | true =>
        obtain ⟨e1, e2, e3⟩ := nd _ (by omega) (by omega) hb
        have := d2 _ e2 e3
        rw [e1] at this
        have := ex_t hb
        rw [← Nat.add_assoc]; omega
      | false => have := ex_f hb; rw [← Nat.add_assoc]; omega
  have up2 : ∀ n, kp B N v + n ≤ kp B N w → ex B (kp B N v + n) ≤ ex B (kp B N w) := by
    intro n
    induction n with
    | zero => intro _; rw [Nat.add_zero]; omega
    | succ n ih =>
      intro hn
      have ih := ih (by omega)
      cases hb : B (kp B N v + n) with
      | true =>
        obtain ⟨e1, e2, e3⟩ := nd _ (by omega) (by omega) hb
        have hlt : fb_ct B (kp B N v + n) < w := by
          have := fb_ct_mono B (show kp B N v + n + 1 ≤ kp B N w by omega)
          rw [fb_ct_succ, if_pos hb, p3] at this
          omega
        have := d3 _ e2 hlt
        rw [e1] at this
        have := ex_t hb
        rw [← Nat.add_assoc]; omega
      | false => have := ex_f hb; rw [← Nat.add_assoc]; omega
  refine ⟨⟨⟨kp B N w + 1, by omega, by omega, ex_t p2⟩, fun q q1 q2 => ?_⟩, fun k k1 k2 => ?_⟩
  · have := up (q - kp B N v) (by omega)
    rw [show kp B N v + (q - kp B N v) = q by omega] at this; exact this
  · have := up2 (k - kp B N v) (by omega)
    rw [show kp B N v + (k - kp B N v) = k by omega] at this; omega
theorem x_deepestOf {low high : Int64} {N : Nat} {g lo hi : Nat → Int32} (hX : XT low high N g lo hi) {v : Nat} (hv : v < fb_ct (bb low high) N) {post : Int32 → Prop} (h : ∀ u, u < v + sz (bb low high) N v → IsDp (bb low high) N v (v + sz (bb low high) N v) u → post (nI u)) : wX4_deepestOf low high (nI N) g lo hi (nI v) post := by
  have hN := hX.1.1
  obtain ⟨o1, o2, o3⟩ := kp_spec hv
  obtain ⟨z1, z2, z3, z4⟩ := sz_eq hX.1 hv
  have hs := sh_spec hX.1 o1 o2
  obtain ⟨u, u1, u2⟩ := IsDp_ex (bb low high) N v (sz (bb low high) N v) z2
  obtain ⟨m1, m2⟩ := dp_max hX.1 hv u1 u2
  obtain ⟨p1, p2, p3⟩ := kp_spec (S := (bb low high)) (N := N) (k := u) (by omega)
  obtain ⟨c1, c2⟩ := (IN_iff hX.1 hv (show u < fb_ct (bb low high) N by omega)).mp ⟨u2.1, u1⟩
  have e1 := ex_t p2
  unfold wX4_deepestOf
  refine x_openOf hX hv ?_
  refine x_closeOf' hX.2.2 hX.1 o1 o2 ?_
  refine x_extremeMx hX.2.2 hN (by omega) (by omega) (fun m hm => ?_)
  have em := hm.one m1
  subst em
  refine x_firstWith hX.2.2 hN (by omega) (fun e => ?_) (fun e r hr => ?_)
  · rw [iI_t (by omega)] at e
    have := m2 _ (Nat.le_refl _) c1
    omega
  · rw [iI_t (by omega)] at hr
    have e2 : r = nI (kp (bb low high) N u + 1) := hr.one (Or.inl ⟨kp (bb low high) N u + 1, by omega, by omega, e1, fun k k1 k2 => by have := m2 k (by omega) (by omega); omega, rfl⟩)
    rw [e2, nI_pred]
    refine x_opensAhead (by omega) ?_
    rw [p3]
    exact h u u1 u2
theorem x_meetingOf {low high : Int64} {N : Nat} {g lo hi : Nat → Int32} (hX : XT low high N g lo hi) {u v z : Nat} (hu : u < fb_ct (bb low high) N) (hv : v < fb_ct (bb low high) N) (hz : IsMt (bb low high) (min (kp (bb low high) N u) (kp (bb low high) N v)) (max (kp (bb low high) N u) (kp (bb low high) N v)) z) {post : Int32 → Prop} (h : post (nI (fb_ct (bb low high) z))) : wX4_meetingOf low high (nI N) g lo hi (nI u) (nI v) post := by
  have hN := hX.1.1
  have hcN := fb_ct_le (bb low high) N
  have mono : ∀ {a b : Nat}, a ≤ b → b < fb_ct (bb low high) N → kp (bb low high) N a ≤ kp (bb low high) N b := by
    intro a b hab hb
    rcases Nat.eq_or_lt_of_le hab with e | e
    · rw [e]; exact Nat.le_refl _
    · exact Nat.le_of_lt (kp_lt e (Nat.le_of_lt hb))
  have key : ∀ a b, a < fb_ct (bb low high) N → b < fb_ct (bb low high) N → a ≤ b → IsMt (bb low high) (kp (bb low high) N a) (kp (bb low high) N b) z → (wX4_openOf low high (nI N) (nI a) (fun r_1 => ∀ x_2, x_2 = r_1 + 1 → wX4_openOf low high (nI N) (nI b) (fun r_3 => ∀ x_4, x_4 = r_3 + 1 → wX1_extremeIn low high g lo hi x_2 x_4 0 (fun r_5 => ∀ x_6, x_6 = r_5 - 1 → wX1_searchBack low high g lo hi x_2 x_6 (fun r_7 => wX1_opensAhead low high r_7 (fun r_8 => post r_8)))))) := by
    intro a b ha hb hab hz
    obtain ⟨o1, o2, o3⟩ := kp_spec ha
    obtain ⟨p1, p2, p3⟩ := kp_spec hb
    have hk := mono hab hb
    refine x_openOf hX ha ?_
    rintro _ rfl
    refine x_openOf hX hb ?_
    rintro _ rfl
    rw [nI_1, nI_1]
    refine x_extremeMn hX.2.2 hN (by omega) (by omega) (fun m hm => ?_)
    have hbd := hm.bd
    rintro _ rfl
    rw [iI_s1]
    refine x_searchBack hX.2.2 hN (by omega) (fun r hr => ?_)
    rw [iI_toInt (by omega) (by omega)] at hr
    obtain ⟨y1, y2, k0, y3, y4, y5⟩ := hz
    have em : m = ex (bb low high) z + 1 := by
      obtain ⟨⟨c, c1, c2, c3⟩, hc⟩ := hm
      have h1 := hc k0 (by omega) (by omega)
      have h2 : ex (bb low high) z < ex (bb low high) c := by
        rcases Nat.lt_or_ge (kp (bb low high) N b) c with w | w
        · rw [show c = kp (bb low high) N b + 1 by omega, ex_t p2]
          rcases Nat.lt_or_ge z (kp (bb low high) N b) with w2 | w2
          · have := y2 _ w2 (Nat.le_refl _); omega
          · rw [show z = kp (bb low high) N b by omega]; omega
        · exact y2 c (by omega) w
      omega
    have er : r = nI z := hr.one (Or.inl ⟨z, by omega, by omega, fun k k1 k2 => by have := y2 k k1 (by omega); omega, rfl⟩)
    rw [er]
    exact x_opensAhead (by omega) h
  unfold wX4_meetingOf
  have lt1 := nI_ltI (show v < 2 ^ 31 by omega) (show u < 2 ^ 31 by omega)
  have lt2 := nI_ltI (show u < 2 ^ 31 by omega) (show v < 2 ^ 31 by omega)
  rcases Nat.lt_trichotomy u v with c | c | c
  · rw [if_neg (by rw [lt1]; omega), if_pos (lt2.mpr c)]
    have := mono (Nat.le_of_lt c) hv
    rw [Nat.min_eq_left this, Nat.max_eq_right this] at hz
    exact key u v hu hv (by omega) hz
  · subst c
    rw [if_neg (by rw [lt1]; omega)]
    rw [Nat.min_self, Nat.max_self] at hz
    exact key u u hu hu (by omega) hz
  · rw [if_pos (lt1.mpr c), if_neg (by rw [lt2]; omega)]
    have := mono (Nat.le_of_lt c) hu
    rw [Nat.min_eq_right this, Nat.max_eq_left this] at hz
    exact key v u hv hu (by omega) hz
theorem ct_shut {B : Nat → Bool} {N p : Nat} (hp : p ≤ N) : fb_ct (SG B N 1) p = p - fb_ct B p := by
  have h1 : fb_ct (SG B N 1) p = fb_ct (fun k => !B k) p := fb_ct_cong (fun k hk => by rw [SG1, decide_eq_true (show k < N by omega), Bool.and_true])
  have h2 := fb_ct_not B p
  omega
theorem t_x1 {A C : Prop} (h : C) : (¬ (1 : Int32) = 1 → A) ∧ ((1 : Int32) = 1 → C) := ⟨fun z => absurd rfl z, fun _ => h⟩
theorem o_node {low high : Int64} {N : Nat} {g lo hi st w : Nat → Int32} (hX : XT low high N g lo hi) (hM : MT st (bb low high) N w) {p s : Int32} {Q : Prop} (hQ : Q) : wX5_node low high (nI N) g lo hi p s (fun r1 => wX6_node st p s (fun r2 => r1 = r2 ∧ Q)) := by
  have hN := hX.1.1
  have h2 := hX.1.two
  have h64 := hM.m64 hX.1
  unfold wX5_node
  rcases node_or p (fb_ct (bb low high) N) with ⟨v, hv, rfl⟩ | c
  · obtain ⟨o1, o2, o3⟩ := kp_spec hv
    have hs := sh_spec hX.1 o1 o2
    refine x_has_y hX hv (t1b ⟨?_, ?_, ?_, ?_, ?_, ?_, ?_, ?_, ?_, ?_, ?_, ?_, ?_, ?_, ?_⟩)
    · rintro rfl
      refine x_openOf hX hv ?_
      unfold wX6_node
      refine m_node1 hM.2.1 h64 hv (t1b ⟨fun _ => ?_, fun z => absurd z (by decide), fun z => absurd z (by decide), fun z => absurd z (by decide), fun z => absurd z (by decide), fun z => absurd z (by decide), fun z => absurd z (by decide), fun z => absurd z (by decide), fun z => absurd z (by decide), fun z => absurd z (by decide), fun z => absurd z (by decide), fun z => absurd z (by decide), fun z => absurd z (by decide), fun z => absurd z (by decide), fun z => absurd rfl z⟩)
      unfold wX6_placeAsked
      refine m_openOf hM.1 hN hv (t0b ⟨rfl, hQ⟩)
    · rintro rfl
      refine x_closeOf hX hv ?_
      unfold wX6_node
      refine m_node1 hM.2.1 h64 hv (t1b ⟨fun z => absurd z (by decide), fun _ => ?_, fun z => absurd z (by decide), fun z => absurd z (by decide), fun z => absurd z (by decide), fun z => absurd z (by decide), fun z => absurd z (by decide), fun z => absurd z (by decide), fun z => absurd z (by decide), fun z => absurd z (by decide), fun z => absurd z (by decide), fun z => absurd z (by decide), fun z => absurd z (by decide), fun z => absurd z (by decide), fun _ z => absurd rfl z⟩)
      unfold wX6_placeAsked
      refine m_openOf hM.1 hN hv (t1b (t_x1 (m_shutOf hM.1 hX.1 o1 o2 ⟨rfl, hQ⟩)))
    · rintro rfl
      refine x_depthOf hX hv ?_
      unfold wX6_node
      refine m_node1 hM.2.1 h64 hv (t1b ⟨fun z => absurd z (by decide), fun z => absurd z (by decide), fun _ => ?_, fun z => absurd z (by decide), fun z => absurd z (by decide), fun z => absurd z (by decide), fun z => absurd z (by decide), fun z => absurd z (by decide), fun z => absurd z (by decide), fun z => absurd z (by decide), fun z => absurd z (by decide), fun z => absurd z (by decide), fun z => absurd z (by decide), fun z => absurd z (by decide), fun _ _ z => absurd rfl z⟩)
      unfold wX6_placeAsked
      refine m_openOf hM.1 hN hv ⟨fun _ => ⟨fun _ => m_excessAt hM.1 (by omega) hN ⟨rfl, hQ⟩, fun z => absurd z (by decide)⟩, fun z => absurd z (by decide)⟩
    · rintro rfl
      refine x_aboveBy (k := 1) hX hv (by omega) (fun q' hq' => ?_) (fun hz => ?_)
      · unfold wX6_node
        refine m_node1 hM.2.1 h64 hv (t1b ⟨fun z => absurd z (by decide), fun z => absurd z (by decide), fun z => absurd z (by decide), fun _ => ?_, fun z => absurd z (by decide), fun z => absurd z (by decide), fun z => absurd z (by decide), fun z => absurd z (by decide), fun z => absurd z (by decide), fun z => absurd z (by decide), fun z => absurd z (by decide), fun z => absurd z (by decide), fun z => absurd z (by decide), fun z => absurd z (by decide), fun _ _ _ z => absurd rfl z⟩)
        refine m_upFrom (k := 1) hM.1 hX.1 hv (by omega) (fun q2 hq2 => ⟨by rw [hq'.one hq2], hQ⟩) (fun hz => ?_)
        have := hq'.2.1
        have := hX.1.nn (show q' ≤ N by have := hq'.1; omega)
        omega
      · unfold wX6_node
        refine m_node1 hM.2.1 h64 hv (t1b ⟨fun z => absurd z (by decide), fun z => absurd z (by decide), fun z => absurd z (by decide), fun _ => ?_, fun z => absurd z (by decide), fun z => absurd z (by decide), fun z => absurd z (by decide), fun z => absurd z (by decide), fun z => absurd z (by decide), fun z => absurd z (by decide), fun z => absurd z (by decide), fun z => absurd z (by decide), fun z => absurd z (by decide), fun z => absurd z (by decide), fun _ _ _ z => absurd rfl z⟩)
        refine m_upFrom (k := 1) hM.1 hX.1 hv (by omega) (fun q2 hq2 => ?_) (fun _ => ⟨rfl, hQ⟩)
        have := hq2.2.1
        have := hX.1.nn (show q2 ≤ N by have := hq2.1; omega)
        omega
    · rintro rfl
      refine x_firstChildOf hX hv (fun c => ?_) (fun c => ?_)
      · unfold wX6_node
        refine m_node1 hM.2.1 h64 hv (t1b ⟨fun z => absurd z (by decide), fun z => absurd z (by decide), fun z => absurd z (by decide), fun z => absurd z (by decide), fun _ => ?_, fun z => absurd z (by decide), fun z => absurd z (by decide), fun z => absurd z (by decide), fun z => absurd z (by decide), fun z => absurd z (by decide), fun z => absurd z (by decide), fun z => absurd z (by decide), fun z => absurd z (by decide), fun z => absurd z (by decide), fun _ _ _ _ z => absurd rfl z⟩)
        exact m_childOf (i := 0) hM.1 hX.1 hv (by omega) (fun _ => ⟨rfl, hQ⟩) (fun z => by omega)
      · unfold wX6_node
        refine m_node1 hM.2.1 h64 hv (t1b ⟨fun z => absurd z (by decide), fun z => absurd z (by decide), fun z => absurd z (by decide), fun z => absurd z (by decide), fun _ => ?_, fun z => absurd z (by decide), fun z => absurd z (by decide), fun z => absurd z (by decide), fun z => absurd z (by decide), fun z => absurd z (by decide), fun z => absurd z (by decide), fun z => absurd z (by decide), fun z => absurd z (by decide), fun z => absurd z (by decide), fun _ _ _ _ z => absurd rfl z⟩)
        exact m_childOf (i := 0) hM.1 hX.1 hv (by omega) (fun z => by omega) (fun _ => ⟨rfl, hQ⟩)
    · rintro rfl
      have hcb : cn (bb low high) N (kp (bb low high) N v) < 2147483648 := by unfold cn; have := fb_ct_le (CQ (bb low high) (kp (bb low high) N v)) (sh (bb low high) N (kp (bb low high) N v)); omega
      refine x_lastChildOf hX hv (fun j hj => ?_) (fun c => ?_)
      · unfold wX6_node
        refine m_node1 hM.2.1 h64 hv (t1b ⟨fun z => absurd z (by decide), fun z => absurd z (by decide), fun z => absurd z (by decide), fun z => absurd z (by decide), fun z => absurd z (by decide), fun _ => ?_, fun z => absurd z (by decide), fun z => absurd z (by decide), fun z => absurd z (by decide), fun z => absurd z (by decide), fun z => absurd z (by decide), fun z => absurd z (by decide), fun z => absurd z (by decide), fun z => absurd z (by decide), fun _ _ _ _ _ z => absurd rfl z⟩)
        refine m_childrenOf hM.1 hX.1 hv ?_
        refine ⟨fun _ => ?_, fun z => by rw [hj] at z; exact absurd z (nI_ne0 (by omega) (by omega))⟩
        refine m_childrenOf hM.1 hX.1 hv ?_
        rw [hj, nI_pred]
        exact m_childOf hM.1 hX.1 hv (by omega) (fun _ => ⟨rfl, hQ⟩) (fun z => by omega)
      · unfold wX6_node
        refine m_node1 hM.2.1 h64 hv (t1b ⟨fun z => absurd z (by decide), fun z => absurd z (by decide), fun z => absurd z (by decide), fun z => absurd z (by decide), fun z => absurd z (by decide), fun _ => ?_, fun z => absurd z (by decide), fun z => absurd z (by decide), fun z => absurd z (by decide), fun z => absurd z (by decide), fun z => absurd z (by decide), fun z => absurd z (by decide), fun z => absurd z (by decide), fun z => absurd z (by decide), fun _ _ _ _ _ z => absurd rfl z⟩)
        refine m_childrenOf hM.1 hX.1 hv ?_
        rw [c]
        exact t0b ⟨rfl, hQ⟩
    · rintro rfl
      refine x_nextChildAfter hX hv (fun q' hq' c => ?_) (fun q' hq' c => ?_) (fun c => ?_)
      · unfold wX6_node
        refine m_node1 hM.2.1 h64 hv (t1b ⟨fun z => absurd z (by decide), fun z => absurd z (by decide), fun z => absurd z (by decide), fun z => absurd z (by decide), fun z => absurd z (by decide), fun z => absurd z (by decide), fun _ => ?_, fun z => absurd z (by decide), fun z => absurd z (by decide), fun z => absurd z (by decide), fun z => absurd z (by decide), fun z => absurd z (by decide), fun z => absurd z (by decide), fun z => absurd z (by decide), fun _ _ _ _ _ _ z => absurd rfl z⟩)
        refine m_next hM.1 hX.1 hv (fun q2 hq2 _ => ⟨by rw [hq'.one hq2], hQ⟩) (fun q2 hq2 c2 => by rw [hq'.one hq2] at c; omega) (fun c2 => ?_)
        have := hq'.2.1
        have := hX.1.nn (show q' ≤ N by have := hq'.1; omega)
        omega
      · unfold wX6_node
        refine m_node1 hM.2.1 h64 hv (t1b ⟨fun z => absurd z (by decide), fun z => absurd z (by decide), fun z => absurd z (by decide), fun z => absurd z (by decide), fun z => absurd z (by decide), fun z => absurd z (by decide), fun _ => ?_, fun z => absurd z (by decide), fun z => absurd z (by decide), fun z => absurd z (by decide), fun z => absurd z (by decide), fun z => absurd z (by decide), fun z => absurd z (by decide), fun z => absurd z (by decide), fun _ _ _ _ _ _ z => absurd rfl z⟩)
        refine m_next hM.1 hX.1 hv (fun q2 hq2 c2 => by rw [hq'.one hq2] at c; omega) (fun q2 hq2 c2 => ⟨rfl, hQ⟩) (fun c2 => ?_)
        have := hq'.2.1
        have := hX.1.nn (show q' ≤ N by have := hq'.1; omega)
        omega
      · unfold wX6_node
        refine m_node1 hM.2.1 h64 hv (t1b ⟨fun z => absurd z (by decide), fun z => absurd z (by decide), fun z => absurd z (by decide), fun z => absurd z (by decide), fun z => absurd z (by decide), fun z => absurd z (by decide), fun _ => ?_, fun z => absurd z (by decide), fun z => absurd z (by decide), fun z => absurd z (by decide), fun z => absurd z (by decide), fun z => absurd z (by decide), fun z => absurd z (by decide), fun z => absurd z (by decide), fun _ _ _ _ _ _ z => absurd rfl z⟩)
        refine m_next hM.1 hX.1 hv (fun q' hq' c2 => ?_) (fun q2 hq2 c2 => ⟨rfl, hQ⟩) (fun c2 => ⟨rfl, hQ⟩)
        have := hq'.2.1
        have := hX.1.nn (show q' ≤ N by have := hq'.1; omega)
        omega
    · rintro rfl
      refine x_childBefore hX hv (fun q' j hq' c => ?_) (fun q' hq' c => ?_) (fun c => ?_)
      · unfold wX6_node
        refine m_node1 hM.2.1 h64 hv (t1b ⟨fun z => absurd z (by decide), fun z => absurd z (by decide), fun z => absurd z (by decide), fun z => absurd z (by decide), fun z => absurd z (by decide), fun z => absurd z (by decide), fun z => absurd z (by decide), fun _ => ?_, fun z => absurd z (by decide), fun z => absurd z (by decide), fun z => absurd z (by decide), fun z => absurd z (by decide), fun z => absurd z (by decide), fun z => absurd z (by decide), fun _ _ _ _ _ _ _ z => absurd rfl z⟩)
        refine m_prev hM.1 hX.1 hv (fun q2 j2 hq2 c2 => ?_) (fun q2 hq2 c2 => by rw [hq'.one hq2] at c; omega) (fun c2 => ?_)
        · have e := hq'.one hq2
          subst e
          have e : j = j2 := by omega
          subst e
          exact ⟨rfl, hQ⟩
        have := hq'.2.1
        have := hX.1.nn (show q' ≤ N by have := hq'.1; omega)
        omega
      · unfold wX6_node
        refine m_node1 hM.2.1 h64 hv (t1b ⟨fun z => absurd z (by decide), fun z => absurd z (by decide), fun z => absurd z (by decide), fun z => absurd z (by decide), fun z => absurd z (by decide), fun z => absurd z (by decide), fun z => absurd z (by decide), fun _ => ?_, fun z => absurd z (by decide), fun z => absurd z (by decide), fun z => absurd z (by decide), fun z => absurd z (by decide), fun z => absurd z (by decide), fun z => absurd z (by decide), fun _ _ _ _ _ _ _ z => absurd rfl z⟩)
        refine m_prev hM.1 hX.1 hv (fun q2 j2 hq2 c2 => by rw [hq'.one hq2] at c; omega) (fun q2 hq2 c2 => ⟨rfl, hQ⟩) (fun c2 => ?_)
        have := hq'.2.1
        have := hX.1.nn (show q' ≤ N by have := hq'.1; omega)
        omega
      · unfold wX6_node
        refine m_node1 hM.2.1 h64 hv (t1b ⟨fun z => absurd z (by decide), fun z => absurd z (by decide), fun z => absurd z (by decide), fun z => absurd z (by decide), fun z => absurd z (by decide), fun z => absurd z (by decide), fun z => absurd z (by decide), fun _ => ?_, fun z => absurd z (by decide), fun z => absurd z (by decide), fun z => absurd z (by decide), fun z => absurd z (by decide), fun z => absurd z (by decide), fun z => absurd z (by decide), fun _ _ _ _ _ _ _ z => absurd rfl z⟩)
        refine m_prev hM.1 hX.1 hv (fun q' j2 hq' c2 => ?_) (fun q2 hq2 c2 => ⟨rfl, hQ⟩) (fun c2 => ⟨rfl, hQ⟩)
        have := hq'.2.1
        have := hX.1.nn (show q' ≤ N by have := hq'.1; omega)
        omega
    · rintro rfl
      refine x_childrenOf hX hv ?_
      unfold wX6_node
      refine m_node1 hM.2.1 h64 hv (t1b ⟨fun z => absurd z (by decide), fun z => absurd z (by decide), fun z => absurd z (by decide), fun z => absurd z (by decide), fun z => absurd z (by decide), fun z => absurd z (by decide), fun z => absurd z (by decide), fun z => absurd z (by decide), fun _ => ?_, fun z => absurd z (by decide), fun z => absurd z (by decide), fun z => absurd z (by decide), fun z => absurd z (by decide), fun z => absurd z (by decide), fun _ _ _ _ _ _ _ _ z => absurd rfl z⟩)
      exact m_childrenOf hM.1 hX.1 hv ⟨rfl, hQ⟩
    · rintro rfl
      refine x_nodesOf hX hv ?_
      unfold wX6_node
      refine m_node1 hM.2.1 h64 hv (t1b ⟨fun z => absurd z (by decide), fun z => absurd z (by decide), fun z => absurd z (by decide), fun z => absurd z (by decide), fun z => absurd z (by decide), fun z => absurd z (by decide), fun z => absurd z (by decide), fun z => absurd z (by decide), fun z => absurd z (by decide), fun _ => ?_, fun z => absurd z (by decide), fun z => absurd z (by decide), fun z => absurd z (by decide), fun z => absurd z (by decide), fun _ _ _ _ _ _ _ _ _ z => absurd rfl z⟩)
      exact m_sizeOf hM.1 hX.1 hv ⟨rfl, hQ⟩
    · rintro rfl
      refine x_leavesOf hX hv ?_
      unfold wX6_node
      refine m_node1 hM.2.1 h64 hv (t1b ⟨fun z => absurd z (by decide), fun z => absurd z (by decide), fun z => absurd z (by decide), fun z => absurd z (by decide), fun z => absurd z (by decide), fun z => absurd z (by decide), fun z => absurd z (by decide), fun z => absurd z (by decide), fun z => absurd z (by decide), fun z => absurd z (by decide), fun _ => ?_, fun z => absurd z (by decide), fun z => absurd z (by decide), fun z => absurd z (by decide), fun _ _ _ _ _ _ _ _ _ _ z => absurd rfl z⟩)
      exact m_leavesOf hM.1 hX.1 hv ⟨rfl, hQ⟩
    · rintro rfl
      refine x_heightOf hX hv (fun m hm => ?_)
      unfold wX6_node
      refine m_node1 hM.2.1 h64 hv (t1b ⟨fun z => absurd z (by decide), fun z => absurd z (by decide), fun z => absurd z (by decide), fun z => absurd z (by decide), fun z => absurd z (by decide), fun z => absurd z (by decide), fun z => absurd z (by decide), fun z => absurd z (by decide), fun z => absurd z (by decide), fun z => absurd z (by decide), fun z => absurd z (by decide), fun _ => ?_, fun z => absurd z (by decide), fun z => absurd z (by decide), fun _ _ _ _ _ _ _ _ _ _ _ z => absurd rfl z⟩)
      refine m_deepestOf hM.1 hX.1 hv (fun u u1 u2 => ?_)
      have hz := sz_eq hX.1 hv
      refine m_depthOf hM.1 hN (by omega) ?_
      refine m_depthOf hM.1 hN hv ?_
      rw [iI_sub, hm.one (dp_max hX.1 hv u1 u2).1]
      exact ⟨by congr 1; omega, hQ⟩
    · rintro rfl
      refine x_closeOf hX hv ?_
      rw [nI_iI (sh (bb low high) N (kp (bb low high) N v))]
      refine x_signsAhead (w := 1) hN (by omega) (by omega) (by omega) ?_
      rw [Int.toNat_natCast, ct_shut (by omega)]
      unfold wX6_node
      refine m_node1 hM.2.1 h64 hv (t1b ⟨fun z => absurd z (by decide), fun z => absurd z (by decide), fun z => absurd z (by decide), fun z => absurd z (by decide), fun z => absurd z (by decide), fun z => absurd z (by decide), fun z => absurd z (by decide), fun z => absurd z (by decide), fun z => absurd z (by decide), fun z => absurd z (by decide), fun z => absurd z (by decide), fun z => absurd z (by decide), fun _ => ?_, fun z => absurd z (by decide), fun _ _ _ _ _ _ _ _ _ _ _ _ z => absurd rfl z⟩)
      exact m_fromBelow hM.1 hX.1 hv ⟨rfl, hQ⟩
    · rintro rfl
      refine x_orderOf hX hv (fun q' hq' => ?_) (fun c => ?_)
      · unfold wX6_node
        refine m_node1 hM.2.1 h64 hv (t1b ⟨fun z => absurd z (by decide), fun z => absurd z (by decide), fun z => absurd z (by decide), fun z => absurd z (by decide), fun z => absurd z (by decide), fun z => absurd z (by decide), fun z => absurd z (by decide), fun z => absurd z (by decide), fun z => absurd z (by decide), fun z => absurd z (by decide), fun z => absurd z (by decide), fun z => absurd z (by decide), fun z => absurd z (by decide), fun _ => ?_, fun _ _ _ _ _ _ _ _ _ _ _ _ _ z => absurd rfl z⟩)
        refine m_whichOf hM.1 hX.1 hv (fun q2 hq2 => ⟨by rw [hq'.one hq2], hQ⟩) (fun c2 => ?_)
        have := hq'.2.1
        have := hX.1.nn (show q' ≤ N by have := hq'.1; omega)
        omega
      · unfold wX6_node
        refine m_node1 hM.2.1 h64 hv (t1b ⟨fun z => absurd z (by decide), fun z => absurd z (by decide), fun z => absurd z (by decide), fun z => absurd z (by decide), fun z => absurd z (by decide), fun z => absurd z (by decide), fun z => absurd z (by decide), fun z => absurd z (by decide), fun z => absurd z (by decide), fun z => absurd z (by decide), fun z => absurd z (by decide), fun z => absurd z (by decide), fun z => absurd z (by decide), fun _ => ?_, fun _ _ _ _ _ _ _ _ _ _ _ _ _ z => absurd rfl z⟩)
        refine m_whichOf hM.1 hX.1 hv (fun q' hq' => ?_) (fun c2 => ⟨rfl, hQ⟩)
        have := hq'.2.1
        have := hX.1.nn (show q' ≤ N by have := hq'.1; omega)
        omega
    · intro n0 n1 n2 n3 n4 n5 n6 n7 n8 n9 n10 n11 n12 n13
      unfold wX6_node
      refine m_node1 hM.2.1 h64 hv (t1b ⟨fun z => absurd z n0, fun z => absurd z n1, fun z => absurd z n2, fun z => absurd z n3, fun z => absurd z n4, fun z => absurd z n5, fun z => absurd z n6, fun z => absurd z n7, fun z => absurd z n8, fun z => absurd z n9, fun z => absurd z n10, fun z => absurd z n11, fun z => absurd z n12, fun z => absurd z n13, fun _ _ _ _ _ _ _ _ _ _ _ _ _ _ => ⟨rfl, hQ⟩⟩)
  · refine x_has_n hX c (t0b ?_)
    unfold wX6_node
    exact m_node_n hM.2.1 h64 c (t0b ⟨rfl, hQ⟩)
theorem o_child {low high : Int64} {N : Nat} {g lo hi st w : Nat → Int32} (hX : XT low high N g lo hi) (hM : MT st (bb low high) N w) {p s : Int32} {Q : Prop} (hQ : Q) : wX5_child low high (nI N) g lo hi p s (fun r1 => wX6_child st p s (fun r2 => r1 = r2 ∧ Q)) := by
  have h64 := hM.m64 hX.1
  unfold wX5_child
  rcases node_or p (fb_ct (bb low high) N) with ⟨v, hv, rfl⟩ | c
  · refine x_has_y hX hv (t1a ⟨fun c => ?_, fun c => ?_⟩)
    · obtain ⟨i, i1, rfl⟩ := nI_of (x := s) (fun z => by rw [neg_iff] at z; rw [Int32.le_iff_toInt_le] at c; have c : (0 : Int) ≤ s.toInt := c; omega)
      refine x_childAt hX hv i1 (fun c1 => ?_) (fun c1 => ?_)
      · unfold wX6_child
        exact m_node1 hM.2.1 h64 hv (t1a ⟨fun _ => m_childOf hM.1 hX.1 hv i1 (fun _ => ⟨rfl, hQ⟩) (fun z => by omega), fun z => absurd c z⟩)
      · unfold wX6_child
        exact m_node1 hM.2.1 h64 hv (t1a ⟨fun _ => m_childOf hM.1 hX.1 hv i1 (fun z => by omega) (fun _ => ⟨rfl, hQ⟩), fun z => absurd c z⟩)
    · unfold wX6_child
      exact m_node1 hM.2.1 h64 hv (t1a ⟨fun z => absurd z c, fun _ => ⟨rfl, hQ⟩⟩)
  · refine x_has_n hX c (t0a ?_)
    unfold wX6_child
    exact m_node_n hM.2.1 h64 c (t0a ⟨rfl, hQ⟩)
theorem o_up {low high : Int64} {N : Nat} {g lo hi st w : Nat → Int32} (hX : XT low high N g lo hi) (hM : MT st (bb low high) N w) {p s : Int32} {Q : Prop} (hQ : Q) : wX5_up low high (nI N) g lo hi p s (fun r1 => wX6_up st p s (fun r2 => r1 = r2 ∧ Q)) := by
  have h64 := hM.m64 hX.1
  unfold wX5_up
  rcases node_or p (fb_ct (bb low high) N) with ⟨v, hv, rfl⟩ | c
  · obtain ⟨o1, o2, o3⟩ := kp_spec hv
    refine x_has_y hX hv (t1a ⟨fun c => ?_, fun c => ?_⟩)
    · obtain ⟨i, i1, rfl⟩ := nI_of (x := s) (fun z => by rw [neg_iff] at z; rw [Int32.le_iff_toInt_le] at c; have c : (0 : Int) ≤ s.toInt := c; omega)
      refine x_aboveBy hX hv i1 (fun q' hq' => ?_) (fun c1 => ?_)
      · unfold wX6_up
        refine m_node1 hM.2.1 h64 hv (t1a ⟨fun _ => m_upFrom hM.1 hX.1 hv i1 (fun q2 hq2 => ⟨by rw [hq'.one hq2], hQ⟩) (fun z => ?_), fun z => absurd c z⟩)
        have := hq'.2.1
        have := hX.1.nn (show q' ≤ N by have := hq'.1; omega)
        omega
      · unfold wX6_up
        refine m_node1 hM.2.1 h64 hv (t1a ⟨fun _ => m_upFrom hM.1 hX.1 hv i1 (fun q' hq' => ?_) (fun _ => ⟨rfl, hQ⟩), fun z => absurd c z⟩)
        have := hq'.2.1
        have := hX.1.nn (show q' ≤ N by have := hq'.1; omega)
        omega
    · unfold wX6_up
      exact m_node1 hM.2.1 h64 hv (t1a ⟨fun z => absurd z c, fun _ => ⟨rfl, hQ⟩⟩)
  · refine x_has_n hX c (t0a ?_)
    unfold wX6_up
    exact m_node_n hM.2.1 h64 c (t0a ⟨rfl, hQ⟩)
theorem mt_of {B : Nat → Bool} {N u v : Nat} (hT : Tr B N) (hu : u < fb_ct B N) (hv : v < fb_ct B N) : ∃ z, IsMt B (min (kp B N u) (kp B N v)) (max (kp B N u) (kp B N v)) z ∧ z < N ∧ B z = true := by
  obtain ⟨o1, o2, o3⟩ := kp_spec hu
  obtain ⟨p1, p2, p3⟩ := kp_spec hv
  have hm : B (max (kp B N u) (kp B N v)) = true := by
    rcases Nat.le_total (kp B N u) (kp B N v) with w3 | w3
    · rw [Nat.max_eq_right w3]; exact p2
    · rw [Nat.max_eq_left w3]; exact o2
  obtain ⟨z, hz⟩ := IsMt_ex hT (show min (kp B N u) (kp B N v) ≤ max (kp B N u) (kp B N v) by omega) (by omega) hm
  refine ⟨z, hz, by have := hz.1; omega, ?_⟩
  obtain ⟨y1, y2, _⟩ := hz
  rcases Nat.lt_or_ge z (max (kp B N u) (kp B N v)) with w | w
  · have h1 := y2 (z + 1) (by omega) (by omega)
    cases hb : B z with
    | true => rfl
    | false => have := ex_f hb; omega
  · rw [show z = kp B N u by omega]; exact o2
theorem o_meet {low high : Int64} {N : Nat} {g lo hi st w : Nat → Int32} (hX : XT low high N g lo hi) (hM : MT st (bb low high) N w) {p s : Int32} {Q : Prop} (hQ : Q) : wX5_meet low high (nI N) g lo hi p s (fun r1 => wX6_meet st p s (fun r2 => r1 = r2 ∧ Q)) := by
  have h64 := hM.m64 hX.1
  unfold wX5_meet
  rcases node_or p (fb_ct (bb low high) N) with ⟨u, hu, rfl⟩ | c
  · refine x_has_y hX hu (t1a ?_)
    rcases node_or s (fb_ct (bb low high) N) with ⟨v, hv, rfl⟩ | c
    · refine x_has_y hX hv (t1b ?_)
      obtain ⟨z, hz, z1, z2⟩ := mt_of hX.1 hu hv
      refine x_meetingOf hX hu hv hz ?_
      unfold wX6_meet
      exact m_node1 hM.2.1 h64 hu (t1a (m_node1 hM.2.1 h64 hv (t1a (m_meetOf hM.1 hX.1 hu hv hz ⟨rfl, hQ⟩))))
    · refine x_has_n hX c (t0b ?_)
      unfold wX6_meet
      exact m_node1 hM.2.1 h64 hu (t1a (m_node_n hM.2.1 h64 c (t0a ⟨rfl, hQ⟩)))
  · refine x_has_n hX c (t0a ?_)
    unfold wX6_meet
    exact m_node_n hM.2.1 h64 c (t0a ⟨rfl, hQ⟩)
theorem o_way {low high : Int64} {N : Nat} {g lo hi st w : Nat → Int32} (hX : XT low high N g lo hi) (hM : MT st (bb low high) N w) {p s : Int32} {Q : Prop} (hQ : Q) : wX5_way low high (nI N) g lo hi p s (fun r1 => wX6_way st p s (fun r2 => r1 = r2 ∧ Q)) := by
  have hN := hX.1.1
  have h64 := hM.m64 hX.1
  unfold wX5_way
  rcases node_or p (fb_ct (bb low high) N) with ⟨u, hu, rfl⟩ | c
  · refine x_has_y hX hu (t1a ?_)
    rcases node_or s (fb_ct (bb low high) N) with ⟨v, hv, rfl⟩ | c
    · refine x_has_y hX hv (t1b ?_)
      obtain ⟨z, hz, z1, z2⟩ := mt_of hX.1 hu hv
      obtain ⟨k1, k2⟩ := kp_ct' z1 z2
      refine x_depthOf hX hu (x_depthOf hX hv (x_meetingOf hX hu hv hz (x_depthOf hX k2 ?_)))
      unfold wX6_way
      exact m_node1 hM.2.1 h64 hu (t1a (m_node1 hM.2.1 h64 hv (t1a (m_depthOf hM.1 hN hu (m_depthOf hM.1 hN hv (m_meetOf hM.1 hX.1 hu hv hz (m_depthOf hM.1 hN k2 ⟨rfl, hQ⟩)))))))
    · refine x_has_n hX c (t0b ?_)
      unfold wX6_way
      exact m_node1 hM.2.1 h64 hu (t1a (m_node_n hM.2.1 h64 c (t0a ⟨rfl, hQ⟩)))
  · refine x_has_n hX c (t0a ?_)
    unfold wX6_way
    exact m_node_n hM.2.1 h64 c (t0a ⟨rfl, hQ⟩)
theorem o_deepest {low high : Int64} {N : Nat} {g lo hi st w : Nat → Int32} (hX : XT low high N g lo hi) (hM : MT st (bb low high) N w) {p : Int32} {Q : Prop} (hQ : Q) : wX5_deepest low high (nI N) g lo hi p (fun r1 => wX6_deepest st p (fun r2 => r1 = r2 ∧ Q)) := by
  have h64 := hM.m64 hX.1
  unfold wX5_deepest
  rcases node_or p (fb_ct (bb low high) N) with ⟨u, hu, rfl⟩ | c
  · refine x_has_y hX hu (t1a (x_deepestOf hX hu (fun a a1 a2 => ?_)))
    unfold wX6_deepest
    exact m_node1 hM.2.1 h64 hu (t1a (m_deepestOf hM.1 hX.1 hu (fun b b1 b2 => ⟨by rw [a2.one b2 a1 b1], hQ⟩)))
  · refine x_has_n hX c (t0a ?_)
    unfold wX6_deepest
    exact m_node_n hM.2.1 h64 c (t0a ⟨rfl, hQ⟩)
