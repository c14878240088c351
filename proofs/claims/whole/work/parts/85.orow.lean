/-! the row: both sides -/
theorem t1a {A C : Prop} (h : C) : ((1 : Int32) = 0 → A) ∧ (¬ (1 : Int32) = 0 → C) := ⟨fun z => absurd z (by decide), fun _ => h⟩
theorem t1b {A C : Prop} (h : A) : (¬ (1 : Int32) = 0 → A) ∧ ((1 : Int32) = 0 → C) := ⟨fun _ => h, fun z => absurd z (by decide)⟩
theorem t0a {A C : Prop} (h : A) : ((0 : Int32) = 0 → A) ∧ (¬ (0 : Int32) = 0 → C) := ⟨fun _ => h, fun z => absurd rfl z⟩
theorem t0b {A C : Prop} (h : C) : (¬ (0 : Int32) = 0 → A) ∧ ((0 : Int32) = 0 → C) := ⟨fun z => absurd rfl z, fun _ => h⟩
theorem upto (p : Int32) (n : Nat) : (∃ j, j ≤ n ∧ p = nI j) ∨ (p.toInt < 0 ∨ (n : Int) < p.toInt) := by
  rcases Int.lt_or_le p.toInt 0 with z | z
  · exact Or.inr (Or.inl z)
  · rcases Int.lt_or_le (n : Int) p.toInt with y | y
    · exact Or.inr (Or.inr y)
    · refine Or.inl ⟨p.toInt.toNat, by omega, ?_⟩
      rw [nI_iI, Int.toNat_of_nonneg z]; exact iI_self p
theorem x_within {p a b : Int32} {post : Int32 → Prop} (h1 : a.toInt ≤ p.toInt → p.toInt ≤ b.toInt → post 1) (h0 : ¬ (a.toInt ≤ p.toInt ∧ p.toInt ≤ b.toInt) → post 0) : wX5_within p a b post := by
  unfold wX5_within
  rw [Int32.lt_iff_toInt_lt, Int32.lt_iff_toInt_lt]
  exact ⟨fun c => h0 (by omega), fun c => ⟨fun c2 => h0 (by omega), fun c2 => h1 (by omega) (by omega)⟩⟩
theorem x_pt_y {N j : Nat} (hN : N ≤ 128) (h : j ≤ N) {post : Int32 → Prop} (h1 : post 1) : wX5_isPoint (nI N) (nI j) post := by
  unfold wX5_isPoint
  refine x_within (fun _ _ => ⟨nzb1, h1⟩) (fun c => ?_)
  rw [nI_toInt (by omega), nI_toInt (by omega), show (0 : Int32).toInt = 0 from rfl] at c
  omega
theorem x_pt_n {N : Nat} {p : Int32} (hN : N ≤ 128) (h : p.toInt < 0 ∨ (N : Int) < p.toInt) {post : Int32 → Prop} (h1 : post 0) : wX5_isPoint (nI N) p post := by
  unfold wX5_isPoint
  refine x_within (fun c1 c2 => ?_) (fun _ => ⟨nzb0, h1⟩)
  rw [nI_toInt (by omega)] at c2
  rw [show (0 : Int32).toInt = 0 from rfl] at c1
  omega
theorem x_pl_y {N j : Nat} (hN : N ≤ 128) (h : j < N) {post : Int32 → Prop} (h1 : post 1) : wX5_isPlace (nI N) (nI j) post := by
  unfold wX5_isPlace
  refine x_within (fun _ _ => ⟨nzb1, h1⟩) (fun c => ?_)
  rw [nI_iI N, iI_s1, iI_toInt (by omega) (by omega), nI_toInt (by omega), show (0 : Int32).toInt = 0 from rfl] at c
  omega
theorem x_pl_n {N : Nat} {p : Int32} (hN : N ≤ 128) (h : p.toInt < 0 ∨ (N : Int) ≤ p.toInt) {post : Int32 → Prop} (h1 : post 0) : wX5_isPlace (nI N) p post := by
  unfold wX5_isPlace
  refine x_within (fun c1 c2 => ?_) (fun _ => ⟨nzb0, h1⟩)
  rw [nI_iI N, iI_s1, iI_toInt (by omega) (by omega)] at c2
  rw [show (0 : Int32).toInt = 0 from rfl] at c1
  omega
theorem x_has_y {low high : Int64} {N : Nat} {g lo hi : Nat → Int32} (hX : XT low high N g lo hi) {v : Nat} (hv : v < fb_ct (bb low high) N) {post : Int32 → Prop} (h1 : post 1) : wX4_has (nI N) (nI v) post :=
  x_has hX (fun _ _ _ => h1) (fun c => by
    have := fb_ct_le (bb low high) N
    have := hX.1.1
    rw [nI_toInt (by omega)] at c; omega)
theorem x_has_n {low high : Int64} {N : Nat} {g lo hi : Nat → Int32} (hX : XT low high N g lo hi) {p : Int32} (h : p.toInt < 0 ∨ (fb_ct (bb low high) N : Int) ≤ p.toInt) {post : Int32 → Prop} (h0 : post 0) : wX4_has (nI N) p post :=
  x_has hX (fun v hv e => by
    have := fb_ct_le (bb low high) N
    have := hX.1.1
    rw [e, nI_toInt (by omega)] at h; omega) (fun _ => h0)
theorem node_or (p : Int32) (M : Nat) : (∃ v, v < M ∧ p = nI v) ∨ (p.toInt < 0 ∨ (M : Int) ≤ p.toInt) := by
  rcases Int.lt_or_le p.toInt 0 with z | z
  · exact Or.inr (Or.inl z)
  · rcases Int.lt_or_le p.toInt (M : Int) with y | y
    · refine Or.inl ⟨p.toInt.toNat, by omega, ?_⟩
      rw [nI_iI, Int.toNat_of_nonneg z]; exact iI_self p
    · exact Or.inr (Or.inr y)
theorem MT.m64 {st w : Nat → Int32} {B : Nat → Bool} {N : Nat} (_ : MT st B N w) (hT : Tr B N) : fb_ct B N ≤ 64 := by
  have := hT.two
  have := hT.1
  omega
theorem m_node_n {st : Nat → Int32} {M : Nat} {p : Int32} (h : st 192 = nI M) (hM : M ≤ 64) (hp : p.toInt < 0 ∨ (M : Int) ≤ p.toInt) {post : Int32 → Prop} (h0 : post 0) : wX6_isNode st p post :=
  m_isNode h hM (fun v hv e => by rw [e, nI_toInt (by omega)] at hp; omega) (fun _ => h0)
theorem m_mark_y {st : Nat → Int32} {M j : Nat} (h : st 192 = nI M) (hM : M ≤ 64) (hj : j ≤ 2 * M) {post : Int32 → Prop} (h1 : post 1) : wX6_isMark st (nI j) post :=
  m_isMark h hM (fun _ _ _ => h1) (fun c => by rw [nI_toInt (by omega)] at c; omega)
theorem m_mark_n {st : Nat → Int32} {M : Nat} {p : Int32} (h : st 192 = nI M) (hM : M ≤ 64) (hp : p.toInt < 0 ∨ ((2 * M : Nat) : Int) < p.toInt) {post : Int32 → Prop} (h0 : post 0) : wX6_isMark st p post :=
  m_isMark h hM (fun j hj e => by rw [e, nI_toInt (by omega)] at hp; omega) (fun _ => h0)
theorem m_in_y {p : Int32} {L H : Int64} (h1 : L.toInt ≤ p.toInt) (h2 : p.toInt ≤ H.toInt) {post : Int32 → Prop} (h : post 1) : wX6_in p.toInt64 L H post :=
  m_in (fun _ _ => h) (fun c => by rw [t64] at c; omega)
theorem m_in_n {p : Int32} {L H : Int64} (h1 : ¬ (L.toInt ≤ p.toInt ∧ p.toInt ≤ H.toInt)) {post : Int32 → Prop} (h : post 0) : wX6_in p.toInt64 L H post :=
  m_in (fun c1 c2 => by rw [t64] at c1 c2; omega) (fun _ => h)
theorem pl1 {n : Nat} (hn : n ≤ 128) : (nI n - 1).toInt64.toInt = (n : Int) - 1 := by rw [t64, nI_iI, iI_s1, iI_toInt (by omega) (by omega)]
theorem o_excess {low high : Int64} {N : Nat} {g lo hi st w : Nat → Int32} (hX : XT low high N g lo hi) (hM : MT st (bb low high) N w) {p : Int32} {Q : Prop} (hQ : Q) : wX5_excess low high (nI N) p (fun r1 => wX6_excess st p (fun r2 => r1 = r2 ∧ Q)) := by
  have hN := hX.1.1
  have h2 := hX.1.two
  have h64 := hM.m64 hX.1
  unfold wX5_excess
  rcases upto p N with ⟨j, j1, rfl⟩ | c
  · refine x_pt_y hN j1 (t1a (x_excessAt (by omega) ?_))
    unfold wX6_excess
    refine m_mark_y hM.2.1 h64 (by omega) (t1a (m_excessAt hM.1 j1 hN ⟨rfl, hQ⟩))
  · refine x_pt_n hN c (t0a ?_)
    unfold wX6_excess
    exact m_mark_n hM.2.1 h64 (by omega) (t0a ⟨rfl, hQ⟩)
theorem o_bit {low high : Int64} {N : Nat} {g lo hi st w : Nat → Int32} (hX : XT low high N g lo hi) (hM : MT st (bb low high) N w) {p : Int32} {Q : Prop} (hQ : Q) : wX5_bit low high (nI N) p (fun r1 => wX6_bit st p (fun r2 => r1 = r2 ∧ Q)) := by
  have hN := hX.1.1
  have h2 := hX.1.two
  have h64 := hM.m64 hX.1
  unfold wX5_bit
  rcases node_or p N with ⟨j, j1, rfl⟩ | c
  · refine x_pl_y hN j1 (t1a (x_bitAt (by omega) ?_))
    unfold wX6_bit
    refine m_places hM.2.1 ?_
    refine m_in_y (by rw [nI_toInt (by omega)]; show (0 : Int) ≤ _; omega) (by rw [pl1 (by omega), nI_toInt (by omega)]; omega) (t1a ⟨pk_in j 579 (by omega), ?_, hQ⟩)
    rw [nI_clamp (by omega), hM.1 j j1]
  · refine x_pl_n hN c (t0a ?_)
    unfold wX6_bit
    refine m_places hM.2.1 ?_
    exact m_in_n (by rw [pl1 (by omega), show (0 : Int64).toInt = 0 from rfl]; omega) (t0a ⟨rfl, hQ⟩)
theorem m_forward {st : Nat → Int32} {B : Nat → Bool} {N p : Nat} {d : Int32} (hS : MB st B N) (h192 : st 192 = nI (fb_ct B N)) (hT : Tr B N) (hp : p ≤ N) {post : Int32 → Prop} (h : ∀ r, IsF B N p d.toInt r → post r) : wX6_forward st (nI p) d post := by
  have hN := hT.1
  have h2 := hT.two
  unfold wX6_forward
  refine m_mark_y h192 (by omega) (by omega) (t1b ?_)
  rintro _ rfl
  rw [nI_1]
  refine ⟨fun x => ∃ q, x = nI q ∧ p < q ∧ q ≤ N + 1 ∧ ∀ k, p < k → k < q → ex B k ≠ d.toInt, fun x => N + 1 - x.toNatClampNeg, ⟨p + 1, rfl, by omega, by omega, fun k k1 k2 => by omega⟩, ?_⟩
  rintro x ⟨q, rfl, q1, q2, q3⟩
  refine m_places h192 ?_
  refine pk_lt (2 * fb_ct B N) q (fun c => ?_) (fun c => ?_)
  · exact h _ (Or.inr ⟨fun k k1 k2 => q3 k k1 (by omega), rfl⟩)
  · refine m_excessAt hS (by omega) hN ?_
    have hb := ex_b B q
    rw [eqI (by omega) (by omega)]
    refine ⟨fun c2 => ?_, fun c2 => h _ (Or.inl ⟨q, q1, by omega, c2, q3, rfl⟩)⟩
    rintro _ rfl
    rw [nI_1]
    refine ⟨⟨q + 1, rfl, by omega, by omega, fun k k1 k2 => ?_⟩, ?_⟩
    · rcases Nat.eq_or_lt_of_le (Nat.lt_succ_iff.mp k2) with e | e
      · rw [e]; exact c2
      · exact q3 k k1 e
    · dsimp only
      rw [nI_clamp (by omega), nI_clamp (by omega)]; omega
theorem m_backward {st : Nat → Int32} {B : Nat → Bool} {N p : Nat} {d : Int32} (hS : MB st B N) (h192 : st 192 = nI (fb_ct B N)) (hT : Tr B N) (hp : p ≤ N) {post : Int32 → Prop} (h : ∀ r, IsK B p d.toInt r → post r) : wX6_backward st (nI p) d post := by
  have hN := hT.1
  have h2 := hT.two
  unfold wX6_backward
  refine m_mark_y h192 (by omega) (by omega) (t1b ?_)
  rintro _ rfl
  refine ⟨fun x => ∃ q : Nat, x = iI ((q : Int) - 1) ∧ q ≤ p ∧ ∀ k, q ≤ k → k < p → ex B k ≠ d.toInt, fun x => (x.toInt + 1).toNat, ⟨p, by rw [nI_iI, iI_s1], by omega, fun k k1 k2 => by omega⟩, ?_⟩
  rintro x ⟨q, rfl, q1, q2⟩
  refine q_lt ((q : Int) - 1) 0 (fun c => ?_) (fun c => ?_)
  · exact h _ (Or.inr ⟨fun k k1 => q2 k (by omega) k1, rfl⟩)
  · obtain ⟨j, rfl⟩ : ∃ j, q = j + 1 := ⟨q - 1, by omega⟩
    rw [show ((j + 1 : Nat) : Int) - 1 = (j : Int) by omega, ← nI_iI]
    refine m_excessAt hS (by omega) hN ?_
    have hb := ex_b B j
    rw [eqI (by omega) (by omega)]
    refine ⟨fun c2 => ?_, fun c2 => h _ (Or.inl ⟨j, by omega, c2, fun k k1 k2 => q2 k (by omega) k2, rfl⟩)⟩
    rintro _ rfl
    rw [nI_iI, iI_m1]
    refine ⟨⟨j, rfl, by omega, fun k k1 k2 => ?_⟩, ?_⟩
    · rcases Nat.eq_or_lt_of_le k1 with e | e
      · rw [← e]; exact c2
      · exact q2 k (by omega) k2
    · dsimp only
      rw [iI_toInt (by omega) (by omega), iI_toInt (by omega) (by omega)]; omega
theorem o_forward {low high : Int64} {N : Nat} {g lo hi st w : Nat → Int32} (hX : XT low high N g lo hi) (hM : MT st (bb low high) N w) {p d : Int32} {Q : Prop} (hQ : Q) : wX5_forward low high (nI N) g lo hi p d (fun r1 => wX6_forward st p d (fun r2 => r1 = r2 ∧ Q)) := by
  have hN := hX.1.1
  have h2 := hX.1.two
  have h64 := hM.m64 hX.1
  unfold wX5_forward
  rcases upto p N with ⟨j, j1, rfl⟩ | c
  · refine x_pt_y hN j1 (t1a (x_searchOn hX.2.2 hN j1 (fun r hr => ?_)))
    exact m_forward hM.1 hM.2.1 hX.1 j1 (fun s hs => ⟨hr.one hs, hQ⟩)
  · refine x_pt_n hN c (t0a ?_)
    unfold wX6_forward
    exact m_mark_n hM.2.1 h64 (by omega) (t0b ⟨rfl, hQ⟩)
theorem o_backward {low high : Int64} {N : Nat} {g lo hi st w : Nat → Int32} (hX : XT low high N g lo hi) (hM : MT st (bb low high) N w) {p d : Int32} {Q : Prop} (hQ : Q) : wX5_backward low high (nI N) g lo hi p d (fun r1 => wX6_backward st p d (fun r2 => r1 = r2 ∧ Q)) := by
  have hN := hX.1.1
  have h2 := hX.1.two
  have h64 := hM.m64 hX.1
  unfold wX5_backward
  rcases upto p N with ⟨j, j1, rfl⟩ | c
  · refine x_pt_y hN j1 (t1a (x_searchBack hX.2.2 hN j1 (fun r hr => ?_)))
    exact m_backward hM.1 hM.2.1 hX.1 j1 (fun s hs => ⟨hr.one hs, hQ⟩)
  · refine x_pt_n hN c (t0a ?_)
    unfold wX6_backward
    exact m_mark_n hM.2.1 h64 (by omega) (t0b ⟨rfl, hQ⟩)
theorem o_match {low high : Int64} {N : Nat} {g lo hi st w : Nat → Int32} (hX : XT low high N g lo hi) (hM : MT st (bb low high) N w) {p : Int32} {Q : Prop} (hQ : Q) : wX5_match low high (nI N) g lo hi p (fun r1 => wX6_match st p (fun r2 => r1 = r2 ∧ Q)) := by
  have hN := hX.1.1
  have h2 := hX.1.two
  have h64 := hM.m64 hX.1
  unfold wX5_match
  rcases node_or p N with ⟨j, j1, rfl⟩ | c
  · refine x_pl_y hN j1 (t1a (x_partnerOf hX.2.2 hX.1 j1 (fun r hr => ?_)))
    unfold wX6_match
    refine m_places hM.2.1 ?_
    refine m_in_y (by rw [nI_toInt (by omega)]; show (0 : Int) ≤ _; omega) (by rw [pl1 (by omega), nI_toInt (by omega)]; omega) (t1b ⟨pk_in j 579 (by omega), ?_⟩)
    rw [nI_clamp (by omega), hM.1 j j1]
    refine b1_ne (fun hb => ?_) (fun hb => ?_)
    · rcases hr with ⟨r1, r2⟩ | ⟨r1, r2, r3, r4⟩
      · rw [r1] at hb; cases hb
      · have hs := sh_spec hX.1 r2 r3
        rw [r4] at hs
        obtain ⟨s1, s2, s3, s4⟩ := hs
        refine ⟨fun a d => ∃ q, a = nI q ∧ r ≤ q ∧ q ≤ j ∧ d = iI (ex (bb low high) q - ex (bb low high) r), fun a _ => a.toNatClampNeg, ⟨j, rfl, by omega, Nat.le_refl _, ?_⟩, ?_⟩
        · have := ex_f hb
          rw [show ex (bb low high) j - ex (bb low high) r = 1 by omega]; rfl
        · rintro a d ⟨q, rfl, q1, q2, rfl⟩
          have hbq := ex_b (bb low high) q
          have hbr := ex_b (bb low high) r
          refine q_le (ex (bb low high) q - ex (bb low high) r) 0 (fun c => ?_) (fun c => ?_)
          · have e : r = q := by
              rcases Nat.eq_or_lt_of_le q1 with e | e
              · exact e
              · have := s4 q e q2; omega
            rw [e]; exact ⟨rfl, hQ⟩
          · obtain ⟨i, rfl⟩ : ∃ i, q = i + 1 := ⟨q - 1, by
              rcases Nat.eq_or_lt_of_le q1 with e | e
              · rw [e] at c; omega
              · omega⟩
            rintro _ rfl
            rw [pk_m1]
            have hri : r ≤ i := by
              rcases Nat.eq_or_lt_of_le q1 with e | e
              · rw [e] at c; omega
              · omega
            refine ⟨pk_in i 579 (by omega), ?_⟩
            rw [nI_clamp (by omega), hM.1 i (by omega)]
            refine b1_ne (fun hi => ?_) (fun hi => ?_)
            · rintro _ rfl
              have e1 := ex_f hi
              refine ⟨⟨i, rfl, hri, by omega, ?_⟩, ?_⟩
              · rw [iI_p1]; congr 1; omega
              · dsimp only; rw [nI_clamp (by omega), nI_clamp (by omega)]; omega
            · rintro _ rfl
              have e1 := ex_t hi
              refine ⟨⟨i, rfl, hri, by omega, ?_⟩, ?_⟩
              · rw [iI_m1]; congr 1; omega
              · dsimp only; rw [nI_clamp (by omega), nI_clamp (by omega)]; omega
    · refine m_shutOf hM.1 hX.1 j1 hb ?_
      rcases hr with ⟨r1, r2⟩ | ⟨r1, r2, r3, r4⟩
      · rw [r2]; exact ⟨rfl, hQ⟩
      · rw [r1] at hb; cases hb
  · refine x_pl_n hN c (t0a ?_)
    unfold wX6_match
    refine m_places hM.2.1 ?_
    exact m_in_n (by rw [pl1 (by omega), show (0 : Int64).toInt = 0 from rfl]; omega) (t0b ⟨rfl, hQ⟩)
