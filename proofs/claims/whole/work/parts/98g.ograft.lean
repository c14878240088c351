/-! graft: both sides -/
/-- weights behind a graft -/
def GW (w : Nat → Int32) (v n t i : Nat) : Int32 := if i < t then (if i < v then w i else w (i + n)) else if i < t + n then w (v + (i - t)) else (if i - n < v then w (i - n) else w (i - n + n))
theorem gr_to {B : Nat → Bool} {N v u n : Nat} (hT : Tr B N) (hv : v < fb_ct B N) (hu : u < fb_ct B N) (hn : n = sz B N v) (hno : u < v ∨ v + n ≤ u) : (if u ≤ v then u else u - n) < fb_ct (RS B (kp B N v) n) (N - 2 * n) := by
  have h := (RS_Tr hT hv).2
  obtain ⟨z1, z2, z3, z4⟩ := sz_eq hT hv
  subst hn
  by_cases c : u ≤ v
  · rw [if_pos c]; omega
  · rw [if_neg c]; omega
theorem sub_ex {B : Nat → Bool} {N v n : Nat} (hT : Tr B N) (hv : v < fb_ct B N) (hn : n = sz B N v) : ex (fun k => B (kp B N v + k)) (2 * n) = 0 ∧ ∀ k, k ≤ 2 * n → 0 ≤ ex (fun k => B (kp B N v + k)) k := by
  obtain ⟨o1, o2, o3⟩ := kp_spec hv
  have hs := sh_spec hT o1 o2
  obtain ⟨z1, z2, z3, z4⟩ := sz_eq hT hv
  subst hn
  refine ⟨by rw [ex_shift, ← z1, hs.2.2.1]; omega, fun k hk => ?_⟩
  rw [ex_shift]
  rcases Nat.eq_zero_or_pos k with y | y
  · rw [y, Nat.add_zero]; omega
  · rcases Nat.lt_or_ge k (2 * sz B N v) with y2 | y2
    · have := hs.2.2.2 (kp B N v + k) (by omega) (by omega); omega
    · have : kp B N v + k = sh B N (kp B N v) + 1 := by omega
      rw [this, hs.2.2.1]; omega
theorem IS_RS_Tr {B : Nat → Bool} {N v n e : Nat} (hT : Tr B N) (hv : v < fb_ct B N) (hn : n = sz B N v) (h0 : 0 < e) (he : e < N - 2 * n) : Tr (IS (RS B (kp B N v) n) (fun k => B (kp B N v + k)) e (2 * n)) N := by
  have hN := hT.1
  have h1 := sub_ex hT hv hn
  have hRS := RS_Tr hT hv
  rw [← hn] at hRS
  have := IS_Tr (e := e) (m := 2 * n) hRS.1 h1.1 h1.2 h0 he (by omega)
  rw [show N - 2 * n + 2 * n = N by omega] at this
  exact this
theorem x_moveSubtree {low high : Int64} {N : Nat} {g lo hi : Nat → Int32} (hX : XT low high N g lo hi) {w cr : Nat → Int32} {v u i n e t : Nat} (hv : v < fb_ct (bb low high) N) (hu : u < fb_ct (bb low high) N) (hn : n = sz (bb low high) N v) (hno : u < v ∨ v + n ≤ u) (hC : fb_ct (bb low high) N ≤ 64) (hil : i < 2147483648) (he : e = eg (RS (bb low high) (kp (bb low high) N v) n) (N - 2 * n) (kp (RS (bb low high) (kp (bb low high) N v) n) (N - 2 * n) (if u ≤ v then u else u - n)) i) (ht : t = fb_ct (RS (bb low high) (kp (bb low high) N v) n) e) {post : Int32 → (Int64 × Int64 × Int32 × (Nat → Int32) × (Nat → Int32) × (Nat → Int32) × (Nat → Int32) × (Nat → Int32)) → Prop} (h : ∀ low' high' g' lo' hi' w' c', (∀ k, bb low' high' k = IS (RS (bb low high) (kp (bb low high) N v) n) (fun k => (bb low high) (kp (bb low high) N v + k)) e (2 * n) k) → SM (bb low' high') N g' lo' hi' → (∀ i, i < fb_ct (bb low high) N → w' i = GW w v n t i) → post (nI t) (low', high', nI N, g', lo', hi', w', c')) : wX4_moveSubtree low high (nI N) g lo hi w cr (nI v) (nI u) (nI i) post := by
  have hN := hX.1.1
  obtain ⟨o1, o2, o3⟩ := kp_spec hv
  have hs := sh_spec hX.1 o1 o2
  obtain ⟨z1, z2, z3, z4⟩ := sz_eq hX.1 hv
  have hRS := RS_Tr hX.1 hv
  have hto := gr_to hX.1 hv hu hn hno
  unfold wX4_moveSubtree
  refine x_nodesOf hX hv (x_openOf hX hv ?_)
  rw [← hn] at z1 z2 z3 z4 hRS ⊢
  rw [show (2 : Int32) = nI 2 from rfl, pk_mul]
  refine x_taken (by omega) (by omega) (fun c d hcd => ⟨?_, ?_⟩)
  · rw [show (0 : Int32).toNatClampNeg = 0 from rfl, nI_clamp (by omega), nI_clamp (by omega)]
    exact ⟨nI_pos (by omega), by decide, nI_pos (by omega), by omega, by omega⟩
  refine x_closeWeights hX z3 hC (fun w1 hw1 hw2 => ?_)
  refine x_remove hX.2.2 hN (by omega) (fun low1 high1 g1 lo1 hi1 h1 h2 => ?_)
  have hb1 : bb low1 high1 = RS (bb low high) (kp (bb low high) N v) n := funext (fun k => by
    rcases Nat.lt_or_ge k 128 with z | z
    · rw [h1 k z]; rfl
    · rw [bb_big z]
      unfold RS
      rw [if_neg (by omega), bb_big (by omega)])
  have hX1 : XT low1 high1 (N - 2 * n) g1 lo1 hi1 := by
    refine ⟨by rw [hb1]; exact hRS.1, fun k hk => ?_, h2⟩
    rw [hb1]
    unfold RS
    rw [if_neg (by omega), hX.2.1 _ (by omega)]
  refine ⟨fun x => x = nI (if u ≤ v then u else u - n), pk_le u v (fun c => by rw [if_pos c]) (fun c => by rw [if_neg (by omega), pk_sub (by omega)]), ?_⟩
  rintro _ rfl
  have hu1 : (if u ≤ v then u else u - n) < fb_ct (bb low1 high1) (N - 2 * n) := by rw [hb1]; exact hto
  obtain ⟨q1, q2, q3⟩ := kp_spec hu1
  have hle := eg_le (i := i) hX1.1 q1 q2
  have hsu := sh_spec hX1.1 q1 q2
  refine x_placeForChild hX1 hu1 hil ?_
  rw [hb1, ← he] at hle ⊢
  rw [hb1] at hsu
  refine x_opensAhead (by omega) ?_
  rw [hb1, ← ht]
  have htm : t ≤ fb_ct (bb low1 high1) (N - 2 * n) := by rw [hb1, ht]; exact fb_ct_mono _ (by omega)
  have hM1 : fb_ct (bb low1 high1) (N - 2 * n) + n = fb_ct (bb low high) N := by rw [hb1]; exact hRS.2
  refine x_openWeights hX1 htm (by omega) (fun w2 hw3 hw4 => ⟨?_, ?_⟩)
  · rw [show (0 : Int32).toNatClampNeg = 0 from rfl, nI_clamp (by omega), nI_clamp (by omega)]
    exact ⟨by decide, nI_pos (by omega), nI_pos (by omega), by omega, by omega⟩
  refine x_insert hX1.2.2 (by omega) (by omega) (fun k hk => ?_) (fun low' high' g' lo' hi' h3 h4 => ?_)
  · rcases Nat.lt_or_ge k 128 with z | z
    · rw [hcd k z, decide_eq_false (show ¬ k < 2 * n by omega), Bool.and_false]
    · exact bb_big z
  have eN : N - 2 * n + 2 * n = N := by omega
  rw [eN] at h4 ⊢
  refine h low' high' g' lo' hi' _ _ (fun k => ?_) h4 (fun j hj => ?_)
  · unfold IS
    rcases Nat.lt_or_ge k 128 with z | z
    · rw [h3 k z, hb1]
      by_cases c1 : k < e
      · rw [if_pos c1, if_pos c1]
      · rw [if_neg c1, if_neg c1]
        by_cases c2 : k < e + 2 * n
        · rw [if_pos c2, if_pos c2, hcd (k - e) (by omega), decide_eq_true (show k - e < 2 * n by omega), Bool.and_true]
        · rw [if_neg c2, if_neg c2]
    · rw [bb_big z, if_neg (by omega), if_neg (by omega), ← hb1, hX1.2.1 _ (by omega)]
  · rw [show (0 : Int32).toNatClampNeg = 0 from rfl, nI_clamp (by omega), nI_clamp (by omega), nI_clamp (by omega)]
    unfold GW
    by_cases c1 : j < t
    · rw [if_pos c1, pk_cpy_out (Or.inl c1), hw3 j c1]
      by_cases c3 : j < v
      · rw [if_pos c3, hw1 j c3]
      · rw [if_neg c3, hw2 j (by omega) (by omega)]
    · rw [if_neg c1]
      by_cases c2 : j < t + n
      · rw [if_pos c2, pk_cpy_in (by omega) c2, pk_cpy_in (by omega) (by omega)]
        congr 1; omega
      · rw [if_neg c2, pk_cpy_out (by omega)]
        have e2 := hw4 (j - n) (by omega) (by omega)
        rw [show j - n + n = j by omega] at e2
        rw [e2]
        by_cases c3 : j - n < v
        · rw [if_pos c3, hw1 _ c3]
        · rw [if_neg c3, hw2 _ (by omega) (by omega)]
theorem m_graft {st w cr cw : Nat → Int32} {B : Nat → Bool} {N v u i n e t d q' : Nat} (hM : MT st B N w) (hT : Tr B N) (hv : v < fb_ct B N) (hu : u < fb_ct B N) (h0 : 0 < v) (hn : n = sz B N v) (hno : u < v ∨ v + n ≤ u) (hA : AN B (kp B N v) 1 q') (hd : d = if fb_ct B q' = u then 1 else 0) (hdc : d ≤ cn B N (kp B N u)) (hi : i ≤ cn B N (kp B N u) - d) (he : e = eg (RS B (kp B N v) n) (N - 2 * n) (kp (RS B (kp B N v) n) (N - 2 * n) (if u ≤ v then u else u - n)) i) (ht : t = fb_ct (RS B (kp B N v) n) e) {post : Int32 → ((Nat → Int32) × (Nat → Int32) × (Nat → Int32)) → Prop} (h : ∀ st' cr' cw', MT st' (IS (RS B (kp B N v) n) (fun k => B (kp B N v + k)) e (2 * n)) N (GW w v n t) → (∀ k, 193 ≤ k → st' k = st k) → post (nI t) (st', cr', cw')) : wX6_graft st cr cw (nI v) (nI u) (nI i) post := by
  have hN := hT.1
  have h64 := hM.m64 hT
  have hcN := fb_ct_le B N
  obtain ⟨o1, o2, o3⟩ := kp_spec hv
  have hs := sh_spec hT o1 o2
  obtain ⟨z1, z2, z3, z4⟩ := sz_eq hT hv
  have hRS := RS_Tr hT hv
  have hto := gr_to hT hv hu hn hno
  have hcb : cn B N (kp B N u) < 2147483648 := by
    unfold cn
    have := fb_ct_le (CQ B (kp B N u)) (sh B N (kp B N u))
    obtain ⟨y1, y2, y3⟩ := kp_spec hu
    have := (sh_spec hT y1 y2).2.1
    omega
  unfold wX6_graft
  refine m_node1 hM.2.1 h64 hv (t1a (m_node1 hM.2.1 h64 hu (t1b ⟨fun z => absurd z (nI_ne0 h0 (by omega)), fun _ => ?_⟩)))
  refine m_isAbove hM.1 hT hv hu (fun y1 y2 => by omega) (fun _ => t0a ?_)
  refine m_sizeOf hM.1 hT hv (m_childrenOf hM.1 hT hu ?_)
  refine m_upFrom (k := 1) hM.1 hT hv (by omega) (fun q2 hA2 => ?_) (fun y => by have := hA.2.1; have := hT.nn (p := q') (by have := hA.1; omega); omega)
  rw [hA2.one hA]
  have hcq : fb_ct B q' ≤ N := by have := fb_ct_le B q'; have := hA.1; omega
  refine ⟨fun x => x = nI d, pk_ne (fb_ct B q') u (fun c => by rw [hd, if_neg c]; rfl) (fun c => by rw [hd, if_pos c]; rfl), ?_⟩
  rintro _ rfl _ rfl
  rw [pk_sub hdc]
  refine m_in_y (by rw [nI_toInt (by omega)]; show (0 : Int) ≤ _; omega) (by rw [t64, nI_toInt (by omega), nI_toInt (by omega)]; omega) (t1b ?_)
  refine m_openOf hM.1 hN hv ?_
  rw [← hn] at z1 z2 z3 z4 hRS ⊢
  rw [show (2 : Int32) = nI 2 from rfl, pk_mul]
  refine lp_out (by omega) (by omega) (by omega) (by omega) (fun cr' hcr => ?_)
  rw [show (128 : Int32) + nI v = nI (128 + v) from nI_add 128 v]
  refine lp_out (by omega) (by omega) (by omega) (by omega) (fun cw' hcw => ?_)
  rintro _ rfl
  have fr := m_fellRounds hM hT hv (post := fun f => ∀ P : Prop, (∀ w1, MT f (RS B (kp B N v) n) (N - 2 * n) w1 → (∀ j, w1 j = if j < v then w j else w (j + n)) → (∀ k, 193 ≤ k → f k = st k) → P) → P) (fun st' B' w' hF hm hfr P hP => by
    have eB : B' = RS B (kp B N v) n := by rw [hn]; exact funext (FL_RS hF)
    rw [← hn, eB] at hm
    refine hP w' hm (fun j => ?_) hfr
    obtain ⟨a1, hT, a2, a3, a4, a5, a6, a7⟩ := hF
    by_cases c : j < v
    · rw [if_pos c, a6 j (by omega)]
    · rw [if_neg c, a7 j (by omega), hn])
  rw [← hn] at fr
  obtain ⟨I, mu, fr1, fr2⟩ := fr
  refine ⟨I, mu, fr1, fun x f hI => ⟨fun c => (fr2 x f hI).1 c _ (fun w1 hm1 hw1 hf1 => ?_), (fr2 x f hI).2⟩⟩
  refine ⟨fun x => x = nI (if u ≤ v then u else u - n), pk_le u v (fun c => by rw [if_pos c]) (fun c => by rw [if_neg (by omega), pk_sub (by omega)]), ?_⟩
  rintro _ rfl
  obtain ⟨q1, q2, q3⟩ := kp_spec hto
  have hle := eg_le (i := i) hRS.1 q1 q2
  have hsu := sh_spec hRS.1 q1 q2
  refine m_edgeOf hm1.1 hRS.1 hto (by omega) ?_
  rw [← he] at hle ⊢
  refine m_opensAt hm1.1 (by omega) (by omega) ?_
  rw [← ht]
  have htm : t ≤ fb_ct (RS B (kp B N v) n) (N - 2 * n) := by rw [ht]; exact fb_ct_mono _ (by omega)
  refine m_opensRun (by omega) (fun f2 hf2 => ?_)
  rw [nI_add]
  refine m_weightsUp (by omega) (by omega) (fun f3 hf3 => ?_)
  rw [show (128 : Int32) + nI t = nI (128 + t) from nI_add 128 t]
  refine lp_in (by omega) (by omega) (by omega) (by omega) (fun f4 hf4 => ?_)
  refine ⟨pk_in 192 579 (by omega), ?_⟩
  rintro _ rfl
  refine ⟨pk_in 192 579 (by omega), ?_⟩
  rw [show (192 : Int32).toNatClampNeg = 192 from rfl]
  have hIS : Tr (IS (RS B (kp B N v) n) (fun k => B (kp B N v + k)) e (2 * n)) N := IS_RS_Tr hT hv hn (by omega) (by omega)
  have hcnt : fb_ct (IS (RS B (kp B N v) n) (fun k => B (kp B N v + k)) e (2 * n)) N = fb_ct B N := by
    have := hIS.two
    have := hT.two
    omega
  have big : ∀ k, 192 ≤ k → f4 k = f k := fun k hk => by
    rw [hf4 k, if_neg (by omega), hf3 k, if_neg (by omega), hf2 k, if_pos (by omega)]
  refine h _ _ _ ⟨fun k hk => ?_, ?_, fun j hj => ?_⟩ (fun k hk => ?_)
  · rw [pk_un (by omega), hf4 k, if_neg (by omega), hf3 k, if_neg (by omega), hf2 k]
    by_cases c1 : k < e
    · rw [if_pos (Or.inl c1), IS_lo c1]; exact hm1.1 k (by omega)
    · rw [if_neg (by omega)]
      by_cases c2 : k < e + 2 * n
      · rw [if_pos c2, hcr (k - e), if_pos (by omega), hM.1 _ (by omega)]
        unfold IS
        rw [if_neg c1, if_pos c2]
      · rw [if_neg c2, hm1.1 _ (by omega)]
        unfold IS
        rw [if_neg c1, if_neg c2]
  · rw [pk_us, big 192 (by omega), hm1.2.1, nI_add, hcnt, hRS.2]
  · rw [hcnt] at hj
    rw [pk_un (by omega), hf4 (128 + j)]
    unfold GW
    by_cases c1 : j < t
    · rw [if_neg (by omega), if_pos c1, hf3 _, if_neg (by omega), hf2 _, if_pos (by omega), hm1.2.2 j (by omega), hw1 j]
    · rw [if_neg c1]
      by_cases c2 : j < t + n
      · rw [if_pos (by omega), if_pos c2, hcw _, if_pos (by omega), show 128 + v + (128 + j - (128 + t)) = 128 + (v + (j - t)) by omega, hM.2.2 _ (by omega)]
      · rw [if_neg (by omega), if_neg c2, hf3 _, if_pos (by omega), show 128 + j - n = 128 + (j - n) by omega, hf2 _, if_pos (by omega), hm1.2.2 _ (by omega), hw1 _]
  · rw [pk_un (by omega), big k (by omega), hf1 k hk]
theorem o_graft {low high : Int64} {N : Nat} {g lo hi st w : Nat → Int32} (hX : XT low high N g lo hi) (hM : MT st (bb low high) N w) {p p2 i : Int32} {car cutr cutw : Nat → Int32} {Q : (Int64 × Int64 × Int32 × (Nat → Int32) × (Nat → Int32) × (Nat → Int32) × (Nat → Int32) × (Nat → Int32)) → ((Nat → Int32) × (Nat → Int32) × (Nat → Int32)) → Prop} (hQ : ∀ a b c d e f g h st' cr' cw', RR (a, b, c, d, e, f, g) st' → (∀ k, 193 ≤ k → st' k = st k) → Q (a, b, c, d, e, f, g, h) (st', cr', cw')) : wX5_graft low high (nI N) g lo hi w car p p2 i (fun r1 u1 => wX6_graft st cutr cutw p p2 i (fun r2 u2 => r1 = r2 ∧ Q u1 u2)) := by
  have hN := hX.1.1
  have h64 := hM.m64 hX.1
  have hNc := hX.1.two
  have hQ0 : Q (low, high, nI N, g, lo, hi, w, car) (st, cutr, cutw) := hQ _ _ _ _ _ _ _ _ st _ _ ⟨N, rfl, hX, hM⟩ (fun _ _ => rfl)
  unfold wX5_graft
  rcases node_or p (fb_ct (bb low high) N) with ⟨v, hv, rfl⟩ | c
  · refine x_has_y hX hv (t1a ?_)
    rcases node_or p2 (fb_ct (bb low high) N) with ⟨u, hu, rfl⟩ | c2
    · refine x_has_y hX hu (t1b ?_)
      obtain ⟨o1, o2, o3⟩ := kp_spec hv
      obtain ⟨y1, y2, y3⟩ := kp_spec hu
      obtain ⟨z1, z2, z3, z4⟩ := sz_eq hX.1 hv
      have hs := sh_spec hX.1 o1 o2
      have hcb : cn (bb low high) N (kp (bb low high) N u) < 2147483648 := by
        unfold cn
        have := fb_ct_le (CQ (bb low high) (kp (bb low high) N u)) (sh (bb low high) N (kp (bb low high) N u))
        have := (sh_spec hX.1 y1 y2).2.1
        omega
      refine pk_eq v 0 (fun c0 => ?_) (fun c0 => ?_)
      · unfold wX6_graft
        rw [c0]
        rw [c0] at hv
        exact m_node1 hM.2.1 h64 hv (t1a (m_node1 hM.2.1 h64 hu (t1b ⟨fun _ => ⟨rfl, hQ0⟩, fun z => absurd rfl z⟩)))
      · have hAx : (1 : Int) ≤ ex (bb low high) (kp (bb low high) N v) := by
          have : 0 < kp (bb low high) N v := by
            rcases Nat.eq_zero_or_pos (kp (bb low high) N v) with y | y
            · rw [y] at o3; rw [show fb_ct (bb low high) 0 = 0 from rfl] at o3; omega
            · exact y
          have := hX.1.2.2 _ this o1
          omega
        obtain ⟨q', hA⟩ := AN_ex (B := (bb low high)) (q := kp (bb low high) N v) (k := 1) hAx
        obtain ⟨n, hn⟩ : ∃ n, n = sz (bb low high) N v := ⟨_, rfl⟩
        obtain ⟨d, hd⟩ : ∃ d, d = if fb_ct (bb low high) q' = u then 1 else 0 := ⟨_, rfl⟩
        have hdc : d ≤ cn (bb low high) N (kp (bb low high) N u) := by
          by_cases c : fb_ct (bb low high) q' = u
          · rw [hd, if_pos c]
            have ho := hA.opn o2
            have hk := (kp_ct' (N := N) (show q' < N by have := hA.1; omega) ho).1
            rw [c] at hk
            rw [hk]
            have := (eg_od hX.1 o1 o2 hA).1
            omega
          · rw [hd, if_neg c]; omega
        have hcq : fb_ct (bb low high) q' ≤ N := by have := fb_ct_le (bb low high) q'; have := hA.1; omega
        have hne : ¬ nI v = (0 : Int32) := nI_ne0 (by omega) (by omega)
        refine x_isAbove hX hv hu (fun a1 a2 => t1a ?_) (fun a1 => t0a ?_)
        · unfold wX6_graft
          refine m_node1 hM.2.1 h64 hv (t1a (m_node1 hM.2.1 h64 hu (t1b ⟨fun z => absurd z hne, fun _ => ?_⟩)))
          exact m_isAbove hM.1 hX.1 hv hu (fun _ _ => t1a ⟨rfl, hQ0⟩) (fun y => absurd ⟨a1, a2⟩ y)
        · refine x_childrenOf hX hu ?_
          refine x_aboveBy (k := 1) hX hv (by omega) (fun q2 hA2 => ?_) (fun y => by omega)
          rw [hA2.one hA]
          refine ⟨fun x => x = nI d, pk_ne (fb_ct (bb low high) q') u (fun c => by rw [hd, if_neg c]; rfl) (fun c => by rw [hd, if_pos c]; rfl), ?_⟩
          rintro _ rfl _ rfl
          rw [pk_sub hdc]
          rcases upto i (cn (bb low high) N (kp (bb low high) N u) - d) with ⟨j, j1, rfl⟩ | c3
          · refine x_within (fun _ _ => t1b ?_) (fun z => by rw [nI_toInt (by omega), nI_toInt (by omega), show (0 : Int32).toInt = 0 from rfl] at z; omega)
            refine x_moveSubtree hX hv hu hn (by omega) h64 (by omega) rfl rfl (fun low' high' g' lo' hi' w' c' h1 h2 h3 => ?_)
            refine m_graft hM hX.1 hv hu (by omega) hn (by omega) hA hd hdc j1 rfl rfl (fun st' cr' cw' h4 h5 => ⟨rfl, hQ _ _ _ _ _ _ _ _ st' cr' cw' ?_ h5⟩)
            have hto := gr_to hX.1 hv hu hn (by omega)
            have hRS := RS_Tr hX.1 hv
            rw [← hn] at hRS
            obtain ⟨q1, q2, q3⟩ := kp_spec hto
            have hle := eg_le (i := j) hRS.1 q1 q2
            have hsu := sh_spec hRS.1 q1 q2
            have hbb : IS (RS (bb low high) (kp (bb low high) N v) n) (fun k => (bb low high) (kp (bb low high) N v + k)) (eg (RS (bb low high) (kp (bb low high) N v) n) (N - 2 * n) (kp (RS (bb low high) (kp (bb low high) N v) n) (N - 2 * n) (if u ≤ v then u else u - n)) j) (2 * n) = bb low' high' := funext (fun k => (h1 k).symm)
            rw [hbb] at h4
            have hT' : Tr (bb low' high') N := by
              rw [← hbb]
              exact IS_RS_Tr hX.1 hv hn (by omega) (by omega)
            refine ⟨N, rfl, ⟨hT', fun k hk => ?_, h2⟩, h4.cong (fun _ _ => rfl) (fun i hi => ?_)⟩
            · show bb low' high' k = false
              rw [h1 k]
              unfold IS
              rw [if_neg (by omega), if_neg (by omega)]
              unfold RS
              rw [if_neg (by omega), hX.2.1 _ (by omega)]
            · have := hT'.two
              exact (h3 i (by omega)).symm
          · refine x_within (fun z1 z2 => by rw [nI_toInt (by omega)] at z2; rw [show (0 : Int32).toInt = 0 from rfl] at z1; omega) (fun _ => t0b ?_)
            unfold wX6_graft
            refine m_node1 hM.2.1 h64 hv (t1a (m_node1 hM.2.1 h64 hu (t1b ⟨fun z => absurd z hne, fun _ => ?_⟩)))
            refine m_isAbove hM.1 hX.1 hv hu (fun y1 y2 => absurd ⟨y1, y2⟩ a1) (fun _ => t0a ?_)
            refine m_sizeOf hM.1 hX.1 hv (m_childrenOf hM.1 hX.1 hu ?_)
            refine m_upFrom (k := 1) hM.1 hX.1 hv (by omega) (fun q2 hA2 => ?_) (fun y => by omega)
            rw [hA2.one hA]
            refine ⟨fun x => x = nI d, pk_ne (fb_ct (bb low high) q') u (fun c => by rw [hd, if_neg c]; rfl) (fun c => by rw [hd, if_pos c]; rfl), ?_⟩
            rintro _ rfl _ rfl
            rw [pk_sub hdc]
            exact m_in_n (by rw [t64, nI_toInt (by omega)]; show ¬ ((0 : Int) ≤ _ ∧ _); omega) (t0b ⟨rfl, hQ0⟩)
    · refine x_has_n hX c2 (t0b ?_)
      unfold wX6_graft
      exact m_node1 hM.2.1 h64 hv (t1a (m_node_n hM.2.1 h64 c2 (t0b ⟨rfl, hQ0⟩)))
  · refine x_has_n hX c (t0a ?_)
    unfold wX6_graft
    exact m_node_n hM.2.1 h64 c (t0a ⟨rfl, hQ0⟩)
