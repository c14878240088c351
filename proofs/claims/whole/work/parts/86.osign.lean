/-! signs and extremes: both sides -/
theorem Tr.last {B : Nat → Bool} {N k : Nat} (hT : Tr B N) (hk : k + 1 = N) : B k = false := by
  cases hb : B k with
  | false => rfl
  | true =>
    have h1 := ex_t hb
    have h2 := hT.2.1
    have h3 := hT.nn (show k ≤ N by omega)
    rw [hk] at h1; omega
theorem m_isPair {st : Nat → Int32} {B : Nat → Bool} {N k : Nat} (hS : MB st B N) (h192 : st 192 = nI (fb_ct B N)) (hT : Tr B N) (hk : k < N) {post : Int32 → Prop} (h : post (if SG B N 2 k then 1 else 0)) : wX6_isPair st (nI k) post := by
  have hN := hT.1
  have h2 := hT.two
  rw [SG2] at h
  unfold wX6_isPair
  refine m_places h192 ?_
  rw [nI_1]
  refine pk_le (2 * fb_ct B N) (k + 1) (fun c => ?_) (fun c => ⟨pk_in k 579 (by omega), ?_⟩)
  · rw [hT.last (k := k) (by omega)] at h; exact h
  · rw [nI_clamp (by omega), hS k hk]
    refine b1_ne (fun hb => ?_) (fun hb => ⟨pk_in (k + 1) 579 (by omega), ?_⟩)
    · rw [hb] at h; exact h
    · rw [nI_clamp (by omega), hS (k + 1) (by omega)]
      refine b0_ne (fun hc => ?_) (fun hc => ?_)
      · rw [hb, hc] at h; exact h
      · rw [hb, hc] at h; exact h
theorem nzb_if (b : Bool) : narrow .boolean (.int (if b then (1 : Int32) else 0)) = .int (if b then 1 else 0) := by cases b <;> rfl
theorem m_isSort {st : Nat → Int32} {B : Nat → Bool} {N k s : Nat} (hS : MB st B N) (h192 : st 192 = nI (fb_ct B N)) (hT : Tr B N) (hk : k < N) (hs : s ≤ 2) {post : Int32 → Prop} (h : post (if SG B N s k then 1 else 0)) : wX6_isSort st (nI k) (nI s) post := by
  have hN := hT.1
  unfold wX6_isSort
  have hc : s = 0 ∨ s = 1 ∨ s = 2 := by omega
  rcases hc with rfl | rfl | rfl
  · refine ⟨fun _ => ⟨pk_in k 579 (by omega), ?_⟩, fun z => absurd z (by decide)⟩
    rw [nI_clamp (by omega), hS k hk, show (1 : Int32) - nI 0 = 1 from rfl]
    rw [SG0] at h
    refine b1_ne (fun hb => ?_) (fun hb => ?_) <;> (rw [hb] at h; exact h)
  · refine ⟨fun _ => ⟨pk_in k 579 (by omega), ?_⟩, fun z => absurd z (by decide)⟩
    rw [nI_clamp (by omega), hS k hk, show (1 : Int32) - nI 1 = 0 from rfl]
    rw [SG1, decide_eq_true hk] at h
    refine b0_ne (fun hb => ?_) (fun hb => ?_) <;> (rw [hb] at h; exact h)
  · refine ⟨fun z => absurd rfl z, fun _ => ?_⟩
    exact m_isPair hS h192 hT hk ⟨nzb_if _, h⟩
theorem b0_eq {b : Bool} {A C : Prop} (h0 : b = false → A) (h1 : b = true → C) : ((if b then (1 : Int32) else 0) = 0 → A) ∧ (¬ (if b then (1 : Int32) else 0) = 0 → C) := (b0_ne h1 h0).symm
theorem m_rank {st : Nat → Int32} {B : Nat → Bool} {N p s : Nat} (hS : MB st B N) (h192 : st 192 = nI (fb_ct B N)) (hT : Tr B N) (hp : p ≤ N) (hs : s ≤ 2) {post : Int32 → Prop} (h : post (nI (fb_ct (SG B N s) (if s = 2 then p - 1 else p)))) : wX6_rank st (nI p) (nI s) post := by
  have hN := hT.1
  have h2 := hT.two
  unfold wX6_rank
  refine m_mark_y h192 (by omega) (by omega) (t1a ?_)
  refine m_in_y (by rw [nI_toInt (by omega)]; show (0 : Int) ≤ _; omega) (by rw [nI_toInt (by omega)]; show _ ≤ (2 : Int); omega) (t1b ?_)
  obtain ⟨L, hL⟩ : ∃ L, L = (if s = 2 then p - 1 else p) := ⟨_, rfl⟩
  rw [← hL] at h
  have hL2 : (s = 2 ∧ L = p - 1) ∨ (s < 2 ∧ L = p) := by
    by_cases c : s = 2
    · rw [if_pos c] at hL; exact Or.inl ⟨c, hL⟩
    · rw [if_neg c] at hL; exact Or.inr ⟨by omega, hL⟩
  obtain ⟨I, hI⟩ : ∃ I : Int32 → Int32 → Prop, ∀ a x, I a x ↔ ∃ k, k ≤ p ∧ x = nI k ∧ a = nI (fb_ct (SG B N s) (min k L)) := ⟨_, fun _ _ => Iff.rfl⟩
  obtain ⟨mu, hmu⟩ : ∃ mu : Int32 → Int32 → Nat, ∀ a x, mu a x = p - x.toNatClampNeg := ⟨_, fun _ _ => rfl⟩
  refine ⟨I, mu, (hI _ _).mpr ⟨0, Nat.zero_le _, rfl, by rw [Nat.zero_min]; rfl⟩, ?_⟩
  intro a x hIk
  obtain ⟨k, k1, rfl, rfl⟩ := (hI a x).mp hIk
  clear hIk
  refine pk_le p k (fun c => ?_) (fun c => ?_)
  · rw [Nat.min_eq_right (by omega)]; exact h
  · refine m_isSort hS h192 hT (by omega) hs ?_
    have fin : ∀ b : Bool, fb_ct (SG B N s) (min (k + 1) L) = fb_ct (SG B N s) (min k L) + (if b then 1 else 0) → (I (nI (fb_ct (SG B N s) (min k L)) + (if b then 1 else 0)) (nI k + 1) ∧ mu (nI (fb_ct (SG B N s) (min k L)) + (if b then 1 else 0)) (nI k + 1) < mu (nI (fb_ct (SG B N s) (min k L))) (nI k)) := by
      intro b hb
      rw [nI_1]
      refine ⟨(hI _ _).mpr ⟨k + 1, by omega, rfl, ?_⟩, ?_⟩
      · rw [hb]
        cases b
        · show nI _ + nI 0 = _; rw [nI_add]; rfl
        · show nI _ + nI 1 = _; rw [nI_add]; rfl
      · rw [hmu, hmu, nI_clamp (by omega), nI_clamp (by omega)]; omega
    refine b0_eq (fun hb => ?_) (fun hb => ?_)
    · rintro _ rfl _ rfl
      refine fin false ?_
      rcases Nat.lt_or_ge k L with z | z
      · rw [Nat.min_eq_left (by omega), Nat.min_eq_left (by omega), fb_ct_succ, hb]
      · rw [Nat.min_eq_right (by omega), Nat.min_eq_right (by omega)]; rfl
    · have cnt : k < L → fb_ct (SG B N s) (min (k + 1) L) = fb_ct (SG B N s) (min k L) + (if true then 1 else 0) := fun z => by
        rw [Nat.min_eq_left (by omega), Nat.min_eq_left (by omega), fb_ct_succ, hb]
      refine pk_lt s 2 (fun c2 => ?_) (fun c2 => ?_)
      · rintro _ rfl _ rfl
        exact fin true (cnt (by omega))
      · rw [nI_1]
        refine pk_le p (k + 1) (fun c3 => ?_) (fun c3 => ?_)
        · rintro _ rfl _ rfl
          rw [← nI_1]
          refine fin false ?_
          rw [Nat.min_eq_right (by omega), Nat.min_eq_right (by omega)]; rfl
        · rintro _ rfl _ rfl
          rw [← nI_1]
          exact fin true (cnt (by omega))
theorem o_rank {low high : Int64} {N : Nat} {g lo hi st w : Nat → Int32} (hX : XT low high N g lo hi) (hM : MT st (bb low high) N w) {p s : Int32} {Q : Prop} (hQ : Q) : wX5_rank low high (nI N) p s (fun r1 => wX6_rank st p s (fun r2 => r1 = r2 ∧ Q)) := by
  have hN := hX.1.1
  have h2 := hX.1.two
  have h64 := hM.m64 hX.1
  unfold wX5_rank
  rcases upto p N with ⟨j, j1, rfl⟩ | c
  · refine x_pt_y hN j1 (t1a ?_)
    rcases upto s 2 with ⟨k, k1, rfl⟩ | c
    · refine x_within (fun _ _ => t1b ?_) (fun z => by rw [nI_toInt (by omega), show (0 : Int32).toInt = 0 from rfl, show (2 : Int32).toInt = 2 from rfl] at z; omega)
      refine pk_ne k 2 (fun c => ?_) (fun c => ?_)
      · rw [nI_iI j]
        refine x_signsAhead hN (by omega) (by omega) (by omega) ?_
        rw [← nI_iI]
        refine m_rank hM.1 hM.2.1 hX.1 j1 k1 ?_
        rw [if_neg c, Int.toNat_natCast]; exact ⟨rfl, hQ⟩
      · rw [nI_iI j, iI_s1]
        refine x_signsAhead hN (by omega) (by omega) (by omega) ?_
        rw [← nI_iI]
        refine m_rank hM.1 hM.2.1 hX.1 j1 k1 ?_
        rw [if_pos c, show ((j : Int) - 1).toNat = j - 1 by omega]; exact ⟨rfl, hQ⟩
    · refine x_within (fun z1 z2 => by rw [show (0 : Int32).toInt = 0 from rfl] at z1; rw [show (2 : Int32).toInt = 2 from rfl] at z2; omega) (fun _ => t0b ?_)
      unfold wX6_rank
      refine m_mark_y hM.2.1 h64 (by omega) (t1a ?_)
      exact m_in_n (by show ¬ ((0 : Int) ≤ _ ∧ _ ≤ (2 : Int)); omega) (t0b ⟨rfl, hQ⟩)
  · refine x_pt_n hN c (t0a ?_)
    unfold wX6_rank
    exact m_mark_n hM.2.1 h64 (by omega) (t0a ⟨rfl, hQ⟩)
theorem m_select {st : Nat → Int32} {B : Nat → Bool} {N k s : Nat} (hS : MB st B N) (h192 : st 192 = nI (fb_ct B N)) (hT : Tr B N) (hk : k < 2147483648) (hs : s ≤ 2) {post : Int32 → Prop} (h1 : k < fb_ct (SG B N s) N → post (nI (kp (SG B N s) N k))) (h0 : fb_ct (SG B N s) N ≤ k → post (-4)) : wX6_select st (nI k) (nI s) post := by
  have hN := hT.1
  have h2 := hT.two
  unfold wX6_select
  refine ⟨fun z => absurd z (nI_pos (by omega)), fun _ => ?_⟩
  refine m_in_y (by rw [nI_toInt (by omega)]; show (0 : Int) ≤ _; omega) (by rw [nI_toInt (by omega)]; show _ ≤ (2 : Int); omega) (t1b ?_)
  obtain ⟨I, hI⟩ : ∃ I : Int32 → Int32 → Prop, ∀ a x, I a x ↔ ∃ p, p ≤ N ∧ x = nI p ∧ fb_ct (SG B N s) p ≤ k ∧ a = nI (k - fb_ct (SG B N s) p) := ⟨_, fun _ _ => Iff.rfl⟩
  obtain ⟨mu, hmu⟩ : ∃ mu : Int32 → Int32 → Nat, ∀ a x, mu a x = N - x.toNatClampNeg := ⟨_, fun _ _ => rfl⟩
  refine ⟨I, mu, (hI _ _).mpr ⟨0, Nat.zero_le _, rfl, Nat.zero_le _, rfl⟩, ?_⟩
  intro a x hIk
  obtain ⟨p, p1, rfl, p2, rfl⟩ := (hI a x).mp hIk
  clear hIk
  refine m_places h192 ?_
  refine pk_le (2 * fb_ct B N) p (fun c => ?_) (fun c => ?_)
  · refine h0 ?_
    rw [show p = N by omega] at p2; exact p2
  · refine m_isSort hS h192 hT (by omega) hs ?_
    have hst := fb_ct_succ (SG B N s) p
    refine b0_eq (fun hb => ?_) (fun hb => ?_)
    · rintro _ rfl
      rw [hb] at hst
      have hst : fb_ct (SG B N s) (p + 1) = fb_ct (SG B N s) p := hst
      rw [nI_1]
      refine ⟨(hI _ _).mpr ⟨p + 1, by omega, rfl, by omega, by rw [hst]⟩, ?_⟩
      rw [hmu, hmu, nI_clamp (by omega), nI_clamp (by omega)]; omega
    · rw [hb] at hst
      have hst : fb_ct (SG B N s) (p + 1) = fb_ct (SG B N s) p + 1 := hst
      refine pk_ne (k - fb_ct (SG B N s) p) 0 (fun c3 => ?_) (fun c3 => ?_)
      · rintro _ rfl _ rfl
        rw [nI_1, show nI (k - fb_ct (SG B N s) p) = nI (k - fb_ct (SG B N s) (p + 1) + 1) from by congr 1; omega, pk_m1]
        refine ⟨(hI _ _).mpr ⟨p + 1, by omega, rfl, by omega, rfl⟩, ?_⟩
        rw [hmu, hmu, nI_clamp (by omega), nI_clamp (by omega)]; omega
      · have hm := fb_ct_mono (SG B N s) (show p + 1 ≤ N by omega)
        have := h1 (by omega)
        rw [kp_eq (q := p) (by omega) hb (by omega)] at this
        exact this
theorem o_select {low high : Int64} {N : Nat} {g lo hi st w : Nat → Int32} (hX : XT low high N g lo hi) (hM : MT st (bb low high) N w) {p s : Int32} {Q : Prop} (hQ : Q) : wX5_select low high (nI N) p s (fun r1 => wX6_select st p s (fun r2 => r1 = r2 ∧ Q)) := by
  have hN := hX.1.1
  unfold wX5_select
  refine ⟨fun c => ?_, fun c => ?_⟩
  · unfold wX6_select
    exact ⟨fun _ => ⟨rfl, hQ⟩, fun z => absurd c z⟩
  · obtain ⟨j, j1, rfl⟩ := nI_of c
    rcases upto s 2 with ⟨k, k1, rfl⟩ | c2
    · refine x_within (fun _ _ => t1b ?_) (fun z => by rw [nI_toInt (by omega), show (0 : Int32).toInt = 0 from rfl, show (2 : Int32).toInt = 2 from rfl] at z; omega)
      refine x_placeOfSign hN (by omega) j1 hX.2.1 (fun c3 => ?_) (fun c3 => ?_)
      · exact m_select hM.1 hM.2.1 hX.1 j1 k1 (fun _ => ⟨rfl, hQ⟩) (fun z => by omega)
      · exact m_select hM.1 hM.2.1 hX.1 j1 k1 (fun z => by omega) (fun _ => ⟨rfl, hQ⟩)
    · refine x_within (fun z1 z2 => by rw [show (0 : Int32).toInt = 0 from rfl] at z1; rw [show (2 : Int32).toInt = 2 from rfl] at z2; omega) (fun _ => t0b ?_)
      unfold wX6_select
      refine ⟨fun z => absurd z (nI_pos (by omega)), fun _ => ?_⟩
      exact m_in_n (by show ¬ ((0 : Int) ≤ _ ∧ _ ≤ (2 : Int)); omega) (t0b ⟨rfl, hQ⟩)
