/-! the reference's small methods -/
/-- the reference's places tell B -/
def MB (st : Nat → Int32) (B : Nat → Bool) (N : Nat) : Prop := ∀ k, k < N → st k = if B k then 1 else 0
theorem MB.one {st : Nat → Int32} {B : Nat → Bool} {N k : Nat} (h : MB st B N) (hk : k < N) : st k = 1 ↔ B k = true := by
  rw [h k hk]
  cases B k <;> decide
theorem MB.zero {st : Nat → Int32} {B : Nat → Bool} {N k : Nat} (h : MB st B N) (hk : k < N) : st k = 0 ↔ B k = false := by
  rw [h k hk]
  cases B k <;> decide
theorem m_excessAt {st : Nat → Int32} {B : Nat → Bool} {N p : Nat} (hS : MB st B N) (hp : p ≤ N) (hN : N ≤ 128) {post : Int32 → Prop} (h : post (iI (ex B p))) : wX6_excessAt st (nI p) post := by
  unfold wX6_excessAt
  refine ⟨fun s k => ∃ j, j ≤ p ∧ k = nI j ∧ s = iI (ex B j), fun _ k => p - k.toNatClampNeg, ⟨0, Nat.zero_le _, rfl, by rw [ex_0]; rfl⟩, ?_⟩
  rintro s k ⟨j, hj, rfl, rfl⟩
  refine pk_le p j (fun c => ?_) (fun c => ⟨pk_in j 579 (by omega), ?_⟩)
  · rw [show j = p by omega]; exact h
  · rw [nI_clamp (by omega)]
    refine ⟨fun c2 => ?_, fun c2 => ?_⟩
    · rintro x rfl y rfl
      have c3 : B j = false := by
        cases hb : B j with
        | false => rfl
        | true => exact absurd ((hS.one (by omega)).mpr hb) c2
      have e1 : nI j + 1 = nI (j + 1) := nI_1 j
      refine ⟨⟨j + 1, by omega, e1, ?_⟩, ?_⟩
      · rw [ex_f c3]; exact iI_m1 _
      · dsimp only; rw [e1, nI_clamp (by omega), nI_clamp (by omega)]; omega
    · rintro x rfl y rfl
      have c3 : B j = true := (hS.one (by omega)).mp c2
      have e1 : nI j + 1 = nI (j + 1) := nI_1 j
      refine ⟨⟨j + 1, by omega, e1, ?_⟩, ?_⟩
      · rw [ex_t c3]; exact iI_p1 _
      · dsimp only; rw [e1, nI_clamp (by omega), nI_clamp (by omega)]; omega
theorem m_opensAt {st : Nat → Int32} {B : Nat → Bool} {N p : Nat} (hS : MB st B N) (hp : p ≤ N) (hN : N ≤ 128) {post : Int32 → Prop} (h : post (nI (fb_ct B p))) : wX6_opensAt st (nI p) post := by
  unfold wX6_opensAt
  refine m_excessAt hS hp hN ?_
  have e1 : nI p + iI (ex B p) = nI (2 * fb_ct B p) := by
    rw [nI_iI, iI_add, nI_iI]
    congr 1
    have := ex_par B p
    omega
  rw [e1]
  have e2 : nI (2 * fb_ct B p) / 2 = nI (fb_ct B p) := by
    have := fb_ct_le B p
    have h3 := pk_div (a := 2 * fb_ct B p) (d := 2) (by omega) (by omega) (by omega)
    rw [show 2 * fb_ct B p / 2 = fb_ct B p by omega] at h3
    exact h3
  rw [e2]
  exact h
theorem m_openOf {st : Nat → Int32} {B : Nat → Bool} {N v : Nat} (hS : MB st B N) (hN : N ≤ 128) (hv : v < fb_ct B N) {post : Int32 → Prop} (h : post (nI (kp B N v))) : wX6_openOf st (nI v) post := by
  have hc := fb_ct_le B N
  unfold wX6_openOf
  -- left counts down from v: behind k rounds p is the open of node k - 1
  refine ⟨fun p left => ∃ k, k ≤ v + 1 ∧ left = iI ((v : Int) - k) ∧ (k = 0 ∧ p = -1 ∨ 0 < k ∧ p = nI (kp B N (k - 1))), fun _ left => (left.toInt + 1).toNat, ⟨0, Nat.zero_le _, by rw [nI_iI]; congr 1, Or.inl ⟨rfl, rfl⟩⟩, ?_⟩
  rintro p left ⟨k, hk, rfl, hp⟩
  refine q_lt ((v : Int) - k) 0 (fun c => ?_) (fun c => ?_)
  · rcases hp with ⟨hk0, _⟩ | ⟨hk0, rfl⟩
    · omega
    · rw [show k - 1 = v by omega]; exact h
  · rintro x rfl
    -- places from p + 1 on up to the open of node k
    have hkv : k ≤ v := by omega
    obtain ⟨o1, o2, o3⟩ := kp_spec (S := B) (N := N) (k := k) (by omega)
    obtain ⟨a, ha, ha2, ha3⟩ : ∃ a : Nat, p + 1 = nI a ∧ a ≤ kp B N k ∧ ∀ j, a ≤ j → j < kp B N k → B j = false := by
      rcases hp with ⟨hk0, rfl⟩ | ⟨hk0, rfl⟩
      · refine ⟨0, rfl, Nat.zero_le _, fun j _ j2 => ?_⟩
        subst hk0
        have h0 := (fb_ct_zero (p := B) (n := kp B N 0)).mp o3
        exact h0 j j2
      · refine ⟨kp B N (k - 1) + 1, nI_1 _, ?_, fun j j1 j2 => ?_⟩
        · have := kp_lt (S := B) (N := N) (a := k - 1) (b := k) (by omega) (by omega); omega
        · have h3 := kp_gap (S := B) (N := N) (k := k - 1) (j := j) (by omega) (by omega)
          rw [show k - 1 + 1 = k by omega] at h3
          exact h3 j2
    rw [ha]
    refine ⟨fun y => ∃ j, a ≤ j ∧ j ≤ kp B N k ∧ y = nI j, fun y => kp B N k - y.toNatClampNeg, ⟨a, Nat.le_refl _, ha2, rfl⟩, ?_⟩
    rintro y ⟨j, j1, j2, rfl⟩
    refine ⟨pk_in j 579 (by omega), ?_⟩
    rw [nI_clamp (by omega)]
    refine ⟨fun c2 => ?_, fun c2 => ?_⟩
    · rintro z rfl
      have e : j = kp B N k := by
        rcases Nat.eq_or_lt_of_le j2 with e | e
        · exact e
        · exact absurd ((hS.zero (by omega)).mpr (ha3 j j1 e)) c2
      subst e
      refine ⟨⟨k + 1, by omega, ?_, Or.inr ⟨by omega, rfl⟩⟩, ?_⟩
      · rw [iI_m1]; congr 1; omega
      · dsimp only; rw [iI_m1, iI_toInt (by omega) (by omega), iI_toInt (by omega) (by omega)]; omega
    · rintro z rfl
      have e : j < kp B N k := by
        rcases Nat.eq_or_lt_of_le j2 with e | e
        · rw [e] at c2
          have := (hS.zero o1).mp c2
          rw [o2] at this
          cases this
        · exact e
      have e1 : nI j + 1 = nI (j + 1) := nI_1 j
      refine ⟨⟨j + 1, by omega, by omega, e1⟩, ?_⟩
      dsimp only; rw [e1, nI_clamp (by omega), nI_clamp (by omega)]; omega
theorem m_shutOf {st : Nat → Int32} {B : Nat → Bool} {N q : Nat} (hS : MB st B N) (hT : Tr B N) (hq : q < N) (hB : B q = true) {post : Int32 → Prop} (h : post (nI (sh B N q))) : wX6_shutOf st (nI q) post := by
  have hN := hT.1
  obtain ⟨s1, s2, s3, s4⟩ := sh_spec hT hq hB
  have hb1 := ex_t hB
  unfold wX6_shutOf
  refine ⟨fun d p => ∃ j, q ≤ j ∧ j ≤ sh B N q ∧ p = nI j ∧ d = iI (ex B (j + 1) - ex B q), fun _ p => sh B N q - p.toNatClampNeg, ⟨q, Nat.le_refl _, by omega, rfl, by rw [hb1, show ex B q + 1 - ex B q = 1 by omega]; rfl⟩, ?_⟩
  rintro d p ⟨j, j1, j2, rfl, rfl⟩
  have b1 := ex_b B (j + 1)
  have b2 := ex_b B q
  refine q_le (ex B (j + 1) - ex B q) 0 (fun c => ?_) (fun c => ?_)
  · have e : j = sh B N q := by
      rcases Nat.eq_or_lt_of_le j2 with e | e
      · exact e
      · have := s4 (j + 1) (by omega) (by omega); omega
    rw [e] at *; exact h
  · have e : j < sh B N q := by
      rcases Nat.eq_or_lt_of_le j2 with e | e
      · rw [e, s3] at c; omega
      · exact e
    rintro x rfl
    have e1 : nI j + 1 = nI (j + 1) := nI_1 j
    rw [e1]
    refine ⟨pk_in (j + 1) 579 (by omega), ?_⟩
    rw [nI_clamp (by omega)]
    refine ⟨fun c2 => ?_, fun c2 => ?_⟩
    · rintro z rfl
      have c3 : B (j + 1) = false := by
        cases hb : B (j + 1) with
        | false => rfl
        | true => exact absurd ((hS.one (by omega)).mpr hb) c2
      refine ⟨⟨j + 1, by omega, by omega, rfl, ?_⟩, ?_⟩
      · rw [ex_f c3, iI_m1]; congr 1; omega
      · dsimp only; rw [nI_clamp (by omega), nI_clamp (by omega)]; omega
    · rintro z rfl
      have c3 : B (j + 1) = true := (hS.one (by omega)).mp c2
      refine ⟨⟨j + 1, by omega, by omega, rfl, ?_⟩, ?_⟩
      · rw [ex_t c3, iI_p1]; congr 1; omega
      · dsimp only; rw [nI_clamp (by omega), nI_clamp (by omega)]; omega
theorem m_depthOf {st : Nat → Int32} {B : Nat → Bool} {N v : Nat} (hS : MB st B N) (hN : N ≤ 128) (hv : v < fb_ct B N) {post : Int32 → Prop} (h : post (iI (ex B (kp B N v)))) : wX6_depthOf st (nI v) post := by
  unfold wX6_depthOf
  exact m_openOf hS hN hv (m_excessAt hS (kp_le B N v) hN h)
theorem m_sizeOf {st : Nat → Int32} {B : Nat → Bool} {N v : Nat} (hS : MB st B N) (hT : Tr B N) (hv : v < fb_ct B N) {post : Int32 → Prop} (h : post (nI (sz B N v))) : wX6_sizeOf st (nI v) post := by
  have hN := hT.1
  obtain ⟨o1, o2, o3⟩ := kp_spec hv
  obtain ⟨z1, z2, z3, z4⟩ := sz_eq hT hv
  unfold wX6_sizeOf
  refine m_openOf hS hN hv (m_shutOf hS hT o1 o2 ?_)
  have := (sh_spec hT o1 o2).1
  have := (sh_spec hT o1 o2).2.1
  rw [pk_sub (by omega), show nI (sh B N (kp B N v) - kp B N v) + 1 = nI (sh B N (kp B N v) - kp B N v + 1) from nI_1 _, show sh B N (kp B N v) - kp B N v + 1 = 2 * sz B N v by omega]
  have h3 := pk_div (a := 2 * sz B N v) (d := 2) (by omega) (by omega) (by omega)
  rw [show 2 * sz B N v / 2 = sz B N v by omega] at h3
  rw [show nI (2 * sz B N v) / 2 = nI (sz B N v) from h3]
  exact h
