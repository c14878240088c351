/-! the reference's questions about nodes -/
def MT (st : Nat → Int32) (B : Nat → Bool) (N : Nat) (w : Nat → Int32) : Prop := MB st B N ∧ st 192 = nI (fb_ct B N) ∧ ∀ v, v < fb_ct B N → st (128 + v) = w v
theorem m_in {A L H : Int64} {post : Int32 → Prop} (h1 : L.toInt ≤ A.toInt → A.toInt ≤ H.toInt → post 1) (h0 : ¬ (L.toInt ≤ A.toInt ∧ A.toInt ≤ H.toInt) → post 0) : wX6_in A L H post := by
  unfold wX6_in
  have e1 : (lg_cmp A L < 0) ↔ A.toInt < L.toInt := by
    unfold lg_cmp
    simp only [gt_iff_lt, Int64.lt_iff_toInt_lt, ← Int64.toInt_inj]
    by_cases c : L.toInt < A.toInt
    · rw [if_pos c]; exact ⟨fun z => absurd z (by decide), fun z => by omega⟩
    · rw [if_neg c]
      by_cases c2 : A.toInt = L.toInt
      · rw [if_pos c2]; exact ⟨fun z => absurd z (by decide), fun z => by omega⟩
      · rw [if_neg c2]; exact ⟨fun _ => by omega, fun _ => by decide⟩
  have e2 : (0 < lg_cmp A H) ↔ H.toInt < A.toInt := by
    unfold lg_cmp
    simp only [gt_iff_lt, Int64.lt_iff_toInt_lt, ← Int64.toInt_inj]
    by_cases c : H.toInt < A.toInt
    · rw [if_pos c]; exact ⟨fun _ => c, fun _ => by decide⟩
    · rw [if_neg c]
      by_cases c2 : A.toInt = H.toInt
      · rw [if_pos c2]; exact ⟨fun z => absurd z (by decide), fun z => by omega⟩
      · rw [if_neg c2]; exact ⟨fun z => absurd z (by decide), fun z => by omega⟩
  rw [e1, e2]
  exact ⟨fun c => h0 (by omega), fun c => ⟨fun c2 => h0 (by omega), fun c2 => h1 (by omega) (by omega)⟩⟩
theorem t64 (x : Int32) : x.toInt64.toInt = x.toInt := Int32.toInt_toInt64 x
theorem m_many {st : Nat → Int32} {M : Nat} (h : st 192 = nI M) {post : Int32 → Prop} (hp : post (nI M)) : wX6_many st post := by
  unfold wX6_many
  refine ⟨pk_in 192 579 (by omega), ?_⟩
  rw [show (192 : Int32).toNatClampNeg = 192 from rfl, h]
  exact hp
theorem m_places {st : Nat → Int32} {M : Nat} (h : st 192 = nI M) {post : Int32 → Prop} (hp : post (nI (2 * M))) : wX6_places st post := by
  unfold wX6_places
  refine ⟨pk_in 192 579 (by omega), ?_⟩
  rw [show (192 : Int32).toNatClampNeg = 192 from rfl, h, show (2 : Int32) = nI 2 from rfl, pk_mul]
  exact hp
theorem nzb1 : narrow .boolean (.int (1 : Int32)) = .int 1 := rfl
theorem nzb0 : narrow .boolean (.int (0 : Int32)) = .int 0 := rfl
theorem m_isNode {st : Nat → Int32} {M : Nat} {p : Int32} (h : st 192 = nI M) (hM : M ≤ 64) {post : Int32 → Prop} (h1 : ∀ v, v < M → p = nI v → post 1) (h0 : (p.toInt < 0 ∨ (M : Int) ≤ p.toInt) → post 0) : wX6_isNode st p post := by
  unfold wX6_isNode
  refine m_many h ?_
  have e : (nI M - 1).toInt64.toInt = (M : Int) - 1 := by rw [t64, nI_iI, iI_s1, iI_toInt (by omega) (by omega)]
  refine m_in (fun a1 a2 => ⟨nzb1, ?_⟩) (fun a => ⟨nzb0, h0 ?_⟩)
  · rw [t64] at a1 a2
    rw [e] at a2
    have e0 : (0 : Int64).toInt = 0 := rfl
    rw [e0] at a1
    refine h1 p.toInt.toNat (by omega) ?_
    rw [nI_iI, Int.toNat_of_nonneg a1]; exact iI_self p
  · rw [t64, e] at a
    have e0 : (0 : Int64).toInt = 0 := rfl
    rw [e0] at a
    omega
theorem m_node1 {st : Nat → Int32} {M v : Nat} (h : st 192 = nI M) (hM : M ≤ 64) (hv : v < M) {post : Int32 → Prop} (h1 : post 1) : wX6_isNode st (nI v) post :=
  m_isNode h hM (fun _ _ _ => h1) (fun z => by rw [nI_toInt (by omega)] at z; omega)
theorem m_isMark {st : Nat → Int32} {M : Nat} {p : Int32} (h : st 192 = nI M) (hM : M ≤ 64) {post : Int32 → Prop} (h1 : ∀ j, j ≤ 2 * M → p = nI j → post 1) (h0 : (p.toInt < 0 ∨ 2 * (M : Int) < p.toInt) → post 0) : wX6_isMark st p post := by
  unfold wX6_isMark
  refine m_places h ?_
  have e : (nI (2 * M)).toInt64.toInt = 2 * (M : Int) := by rw [t64, nI_toInt (by omega)]; omega
  have e0 : (0 : Int64).toInt = 0 := rfl
  refine m_in (fun a1 a2 => ⟨nzb1, ?_⟩) (fun a => ⟨nzb0, h0 ?_⟩)
  · rw [t64] at a1 a2
    rw [e] at a2
    rw [e0] at a1
    refine h1 p.toInt.toNat (by omega) ?_
    rw [nI_iI, Int.toNat_of_nonneg a1]; exact iI_self p
  · rw [t64, e, e0] at a
    omega
theorem root_0 {B : Nat → Bool} {N q : Nat} (hT : Tr B N) (hq : q < N) (h : ex B q = 0) : q = 0 := by
  rcases Nat.eq_zero_or_pos q with z | z
  · exact z
  · have := hT.2.2 q z hq; omega
theorem kp_ct' {B : Nat → Bool} {N q : Nat} (hq : q < N) (hB : B q = true) : kp B N (fb_ct B q) = q ∧ fb_ct B q < fb_ct B N := by
  refine ⟨kp_eq hq hB rfl, ?_⟩
  have h1 := fb_ct_mono B (show q + 1 ≤ N from hq)
  rw [fb_ct_succ, if_pos hB] at h1
  omega
theorem m4_ne {n : Nat} (h : n < 2147483648) : ¬ nI n = (-4 : Int32) := fun z => by
  have : (nI n).toInt = (-4 : Int32).toInt := by rw [z]
  rw [nI_toInt (by omega)] at this
  have e4 : (-4 : Int32).toInt = -4 := rfl
  omega
theorem m_upFrom {st : Nat → Int32} {B : Nat → Bool} {N v k : Nat} (hS : MB st B N) (hT : Tr B N) (hv : v < fb_ct B N) (hk : k < 2147483648) {post : Int32 → Prop} (h1 : ∀ q', AN B (kp B N v) k q' → post (nI (fb_ct B q'))) (h0 : ex B (kp B N v) < k → post (-4)) : wX6_upFrom st (nI v) (nI k) post := by
  have hN := hT.1
  obtain ⟨o1, o2, o3⟩ := kp_spec hv
  have hcN := fb_ct_le B N
  have hb0 := ex_b B (kp B N v)
  have hnn := hT.nn (show kp B N v ≤ N by omega)
  unfold wX6_upFrom
  obtain ⟨I, hI⟩ : ∃ I : Int32 → Int32 → Prop, ∀ a i, I a i ↔ ∃ j, j ≤ k ∧ i = nI j ∧ ((∃ q', AN B (kp B N v) j q' ∧ a = nI (fb_ct B q')) ∨ (ex B (kp B N v) < j ∧ a = -4)) := ⟨_, fun _ _ => Iff.rfl⟩
  obtain ⟨mu, hmu⟩ : ∃ mu : Int32 → Int32 → Nat, ∀ a i, mu a i = k - i.toNatClampNeg := ⟨_, fun _ _ => rfl⟩
  refine ⟨I, mu, (hI _ _).mpr ⟨0, Nat.zero_le _, rfl, Or.inl ⟨_, AN.zero B _, by rw [o3]⟩⟩, ?_⟩
  intro a i hIk
  obtain ⟨j, j1, rfl, hj⟩ := (hI a i).mp hIk
  clear hIk
  refine pk_le k j (fun c => ?_) (fun c => ?_)
  · have e : j = k := by omega
    subst e
    rcases hj with ⟨q', hq', rfl⟩ | ⟨hj1, rfl⟩
    · exact h1 q' hq'
    · exact h0 hj1
  · rcases hj with ⟨q1, hq1, rfl⟩ | ⟨hj1, rfl⟩
    · have q1lt : q1 < N := Nat.lt_of_le_of_lt hq1.1 o1
      have q1B := hq1.opn o2
      obtain ⟨kq1, kq2⟩ := kp_ct' q1lt q1B
      refine ⟨fun z => absurd z (m4_ne (by omega)), fun _ => ?_⟩
      refine m_depthOf hS hN kq2 ?_
      rw [kq1]
      have hbq := ex_b B q1
      have hnq := hT.nn (show q1 ≤ N by omega)
      rintro _ rfl
      have fin : ∀ y : Int32, I y (nI (j + 1)) → (∀ x : Int32, x = nI j + 1 → (I y x ∧ mu y x < mu (nI (fb_ct B q1)) (nI j))) := by
        rintro y hy _ rfl
        rw [nI_1]
        exact ⟨hy, by rw [hmu, hmu, nI_clamp (by omega), nI_clamp (by omega)]; omega⟩
      rcases Int.lt_or_le 0 (ex B q1) with hd | hd
      · obtain ⟨q2, hq2⟩ := AN_ex (B := B) (q := q1) (k := 1) (by omega)
        have q2lt : q2 < q1 := by
          rcases Nat.eq_or_lt_of_le hq2.1 with e | e
          · have := hq2.2.1; rw [e] at this; omega
          · exact e
        have q2B := hq2.opn q1B
        obtain ⟨kr1, kr2⟩ := kp_ct' (show q2 < N by omega) q2B
        have hlt : fb_ct B q2 < fb_ct B q1 := by
          have := fb_ct_mono B (show q2 + 1 ≤ q1 from q2lt)
          rw [fb_ct_succ, if_pos q2B] at this
          omega
        rw [show nI (fb_ct B q1) - 1 = nI (fb_ct B q1 - 1) from pk_sub (b := 1) (by omega)]
        refine ⟨fun y => ∃ w, fb_ct B q2 ≤ w ∧ w < fb_ct B q1 ∧ y = nI w, fun y => y.toNatClampNeg, ⟨_, by omega, by omega, rfl⟩, ?_⟩
        rintro y ⟨w, w1, w2, rfl⟩
        refine ⟨fun z => absurd z (nI_pos (by omega)), fun _ => ?_⟩
        refine m_depthOf hS hN (by omega) ?_
        have hbw := ex_b B (kp B N w)
        have hwle := kp_le B N w
        rw [iI_s1]
        refine q_eq (ex B (kp B N w)) (ex B q1 - 1) (fun c3 => ?_) (fun c3 => ?_)
        · have ew : w = fb_ct B q2 := by
            rcases Nat.eq_or_lt_of_le w1 with e | e
            · exact e.symm
            · have g1 := kp_lt (S := B) (N := N) e (show w ≤ fb_ct B N by omega)
              have g2 := kp_lt (S := B) (N := N) w2 (show fb_ct B q1 ≤ fb_ct B N by omega)
              rw [kr1] at g1
              rw [kq1] at g2
              have := hq2.2.2 _ g1 (by omega)
              have := hq2.2.1
              omega
          refine ⟨fun _ => fin _ ((hI _ _).mpr ⟨j + 1, by omega, rfl, Or.inl ⟨q2, hq1.more hq2, by rw [ew]⟩⟩), fun z => absurd (nI_pos' (by omega)) z⟩
        · rintro _ rfl
          have e1 : fb_ct B q2 < w := by
            rcases Nat.eq_or_lt_of_le w1 with e | e
            · rw [← e, kr1] at c3
              have := hq2.2.1
              omega
            · exact e
          rw [show nI w + (-1) = nI (w - 1) from by rw [nI_iI, iI_m1, nI_iI]; congr 1; omega]
          refine ⟨⟨w - 1, by omega, by omega, rfl⟩, ?_⟩
          dsimp only
          rw [nI_clamp (by omega), nI_clamp (by omega)]; omega
      · have e0 : q1 = 0 := root_0 hT q1lt (by omega)
        subst e0
        refine ⟨fun y => y = -1, fun _ => 0, rfl, ?_⟩
        rintro y rfl
        refine ⟨fun _ => ⟨fun z => absurd z (by decide), fun _ => fin _ ((hI _ _).mpr ⟨j + 1, by omega, rfl, Or.inr ⟨?_, rfl⟩⟩)⟩, fun z => absurd (by decide) z⟩
        have := hq1.2.1
        rw [ex_0] at this
        omega
    · exact ⟨fun _ => h0 (by omega), fun z => absurd rfl z⟩
