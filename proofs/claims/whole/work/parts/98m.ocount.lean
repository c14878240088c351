/-! count, feed, end: both sides -/
def OD (B : Nat → Bool) (k : Nat) : Bool := B k && decide (k % 2 = 1)
theorem lb_odd : ∀ k, k < 64 → lb (-6148914691236517206) k = decide (k % 2 = 1) := by decide +kernel
theorem x_odd {low high : Int64} {N : Nat} {g lo hi : Nat → Int32} (hX : XT low high N g lo hi) {post : Int32 → Prop} (h : post (nI (fb_ct (OD (bb low high)) N))) : wX1_opensAtOddPlaces low high post := by
  have hN := hX.1.1
  unfold wX1_opensAtOddPlaces
  refine x_bitCount (x_bitCount ?_)
  rw [nI_add]
  have e1 : fb_ct (lb (low &&& -6148914691236517206)) 64 = fb_ct (OD (bb low high)) 64 := fb_ct_cong (fun k hk => by
    rw [lb_and, lb_odd k hk]; unfold OD; rw [bb_lo hk])
  have e2 : fb_ct (lb (high &&& -6148914691236517206)) 64 = fb_ct (fun k => OD (bb low high) (64 + k)) 64 := fb_ct_cong (fun k hk => by
    rw [lb_and, lb_odd k hk]; unfold OD; rw [bb_hi']
    congr 2
    rw [show (64 + k) % 2 = k % 2 by omega])
  have e3 := fb_ct_split (OD (bb low high)) 64 64
  have e4 : fb_ct (OD (bb low high)) 128 = fb_ct (OD (bb low high)) N := ct_N hN (fun k hk => by unfold OD; rw [hX.2.1 k hk, Bool.false_and])
  rw [e1, e2, ← e3, show 64 + 64 = 128 from rfl, e4]
  exact h
theorem m_count {st w : Nat → Int32} {B : Nat → Bool} {N : Nat} (hM : MT st B N w) (hT : Tr B N) {tp s : Int32} {ik la le : Nat → Int32} {post : Int32 → Prop} (h0 : s = 0 → (((ik 0) = 0 → (((ik 1) = 0 → post ((0 : Int32) + (0 : Int32))) ∧ (¬ (ik 1) = 0 → post ((0 : Int32) + (1 : Int32))))) ∧ (¬ (ik 0) = 0 → (((ik 1) = 0 → post ((1 : Int32) + (0 : Int32))) ∧ (¬ (ik 1) = 0 → post ((1 : Int32) + (1 : Int32))))))) (h1 : s = 1 → post tp) (h2 : s = 2 → ((¬ la 0 = -4 → post (le 0)) ∧ (la 0 = -4 → post (-4)))) (h3 : s = 3 → post (nI (fb_ct (OD B) N))) (h4 : ¬ s = 0 → ¬ s = 1 → ¬ s = 2 → ¬ s = 3 → post (-1)) : wX6_count tp st ik la le s post := by
  have hN := hT.1
  have h64 := hM.m64 hT
  have hNc := hT.two
  unfold wX6_count
  refine ⟨fun x y => ∃ i, 2 * i ≤ N ∧ y = nI (2 * i + 1) ∧ x = nI (fb_ct (OD B) (2 * i + 1)), fun _ y => 200 - y.toNatClampNeg, ⟨0, Nat.zero_le _, rfl, ?_⟩, ?_⟩
  · rw [fb_ct_succ, show OD B (2 * 0) = false from by unfold OD; rw [decide_eq_false (by omega), Bool.and_false]]; rfl
  rintro x y ⟨i, i1, rfl, rfl⟩
  have hev : ∀ q, OD B (2 * q) = false := fun q => by unfold OD; rw [decide_eq_false (by omega), Bool.and_false]
  refine m_places hM.2.1 (pk_le (2 * fb_ct B N) (2 * i + 1) (fun c => ?_) (fun c => ?_))
  · have eN : 2 * i = N := by omega
    have ec : fb_ct (OD B) (2 * i + 1) = fb_ct (OD B) N := by
      rw [fb_ct_succ, hev i, eN]; rfl
    rw [ec, show (0 : Int32).toNatClampNeg = 0 from rfl, show (1 : Int32).toNatClampNeg = 1 from rfl]
    refine ⟨fun z => ⟨pk_in 0 2 (by omega), fun a => ⟨pk_in 1 2 (by omega), ?_⟩, fun a => ⟨pk_in 1 2 (by omega), ?_⟩⟩, h1, fun z => ⟨pk_in 0 4 (by omega), fun a => ⟨pk_in 0 4 (by omega), (h2 z).1 a⟩, (h2 z).2⟩, h3, h4⟩
    · exact (h0 z).1 a
    · exact (h0 z).2 a
  · refine ⟨pk_in (2 * i + 1) 579 (by omega), ?_⟩
    rw [nI_clamp (by omega), hM.1 _ (by omega)]
    rintro _ rfl
    rintro _ rfl
    have e2 : nI (2 * i + 1) + 2 = nI (2 * (i + 1) + 1) := nI_add (2 * i + 1) 2
    rw [e2]
    refine ⟨⟨i + 1, by omega, rfl, ?_⟩, ?_⟩
    · have e3 : fb_ct (OD B) (2 * (i + 1) + 1) = fb_ct (OD B) (2 * i + 1) + (if B (2 * i + 1) then 1 else 0) := by
        rw [show 2 * (i + 1) + 1 = 2 * i + 1 + 1 + 1 by omega, fb_ct_succ, show 2 * i + 1 + 1 = 2 * (i + 1) by omega, hev, show 2 * (i + 1) = 2 * i + 1 + 1 by omega, fb_ct_succ]
        have : OD B (2 * i + 1) = B (2 * i + 1) := by unfold OD; rw [decide_eq_true (by omega), Bool.and_true]
        rw [this]
        rfl
      rw [e3]
      cases B (2 * i + 1)
      · show _ + (0 : Int32) = nI (_ + 0)
        rw [Nat.add_zero, show (0 : Int32) = nI 0 from rfl, nI_add, Nat.add_zero]
      · show _ + (1 : Int32) = nI (_ + 1)
        rw [nI_1]
    · dsimp only
      rw [nI_clamp (by omega), nI_clamp (by omega)]; omega
theorem o_count {low high : Int64} {N : Nat} {g lo hi st w : Nat → Int32} (hX : XT low high N g lo hi) (hM : MT st (bb low high) N w) {tp kd ln s : Int32} {kf ik la le : Nat → Int32} {ce mc : Nat → Int64} (hk0 : kf 0 = ik 0) (hk1 : kf 1 = ik 1) (hS : SH kd ln ce la le mc 0) {Q : Prop} (hQ : Q) : wX5_count low high kf tp kd ln s (fun r1 => wX6_count tp st ik la le s (fun r2 => r1 = r2 ∧ Q)) := by
  unfold wX5_count
  rw [show (0 : Int32).toNatClampNeg = 0 from rfl, show (1 : Int32).toNatClampNeg = 1 from rfl, hk0, hk1]
  have no : ∀ {a b : Int32} {P : Prop}, ¬ a = b → s = a → s = b → P := fun h x y => absurd (x.symm.trans y) h
  refine ⟨fun z => ⟨pk_in 0 2 (by omega), fun a => ⟨pk_in 1 2 (by omega), fun b => ?_, fun b => ?_⟩, fun a => ⟨pk_in 1 2 (by omega), fun b => ?_, fun b => ?_⟩⟩, fun z => ?_, fun z => ⟨pk_in 0 4 (by omega), ?_⟩, fun z => ?_, fun z0 z1 z2 z3 => ?_⟩
  · exact m_count hM hX.1 (fun _ => ⟨fun _ => ⟨fun _ => ⟨rfl, hQ⟩, fun y => absurd b y⟩, fun y => absurd a y⟩) (no (by decide) z) (no (by decide) z) (no (by decide) z) (fun y => absurd z y)
  · exact m_count hM hX.1 (fun _ => ⟨fun _ => ⟨fun y => absurd y b, fun _ => ⟨rfl, hQ⟩⟩, fun y => absurd a y⟩) (no (by decide) z) (no (by decide) z) (no (by decide) z) (fun y => absurd z y)
  · exact m_count hM hX.1 (fun _ => ⟨fun y => absurd y a, fun _ => ⟨fun _ => ⟨rfl, hQ⟩, fun y => absurd b y⟩⟩) (no (by decide) z) (no (by decide) z) (no (by decide) z) (fun y => absurd z y)
  · exact m_count hM hX.1 (fun _ => ⟨fun y => absurd y a, fun _ => ⟨fun y => absurd y b, fun _ => ⟨rfl, hQ⟩⟩⟩) (no (by decide) z) (no (by decide) z) (no (by decide) z) (fun y => absurd z y)
  · exact m_count hM hX.1 (no (by decide) z) (fun _ => ⟨rfl, hQ⟩) (no (by decide) z) (no (by decide) z) (fun _ y => absurd z y)
  · obtain ⟨⟨n, n1, rfl, n3, n4⟩, hce⟩ := hS
    rcases n4 with ⟨rfl, e2, e3⟩ | ⟨l, hl, rfl, e2⟩
    · exact x_isNothing_y (t1a (m_count hM hX.1 (no (by decide) z) (no (by decide) z) (fun _ => ⟨fun y => absurd e2 y, fun _ => ⟨rfl, hQ⟩⟩) (no (by decide) z) (fun _ _ y => absurd z y)))
    · exact x_isNothing_n hl (t0a ⟨pk_in 0 4 (by omega), m_count hM hX.1 (no (by decide) z) (no (by decide) z) (fun _ => ⟨fun _ => ⟨n3.symm, hQ⟩, fun y => absurd (e2.symm.trans y) (lane_ne hl).2⟩) (no (by decide) z) (fun _ _ y => absurd z y)⟩)
  · exact x_odd hX (m_count hM hX.1 (no (by decide) z) (no (by decide) z) (no (by decide) z) (fun _ => ⟨rfl, hQ⟩) (fun _ _ _ y => absurd z y))
  · exact m_count hM hX.1 (fun y => absurd y z0) (fun y => absurd y z1) (fun y => absurd y z2) (fun y => absurd y z3) (fun _ _ _ _ => ⟨rfl, hQ⟩)
/-- the tape: how long, and its bytes -/
def TP (ln : Int32) (by_ : Nat → Int32) (tp : Int32) (ta : Nat → Int32) : Prop := ∃ n, n ≤ 160 ∧ ln = nI n ∧ tp = nI n ∧ ∀ i, i < n → by_ i = ta i ∧ ∃ c, c < 128 ∧ ta i = nI c
theorem by_id : ∀ c, c < 128 → vp_nar .byte ((nI c).toInt8.toInt32) = nI c := by
  intro c hc
  rw [vp_nar_byte]
  revert c
  decide +kernel
theorem o_feed {ln tp p : Int32} {by_ ta : Nat → Int32} (hT : TP ln by_ tp ta) {Q : (Int32 × (Nat → Int32)) → (Int32 × (Nat → Int32)) → Prop} (hQ : ∀ a b c d, TP a b c d → Q (a, b) (c, d)) : wX5_feed ln by_ p (fun r1 u1 => wX6_feed tp ta p (fun r2 u2 => r1 = r2 ∧ Q u1 u2)) := by
  have hQ0 := hQ _ _ _ _ hT
  obtain ⟨n, n1, rfl, rfl, hb⟩ := hT
  unfold wX5_feed
  by_cases c : (0 : Int) ≤ p.toInt ∧ p.toInt ≤ 127
  · obtain ⟨b, hb128, rfl⟩ : ∃ b, b < 128 ∧ p = nI b := by
      rcases upto p 127 with ⟨j, j1, e⟩ | y
      · exact ⟨j, by omega, e⟩
      · omega
    refine x_within (fun _ _ => t1b ?_) (fun z => absurd c z)
    unfold wX3_put
    have mf : ∀ (P : Int32 → (Int32 × (Nat → Int32)) → Prop), (n < 160 → P (nI (n + 1)) (nI (n + 1), upd ta n (nI b))) → (n = 160 → P (-3) (nI n, ta)) → wX6_feed (nI n) ta (nI b) P := by
      intro P p1 p2
      unfold wX6_feed
      refine m_in_y (show Int64.toInt 0 ≤ _ from c.1) (show _ ≤ Int64.toInt 127 from c.2) (t1b (pk_ne n 160 (fun c2 => ⟨pk_in n 160 (by omega), ?_⟩) p2))
      rintro _ rfl
      rw [nI_1, nI_clamp (by omega)]
      exact p1 (by omega)
    refine pk_lt n 160 (fun c2 => ?_) (fun c2 => ?_)
    · rintro _ rfl
      refine ⟨pk_in n 160 c2, ?_⟩
      rintro _ rfl
      rw [nI_1, nI_clamp (by omega), by_id b hb128]
      refine t1a (mf _ (fun _ => ⟨rfl, hQ _ _ _ _ ⟨n + 1, by omega, rfl, rfl, fun i hi => ?_⟩⟩) (fun z => by omega))
      by_cases e : i = n
      · rw [e]
        refine ⟨?_, b, hb128, pk_us⟩
        show upd by_ n (nI b) n = _
        rw [pk_us, pk_us]
      · refine ⟨?_, ?_⟩
        · show upd by_ n (nI b) i = _
          rw [pk_un e, pk_un e]; exact (hb i (by omega)).1
        · rw [pk_un e]; exact (hb i (by omega)).2
    · exact t0a (mf _ (fun z => by omega) (fun _ => ⟨rfl, hQ0⟩))
  · refine x_within (fun z1 z2 => absurd ⟨z1, z2⟩ c) (fun _ => t0b ?_)
    unfold wX6_feed
    exact m_in_n (show ¬ (Int64.toInt 0 ≤ p.toInt ∧ p.toInt ≤ Int64.toInt 127) from c) (t0b ⟨rfl, hQ0⟩)
theorem o_end {ln tp p : Int32} {by_ ta : Nat → Int32} (hT : TP ln by_ tp ta) {Q : Int32 → Int32 → Prop} (hQ : ∀ a c, TP a by_ c ta → Q a c) : wX5_end ln p (fun r1 u1 => wX6_end tp p (fun r2 u2 => r1 = r2 ∧ Q u1 u2)) := by
  have hQ0 := hQ _ _ hT
  obtain ⟨n, n1, rfl, rfl, hb⟩ := hT
  unfold wX5_end
  rcases upto p n with ⟨j, j1, rfl⟩ | c
  · refine x_within (fun _ _ => t1b ?_) (fun z => by rw [nI_toInt (by omega), nI_toInt (by omega), show (0 : Int32).toInt = 0 from rfl] at z; omega)
    unfold wX6_end
    exact m_in_y (by rw [nI_toInt (by omega)]; show (0 : Int) ≤ _; omega) (by rw [t64, nI_toInt (by omega), nI_toInt (by omega)]; omega) (t1b ⟨rfl, hQ _ _ ⟨j, by omega, rfl, rfl, fun i hi => hb i (by omega)⟩⟩)
  · refine x_within (fun z1 z2 => by rw [nI_toInt (by omega)] at z2; rw [show (0 : Int32).toInt = 0 from rfl] at z1; omega) (fun _ => t0b ?_)
    unfold wX6_end
    exact m_in_n (by rw [t64, nI_toInt (by omega)]; show ¬ ((0 : Int) ≤ _ ∧ _); omega) (t0b ⟨rfl, hQ0⟩)
