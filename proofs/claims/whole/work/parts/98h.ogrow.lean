/-! grow: both sides -/
theorem gd_and (y : Int32) : ∃ a, a < 32768 ∧ (y &&& 32767) = nI a := by
  obtain ⟨Y, hY, rfl⟩ := wb_of32 y
  refine ⟨Y % 2 ^ 15, Nat.mod_lt _ (by decide), ?_⟩
  rw [show (32767 : Int32) = nI (2 ^ 15 - 1) from rfl, nI_andN, Nat.and_two_pow_sub_one_eq_mod]
theorem gd_ms : ∀ i, i < 32 → ¬ i < 15 → (32767 : Int32).toBitVec.getLsbD i = false := by decide +kernel
theorem gd_eq (x : Int32) : (ziushr x (16 : Int32) &&& 32767) = ((x >>> ((16 : Int32) &&& 31)) &&& 32767) := by
  apply Int32.toBitVec_inj.1
  apply BitVec.eq_of_getLsbD_eq
  intro i hi
  rw [Int32.toBitVec_and, Int32.toBitVec_and, BitVec.getLsbD_and, BitVec.getLsbD_and]
  by_cases c : i < 15
  · congr 1
    have e1 : (ziushr x (16 : Int32)).toBitVec.getLsbD i = x.toBitVec.getLsbD (16 + i) := by
      unfold ziushr
      show (x.toUInt32 >>> UInt32.ofNat 16).toBitVec.getLsbD i = x.toUInt32.toBitVec.getLsbD (16 + i)
      rw [UInt32.toBitVec_shiftRight, BitVec.ushiftRight_eq', BitVec.getLsbD_ushiftRight]
      rfl
    have e2 : (x >>> ((16 : Int32) &&& 31)).toBitVec.getLsbD i = x.toBitVec.getLsbD (16 + i) := by
      rw [Int32.toBitVec_shiftRight, BitVec.sshiftRight_eq', BitVec.getLsbD_sshiftRight]
      rw [show (((16 : Int32) &&& 31).toBitVec.smod 32).toNat = 16 from by decide]
      rw [if_pos (by omega), decide_eq_false (by omega)]
      rfl
    rw [e1, e2]
  · rw [gd_ms i hi c, Bool.and_false, Bool.and_false]
def gd (x : Int32) : Nat := (ziushr x (16 : Int32) &&& 32767).toNatClampNeg
theorem gd_is (x : Int32) : (ziushr x (16 : Int32) &&& 32767) = nI (gd x) ∧ gd x < 32768 := by
  obtain ⟨a, ha, e⟩ := gd_and (ziushr x (16 : Int32))
  unfold gd
  rw [e, nI_clamp (by omega)]
  exact ⟨rfl, ha⟩
noncomputable def gT (s : Int32) : Nat → Int32 × (Nat → Bool)
  | 0 => (s, fun k => decide (k = 0))
  | k + 1 => ((gT s k).1 * 1103515245 + 12345, WR (gT s k).2 (sh (gT s k).2 (2 * (k + 1)) (kp (gT s k).2 (2 * (k + 1)) (gd ((gT s k).1 * 1103515245 + 12345) % (k + 1)))) (sh (gT s k).2 (2 * (k + 1)) (kp (gT s k).2 (2 * (k + 1)) (gd ((gT s k).1 * 1103515245 + 12345) % (k + 1)))))
theorem gT_1 (s : Int32) (k : Nat) : (gT s (k + 1)).1 = (gT s k).1 * 1103515245 + 12345 := rfl
theorem gT_2 (s : Int32) (k : Nat) : (gT s (k + 1)).2 = WR (gT s k).2 (sh (gT s k).2 (2 * (k + 1)) (kp (gT s k).2 (2 * (k + 1)) (gd ((gT s k).1 * 1103515245 + 12345) % (k + 1)))) (sh (gT s k).2 (2 * (k + 1)) (kp (gT s k).2 (2 * (k + 1)) (gd ((gT s k).1 * 1103515245 + 12345) % (k + 1)))) := rfl
theorem gT_Tr (s : Int32) : ∀ k, k < 64 → Tr (gT s k).2 (2 * (k + 1))
  | 0, _ => by
    refine ⟨by omega, rfl, fun p p1 p2 => ?_⟩
    rw [show p = 1 by omega]
    show 0 < ex (fun k => decide (k = 0)) 1
    decide
  | k + 1, h => by
    have hT := gT_Tr s k (by omega)
    have hv : gd ((gT s k).1 * 1103515245 + 12345) % (k + 1) < fb_ct (gT s k).2 (2 * (k + 1)) := by
      have := hT.two
      have := Nat.mod_lt (gd ((gT s k).1 * 1103515245 + 12345)) (show 0 < k + 1 by omega)
      omega
    obtain ⟨o1, o2, o3⟩ := kp_spec hv
    have hs := sh_spec hT o1 o2
    rw [gT_2, show 2 * (k + 1 + 1) = 2 * (k + 1) + 2 by omega]
    exact WR_Tr hT (by omega) (Nat.le_refl _) hs.2.1 (by omega)
theorem x_height0 {low high : Int64} {N : Nat} {g lo hi : Nat → Int32} (hX : XT low high N g lo hi) (h0 : 0 < N) {post : Int32 → Prop} (h : ∀ d, IsMx (bb low high) 0 N d → post (iI (d - 1))) : wX4_heightOf low high (nI N) g lo hi (0 : Int32) post := by
  have h2 := hX.1.two
  have k0 := kp_0 hX.1 (show 0 < fb_ct (bb low high) N by omega)
  have b0 := hX.1.first h0
  refine x_heightOf (v := 0) hX (by omega) (fun m hm => ?_)
  rw [k0] at hm ⊢
  rw [ex_0]
  have hr := (sh_root hX.1 h0 b0 (by rw [ex_0]; decide)).2
  have : IsMx (bb low high) 0 N m := by
    obtain ⟨⟨u, u1, u2, u3⟩, hu⟩ := hm
    refine ⟨⟨u, u1, by omega, u3⟩, fun q q1 q2 => ?_⟩
    rcases Nat.lt_or_ge q N with w | w
    · exact hu q q1 (by omega)
    · have h0 := hu 0 (Nat.le_refl _) (Nat.zero_le _)
      rw [ex_0] at h0
      rw [show q = N by omega, hX.1.2.1]; exact h0
  rw [show m - 0 - 1 = m - 1 by omega]
  exact h m this
theorem x_grow {low high : Int64} {pl s : Int32} {g lo hi w : Nat → Int32} {n : Nat} (hn : n < 64) {post : Int32 → U7 → Prop} (h : ∀ low' high' g' lo' hi' w' d, XT low' high' (2 * (n + 1)) g' lo' hi' → bb low' high' = (gT s n).2 → (∀ i, i < n + 1 → w' i = 0) → IsMx (gT s n).2 0 (2 * (n + 1)) d → post (iI (d - 1)) (low', high', nI (2 * (n + 1)), g', lo', hi', w')) : wX5_grow low high pl g lo hi w s (nI (n + 1)) post := by
  unfold wX5_grow
  refine x_within (fun _ _ => t1b ?_) (fun z => by rw [nI_toInt (by omega), show (1 : Int32).toInt = 1 from rfl, show (64 : Int32).toInt = 64 from rfl] at z; omega)
  unfold wX1_clear
  have hX0 : XT 0 0 0 g lo hi := ⟨⟨by omega, ex_0 _, fun p p1 p2 => by omega⟩, fun k _ => bb_00 k, fun b hb => by omega⟩
  refine x_addLeafAt (N := 0) (p := 0) hX0 (Nat.le_refl _) (by omega) (by show 0 < 64; omega) (fun l1 r1 g1 lo1 hi1 w1 h1 h2 h3 => ?_)
  have e1 : bb l1 r1 = fun k => decide (k = 0) := funext (fun k => by
    rw [h1 k]
    by_cases c : k = 0
    · rw [c, WR_o]; rfl
    · rw [decide_eq_false c]
      by_cases c1 : k = 1
      · rw [c1]; exact WR_s (Nat.le_refl _)
      · obtain ⟨j, rfl⟩ : ∃ j, k = j + 2 := ⟨k - 2, by omega⟩
        rw [WR_hi (Nat.le_refl _) (by omega), bb_00])
  refine ⟨fun x8 x9 l r p g lo hi w => ∃ k, k ≤ n ∧ x8 = (gT s k).1 ∧ x9 = nI (k + 1) ∧ p = nI (2 * (k + 1)) ∧ bb l r = (gT s k).2 ∧ XT l r (2 * (k + 1)) g lo hi ∧ ∀ i, i < k + 1 → w i = 0, fun _ x9 _ _ _ _ _ _ _ => n + 1 - x9.toNatClampNeg, ⟨0, Nat.zero_le _, rfl, rfl, rfl, e1, ⟨by rw [e1]; exact gT_Tr s 0 (by omega), fun k hk => by rw [e1]; exact decide_eq_false (by omega), h2⟩, fun i hi => ?_⟩, ?_⟩
  · show w1 i = 0
    rw [show i = 0 by omega, h3 0 (by omega)]
    unfold WW
    rw [show fb_ct (bb 0 0) 0 = 0 from rfl, if_neg (by omega), if_pos rfl]
  rintro x8 x9 l r p g lo hi w ⟨k, k1, rfl, rfl, rfl, eB, hX, hw⟩
  have hT := hX.1
  have h2 := hT.two
  refine pk_le (n + 1) (k + 1) (fun c => ?_) (fun c => ?_)
  · have e : k = n := by omega
    subst e
    exact x_height0 hX (by omega) (fun d hd => h l r g lo hi w d hX eB hw (by rw [← eB]; exact hd))
  · rintro _ rfl _ rfl
    obtain ⟨ea, eb⟩ := gd_is ((gT s k).1 * 1103515245 + 12345)
    rw [ea]
    refine ⟨nI_ne0 (by omega) (by omega), ?_⟩
    rw [pk_rem (by omega) (by omega) (by omega)]
    have hv : gd ((gT s k).1 * 1103515245 + 12345) % (k + 1) < fb_ct (bb l r) (2 * (k + 1)) := by
      have := Nat.mod_lt (gd ((gT s k).1 * 1103515245 + 12345)) (show 0 < k + 1 by omega)
      omega
    obtain ⟨o1, o2, o3⟩ := kp_spec hv
    have hs := sh_spec hT o1 o2
    refine x_closeOf hX hv ?_
    refine x_addLeafAt hX (by omega) (by omega) (by omega) (fun l' r' g' lo' hi' w' a1 a2 a3 => ?_)
    rintro _ rfl
    have eB' : bb l' r' = (gT s (k + 1)).2 := funext (fun j => by rw [a1 j, gT_2, eB])
    refine ⟨⟨k + 1, by omega, rfl, nI_1 _, ?_, eB', ⟨?_, fun j hj => ?_, ?_⟩, fun i hi => ?_⟩, ?_⟩
    · show nI (2 * (k + 1) + 2) = _
      congr 1
    · rw [eB']; exact gT_Tr s (k + 1) (by omega)
    · show bb l' r' j = false
      rw [a1 j]
      obtain ⟨i, rfl⟩ : ∃ i, j = i + 2 := ⟨j - 2, by omega⟩
      rw [WR_hi (Nat.le_refl _) (by omega), hX.2.1 i (by omega)]
    · exact a2
    · show w' i = 0
      rw [a3 i (by omega)]
      unfold WW
      by_cases c1 : i < fb_ct (bb l r) (sh (bb l r) (2 * (k + 1)) (kp (bb l r) (2 * (k + 1)) (gd ((gT s k).1 * 1103515245 + 12345) % (k + 1))))
      · have := fb_ct_mono (bb l r) (Nat.le_of_lt hs.2.1)
        rw [if_pos c1, hw i (by omega)]
      · rw [if_neg c1]
        by_cases c2 : i = fb_ct (bb l r) (sh (bb l r) (2 * (k + 1)) (kp (bb l r) (2 * (k + 1)) (gd ((gT s k).1 * 1103515245 + 12345) % (k + 1))))
        · rw [if_pos c2]
        · rw [if_neg c2, hw (i - 1) (by omega)]
    · dsimp only
      rw [nI_1, nI_clamp (by omega), nI_clamp (by omega)]; omega
theorem m_grow {st : Nat → Int32} {s : Int32} {n : Nat} (hn : n < 64) {post : Int32 → (Nat → Int32) → Prop} (h : ∀ st' d, MT st' (gT s n).2 (2 * (n + 1)) (fun _ => 0) → (∀ k, 193 ≤ k → st' k = st k) → IsMx (gT s n).2 0 (2 * (n + 1)) d → post (iI (d - 1)) st') : wX6_grow st s (nI (n + 1)) post := by
  unfold wX6_grow
  refine m_in_y (by rw [nI_toInt (by omega)]; show (1 : Int) ≤ _; omega) (by rw [nI_toInt (by omega)]; show _ ≤ (64 : Int); omega) (t1b ⟨pk_in 192 579 (by omega), ?_⟩)
  rw [show (192 : Int32).toNatClampNeg = 192 from rfl]
  unfold wX6_plant
  refine ⟨fun _ => m_many (M := 0) (by rw [pk_us]; rfl) ⟨fun _ => ⟨pk_in 0 579 (by omega), pk_in 1 579 (by omega), pk_in 128 579 (by omega), pk_in 192 579 (by omega), ?_⟩, fun z => absurd (show nI 0 ≤ 0 by decide) z⟩, fun z => absurd (show (0 : Int32) ≤ 0 by decide) z⟩
  rw [show (0 : Int32).toNatClampNeg = 0 from rfl, show (1 : Int32).toNatClampNeg = 1 from rfl, show (128 : Int32).toNatClampNeg = 128 from rfl, show (192 : Int32).toNatClampNeg = 192 from rfl]
  refine ⟨fun x6 x7 f => ∃ k, k ≤ n ∧ x6 = (gT s k).1 ∧ x7 = nI (k + 1) ∧ MT f (gT s k).2 (2 * (k + 1)) (fun _ => 0) ∧ ∀ j, 193 ≤ j → f j = st j, fun _ x7 _ => n + 1 - x7.toNatClampNeg, ⟨0, Nat.zero_le _, rfl, rfl, ⟨fun k hk => ?_, ?_, fun i hi => ?_⟩, fun j hj => ?_⟩, ?_⟩
  · rw [pk_un (by omega), pk_un (by omega)]
    have hk2 : k = 0 ∨ k = 1 := by omega
    rcases hk2 with rfl | rfl
    · rw [pk_un (by omega), pk_us]; rfl
    · rw [pk_us]; rfl
  · rw [pk_us]; rfl
  · have hi0 : i < 1 := hi
    rw [show i = 0 by omega, pk_un (by omega), pk_us]
  · rw [pk_un (by omega), pk_un (by omega), pk_un (by omega), pk_un (by omega), pk_un (by omega)]
  rintro x6 x7 f ⟨k, k1, rfl, rfl, hM, hfr⟩
  have hT := gT_Tr s k (by omega)
  have h2 := hT.two
  refine pk_le (n + 1) (k + 1) (fun c => ?_) (fun c => ?_)
  · have e : k = n := by omega
    subst e
    refine m_size hM.1 hM.2.1 hT (fun d hd => ⟨fun z => absurd z (by decide), fun z => absurd z (by decide), fun _ => ⟨fun _ => h f d hM hfr hd, fun z => ?_⟩, fun z => absurd z (by decide), fun z => absurd z (by decide), fun _ _ z => absurd rfl z⟩)
    rw [show (0 : Int32) = nI 0 from rfl, nI_eq (by omega) (by omega)] at z; omega
  · rintro _ rfl
    refine m_many hM.2.1 ?_
    rw [← gd_eq]
    obtain ⟨ea, eb⟩ := gd_is ((gT s k).1 * 1103515245 + 12345)
    rw [ea]
    refine ⟨nI_ne0 (by omega) (by omega), ?_⟩
    rintro _ rfl
    rw [pk_rem (by omega) (by omega) (by omega)]
    have ek : fb_ct (gT s k).2 (2 * (k + 1)) = k + 1 := by omega
    rw [ek]
    have hv : gd ((gT s k).1 * 1103515245 + 12345) % (k + 1) < fb_ct (gT s k).2 (2 * (k + 1)) := by
      have := Nat.mod_lt (gd ((gT s k).1 * 1103515245 + 12345)) (show 0 < k + 1 by omega)
      omega
    obtain ⟨o1, o2, o3⟩ := kp_spec hv
    have hs := sh_spec hT o1 o2
    have hcb : cn (gT s k).2 (2 * (k + 1)) (kp (gT s k).2 (2 * (k + 1)) (gd ((gT s k).1 * 1103515245 + 12345) % (k + 1))) < 2147483648 := by
      unfold cn
      have := fb_ct_le (CQ (gT s k).2 (kp (gT s k).2 (2 * (k + 1)) (gd ((gT s k).1 * 1103515245 + 12345) % (k + 1)))) (sh (gT s k).2 (2 * (k + 1)) (kp (gT s k).2 (2 * (k + 1)) (gd ((gT s k).1 * 1103515245 + 12345) % (k + 1))))
      omega
    refine m_childrenOf hM.1 hT hv (m_leafs hM hT hv hcb (by omega) (by omega) (fun st' h4 h5 => ?_))
    rintro _ rfl
    rw [eg_end (Nat.le_refl _)] at h4
    refine ⟨⟨k + 1, by omega, rfl, nI_1 _, ?_, fun j hj => by rw [h5 j hj, hfr j hj]⟩, ?_⟩
    · rw [gT_2]
      refine h4.cong (fun _ _ => rfl) (fun i hi => ?_)
      split
      · rfl
      · split <;> rfl
    · dsimp only
      rw [nI_1, nI_clamp (by omega), nI_clamp (by omega)]; omega
theorem o_grow {low high : Int64} {N : Nat} {g lo hi st w : Nat → Int32} (hX : XT low high N g lo hi) (hM : MT st (bb low high) N w) {s p : Int32} {Q : U7 → (Nat → Int32) → Prop} (hQ : ∀ u st', RR u st' → (∀ k, 193 ≤ k → st' k = st k) → Q u st') : wX5_grow low high (nI N) g lo hi w s p (fun r1 u1 => wX6_grow st s p (fun r2 u2 => r1 = r2 ∧ Q u1 u2)) := by
  have hQ0 : Q (low, high, nI N, g, lo, hi, w) st := hQ _ st ⟨N, rfl, hX, hM⟩ (fun _ _ => rfl)
  by_cases c : 1 ≤ p.toInt ∧ p.toInt ≤ 64
  · obtain ⟨n, n1, rfl⟩ : ∃ n, n < 64 ∧ p = nI (n + 1) := by
      rcases upto p 64 with ⟨j, j1, rfl⟩ | y
      · rw [nI_toInt (by omega)] at c
        exact ⟨j - 1, by omega, by congr 1; omega⟩
      · omega
    refine x_grow n1 (fun l' r' g' lo' hi' w' d h1 h2 h3 h4 => ?_)
    refine m_grow n1 (fun st' d' h5 h6 h7 => ⟨by rw [h4.one h7], hQ _ st' ⟨_, rfl, h1, ?_⟩ h6⟩)
    have h8 := h1.1.two
    refine h5.cong (fun k _ => by rw [h2]) (fun i hi => ?_)
    rw [← h2] at hi
    exact (h3 i (by omega)).symm
  · unfold wX5_grow
    refine x_within (fun z1 z2 => absurd ⟨z1, z2⟩ c) (fun _ => t0b ?_)
    unfold wX6_grow
    exact m_in_n (show ¬ (Int64.toInt 1 ≤ p.toInt ∧ p.toInt ≤ Int64.toInt 64) from c) (t0b ⟨rfl, hQ0⟩)
