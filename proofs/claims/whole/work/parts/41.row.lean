/-! the class's row, read: its bits, counts, places of signs -/
def bb (low high : Int64) (k : Nat) : Bool := if k < 64 then lb low k else lb high (k - 64)
theorem bb_lo {low high : Int64} {k : Nat} (h : k < 64) : bb low high k = lb low k := if_pos h
theorem bb_hi {low high : Int64} {k : Nat} (h : 64 ≤ k) : bb low high k = lb high (k - 64) := if_neg (by omega)
theorem bb_hi' (low high : Int64) (k : Nat) : bb low high (64 + k) = lb high k := by rw [bb_hi (by omega)]; congr 1; omega
theorem bb_big {low high : Int64} {k : Nat} (h : 128 ≤ k) : bb low high k = false := by rw [bb_hi (by omega)]; exact lb_big (by omega)
theorem ct_cut (S : Nat → Bool) (p : Int) : ∀ n : Nat, fb_ct (fun k => S k && decide ((k : Int) < p)) n = fb_ct S (min p.toNat n)
  | 0 => by rw [Nat.min_zero]; rfl
  | n + 1 => by
    rw [fb_ct_succ, ct_cut S p n]
    rcases Int.lt_or_le (n : Int) p with h | h
    · rw [show min p.toNat (n + 1) = n + 1 by omega, show min p.toNat n = n by omega, fb_ct_succ]
      simp [h]
    · rw [show min p.toNat (n + 1) = min p.toNat n by omega]
      simp [show ¬ (n : Int) < p by omega]
theorem ct_words {sl sh r1 r2 : Int64} {z : Int} (hz : z ≤ 128) (h1 : ∀ k : Nat, k < 64 → lb r1 k = decide ((k : Int) < z)) (h2 : ∀ k : Nat, k < 64 → lb r2 k = decide ((k : Int) < z - 64)) : fb_ct (lb (sl &&& r1)) 64 + fb_ct (lb (sh &&& r2)) 64 = fb_ct (bb sl sh) z.toNat := by
  have e1 : fb_ct (lb (sl &&& r1)) 64 = fb_ct (lb sl) (min z.toNat 64) := by
    rw [← ct_cut]
    exact fb_ct_cong (fun k hk => by rw [lb_and, h1 k hk])
  have e2 : fb_ct (lb (sh &&& r2)) 64 = fb_ct (lb sh) (min (z - 64).toNat 64) := by
    rw [← ct_cut]
    exact fb_ct_cong (fun k hk => by rw [lb_and, h2 k hk])
  rw [e1, e2]
  rcases Nat.lt_or_ge 64 z.toNat with h | h
  · rw [show z.toNat = 64 + (z - 64).toNat by omega, fb_ct_split, show min (64 + (z - 64).toNat) 64 = 64 by omega, show min (z - 64).toNat 64 = (z - 64).toNat by omega]
    rw [show fb_ct (bb sl sh) 64 = fb_ct (lb sl) 64 from fb_ct_cong (fun k hk => bb_lo hk), show fb_ct (fun k => bb sl sh (64 + k)) (z - 64).toNat = fb_ct (lb sh) (z - 64).toNat from fb_ct_cong (fun k hk => bb_hi' sl sh k)]
  · rw [show min (z - 64).toNat 64 = 0 by omega, show min z.toNat 64 = z.toNat by omega]
    show fb_ct (lb sl) z.toNat + 0 = _
    rw [Nat.add_zero]
    exact fb_ct_cong (fun k hk => (bb_lo (by omega)).symm)
theorem nI_m64 (p : Nat) : nI p - 64 = iI ((p : Int) - 64) := by rw [nI_iI, show (64 : Int32) = iI 64 from rfl, iI_sub]
theorem x_excessAt {low high : Int64} {p : Nat} (hp : p ≤ 128) {post : Int32 → Prop} (h : post (iI (ex (bb low high) p))) : wX1_excessAt low high (nI p) post := by
  unfold wX1_excessAt
  refine x_firstOf (fun r1 h1 => x_bitCount (x_firstOf (fun r2 h2 => x_bitCount ?_)))
  rw [nI_toInt (by omega)] at h1
  rw [nI_m64, iI_toInt (by omega) (by omega)] at h2
  have e := ct_words (sl := low) (sh := high) (z := p) (by omega) h1 h2
  have e2 : (2 : Int32) * nI (fb_ct (lb (low &&& r1)) 64) + 2 * nI (fb_ct (lb (high &&& r2)) 64) - nI p = iI (ex (bb low high) p) := by
    rw [show (2 : Int32) = nI 2 from rfl, pk_mul, pk_mul, nI_add, nI_iI, nI_iI, iI_sub]
    congr 1
    unfold ex
    rw [show fb_ct (bb low high) p = fb_ct (bb low high) (p : Int).toNat from by rw [Int.toNat_natCast], ← e]
    omega
  rw [e2]
  exact h
theorem x_opensAhead {low high : Int64} {p : Nat} (hp : p ≤ 128) {post : Int32 → Prop} (h : post (nI (fb_ct (bb low high) p))) : wX1_opensAhead low high (nI p) post := by
  unfold wX1_opensAhead
  refine x_excessAt hp ?_
  have e1 : nI p + iI (ex (bb low high) p) = nI (2 * fb_ct (bb low high) p) := by
    rw [nI_iI, iI_add, nI_iI]
    congr 1
    have := ex_par (bb low high) p
    omega
  have := fb_ct_le (bb low high) p
  have h3 := pk_div (a := 2 * fb_ct (bb low high) p) (d := 2) (by omega) (by omega) (by omega)
  rw [show 2 * fb_ct (bb low high) p / 2 = fb_ct (bb low high) p by omega] at h3
  rw [e1, show nI (2 * fb_ct (bb low high) p) / 2 = nI (fb_ct (bb low high) p) from h3]
  exact h
theorem nI_andN (a b : Nat) : nI a &&& nI b = nI (a &&& b) := by
  apply Int32.toBitVec_inj.1
  show BitVec.ofNat 32 a &&& BitVec.ofNat 32 b = BitVec.ofNat 32 (a &&& b)
  apply BitVec.eq_of_getLsbD_eq
  intro i hi
  simp [hi]
theorem nI_63 (p : Nat) : nI p &&& 63 = nI (p % 64) := by
  rw [show (63 : Int32) = nI (2 ^ 6 - 1) from rfl, nI_andN, Nat.and_two_pow_sub_one_eq_mod]
theorem bit_val (x : Int64) {n : Nat} (hn : n < 64) : ((zlushr x (nI n)).toInt32 &&& 1) = (if lb x n then 1 else 0) ∧ (zlushr x (nI n) &&& 1) = (if lb x n then 1 else 0) := by
  obtain ⟨X, hX, rfl⟩ := wb_of x
  have e1 : zlushr (lN X) (nI n) = lN (X / 2 ^ n) := wb_shr hX hn
  have e2 : lb (lN X) n = decide (X / 2 ^ n % 2 = 1) := by rw [lb_N hn, Nat.testBit_eq_decide_div_mod_eq]
  rw [e1, e2]
  constructor
  · rw [lN_i, show (1 : Int32) = nI 1 from rfl, nI_andN, Nat.and_one_is_mod]
    rcases Nat.mod_two_eq_zero_or_one (X / 2 ^ n) with h | h <;> rw [h] <;> rfl
  · rw [show (1 : Int64) = lN 1 from rfl, fb_andL, Nat.and_one_is_mod]
    rcases Nat.mod_two_eq_zero_or_one (X / 2 ^ n) with h | h <;> rw [h] <;> rfl
theorem x_bitAt {low high : Int64} {p : Nat} (hp : p < 128) {post : Int32 → Prop} (h : post (if bb low high p then 1 else 0)) : wX1_bitAt low high (nI p) post := by
  unfold wX1_bitAt
  refine pk_le 64 p (fun c => ?_) (fun c => ?_)
  · rw [nI_63, (bit_val high (Nat.mod_lt _ (by decide))).1, show p % 64 = p - 64 by omega, ← bb_hi c]
    exact h
  · rw [nI_63, (bit_val low (Nat.mod_lt _ (by decide))).1, show p % 64 = p by omega, ← bb_lo c]
    exact h
theorem lg0 (b : Bool) : lg_cmp (if b then 1 else 0) 1 = 0 ↔ b = true := by cases b <;> decide
theorem x_stepAt {low high : Int64} {p : Nat} (hp : p < 128) {post : Int32 → Prop} (h : post (if bb low high p then 1 else -1)) : wX1_stepAt low high (nI p) post := by
  unfold wX1_stepAt
  refine pk_le 64 p (fun c => ?_) (fun c => ?_)
  · rw [nI_63, (bit_val high (Nat.mod_lt _ (by decide))).2, show p % 64 = p - 64 by omega, ← bb_hi (low := low) c, lg0]
    refine ⟨fun c2 => ?_, fun c2 => ?_⟩
    · rw [if_neg c2] at h; exact h
    · rw [if_pos c2] at h; exact h
  · rw [nI_63, (bit_val low (Nat.mod_lt _ (by decide))).2, show p % 64 = p by omega, ← bb_lo (high := high) c, lg0]
    refine ⟨fun c2 => ?_, fun c2 => ?_⟩
    · rw [if_neg c2] at h; exact h
    · rw [if_pos c2] at h; exact h
/-! the lowest bit that is 1 -/
theorem low_split {X i : Nat} (h1 : X.testBit i = true) (h2 : ∀ j, j < i → X.testBit j = false) : X = 2 ^ (i + 1) * (X / 2 ^ (i + 1)) + 2 ^ i := by
  have e : X % 2 ^ (i + 1) = 2 ^ i := by
    apply Nat.eq_of_testBit_eq
    intro j
    rw [Nat.testBit_mod_two_pow, Nat.testBit_two_pow]
    rcases Nat.lt_trichotomy j i with z | z | z
    · rw [h2 j z]; simp; omega
    · subst z; rw [h1]; simp
    · rw [decide_eq_false (show ¬ j < i + 1 by omega), decide_eq_false (show ¬ i = j by omega)]; rfl
  have := Nat.div_add_mod X (2 ^ (i + 1))
  omega
theorem low_clear {X i : Nat} (h1 : X.testBit i = true) (h2 : ∀ j, j < i → X.testBit j = false) (k : Nat) : (X &&& (X - 1)).testBit k = (X.testBit k && decide (k ≠ i)) := by
  have e := low_split h1 h2
  have hp : 0 < 2 ^ i := Nat.two_pow_pos i
  have hpp : 2 ^ (i + 1) = 2 * 2 ^ i := by rw [Nat.pow_succ]; omega
  generalize X / 2 ^ (i + 1) = Q at e
  have e1 : X - 1 = 2 ^ (i + 1) * Q + (2 ^ i - 1) := by omega
  rw [Nat.testBit_and, e1, Nat.testBit_two_pow_mul_add _ (show 2 ^ i - 1 < 2 ^ (i + 1) by omega), Nat.testBit_two_pow_sub_one]
  have e2 : X.testBit k = if k < i + 1 then (2 ^ i).testBit k else Q.testBit (k - (i + 1)) := by
    have := Nat.testBit_two_pow_mul_add Q (show 2 ^ i < 2 ^ (i + 1) by omega) k
    rw [← e] at this
    exact this
  rcases Nat.lt_trichotomy k i with z | z | z
  · rw [h2 k z]; simp
  · subst z; simp
  · rw [e2]; simp [show ¬ k < i + 1 by omega, show k ≠ i by omega]
theorem low_alone {X i : Nat} (hX : X < 2 ^ 64) (hi : i < 64) (h1 : X.testBit i = true) (h2 : ∀ j, j < i → X.testBit j = false) : X &&& (2 ^ 64 - X) = 2 ^ i := by
  have e := low_split h1 h2
  have hp : 0 < 2 ^ i := Nat.two_pow_pos i
  have hpp : 2 ^ (i + 1) = 2 * 2 ^ i := by rw [Nat.pow_succ]; omega
  have hq : X / 2 ^ (i + 1) < 2 ^ (63 - i) := by
    refine Nat.div_lt_of_lt_mul ?_
    rw [← Nat.pow_add, show i + 1 + (63 - i) = 64 by omega]
    exact hX
  generalize X / 2 ^ (i + 1) = Q at e hq
  have e64 : 2 ^ 64 = 2 ^ (i + 1) * 2 ^ (63 - i) := by rw [← Nat.pow_add]; congr 1; omega
  have e1 : 2 ^ 64 - X = 2 ^ (i + 1) * (2 ^ (63 - i) - (Q + 1)) + 2 ^ i := by
    rw [e64, Nat.mul_sub, Nat.mul_add]
    have : 2 ^ (i + 1) * Q + 2 ^ (i + 1) * 1 ≤ 2 ^ (i + 1) * 2 ^ (63 - i) := by
      rw [← Nat.mul_add]; exact Nat.mul_le_mul_left _ hq
    omega
  rw [e1]
  conv => lhs; lhs; rw [e]
  rw [and_split (show 2 ^ i < 2 ^ (i + 1) by omega) (show 2 ^ i < 2 ^ (i + 1) by omega), Nat.and_self]
  have : Q &&& (2 ^ (63 - i) - (Q + 1)) = 0 := by
    apply Nat.eq_of_testBit_eq
    intro j
    rw [Nat.testBit_and, Nat.testBit_two_pow_sub_succ hq, Nat.zero_testBit]
    cases Q.testBit j <;> simp
  rw [this]
  omega
theorem lN_neg {X : Nat} (hX : X < 2 ^ 64) : -(lN X) = lN (2 ^ 64 - X) := by
  apply wb_inj
  rw [Int64.toBitVec_neg, wb_tb, wb_tb]
  apply BitVec.eq_of_toNat_eq
  rw [BitVec.toNat_neg, BitVec.toNat_ofNat, BitVec.toNat_ofNat, Nat.mod_eq_of_lt hX]
theorem x_indexOfOne {x : Int64} {k : Nat} (hk : k < fb_ct (lb x) 64) {post : Int32 → Prop} (h : post (nI (kp (lb x) 64 k))) : wX0_indexOfOne x (nI k) post := by
  have hk64 : k < 64 := Nat.lt_of_lt_of_le hk (fb_ct_le _ _)
  unfold wX0_indexOfOne
  -- behind j rounds the j lowest are gone
  refine ⟨fun y i => ∃ j, j ≤ k ∧ i = nI j ∧ ∀ q, q < 64 → lb y q = (lb x q && decide (j ≤ fb_ct (lb x) q)), fun _ i => k - i.toNatClampNeg, ⟨0, Nat.zero_le _, rfl, fun q _ => by simp⟩, ?_⟩
  rintro y i ⟨j, hj, rfl, hy⟩
  obtain ⟨Y, hY, rfl⟩ := wb_of y
  obtain ⟨o1, o2, o3⟩ := kp_spec (S := lb x) (N := 64) (k := j) (by omega)
  -- the lowest left is the j-th
  have l1 : Y.testBit (kp (lb x) 64 j) = true := by
    rw [← lb_N o1, hy _ o1, o2, o3]; simp
  have l2 : ∀ q, q < kp (lb x) 64 j → Y.testBit q = false := by
    intro q hq
    rw [← lb_N (by omega), hy q (by omega)]
    cases hb : lb x q with
    | false => rfl
    | true =>
      have h4 := fb_ct_mono (lb x) (show q + 1 ≤ kp (lb x) 64 j from hq)
      rw [fb_ct_succ, if_pos hb, o3] at h4
      simp; omega
  refine pk_le k j (fun c => ?_) (fun c => ?_)
  · have e : j = k := by omega
    subst e
    refine x_bitCount ?_
    rw [lN_neg hY, fb_andL, low_alone hY o1 l1 l2, show (1 : Int64) = lN 1 from rfl, lN_sub (Nat.two_pow_pos _)]
    have e3 : fb_ct (lb (lN (2 ^ kp (lb x) 64 j - 1))) 64 = kp (lb x) 64 j := by
      have : fb_ct (lb (lN (2 ^ kp (lb x) 64 j - 1))) 64 = fb_ct (fun q => (fun _ => true) q && decide ((q : Int) < (kp (lb x) 64 j : Int))) 64 := fb_ct_cong (fun q hq => by
        rw [lb_N hq, Nat.testBit_two_pow_sub_one]
        simp)
      rw [this, ct_cut, Int.toNat_natCast, show min (kp (lb x) 64 j) 64 = kp (lb x) 64 j by omega]
      exact fb_ct_all.mpr (fun _ _ => rfl)
    rw [e3]
    exact h
  · rintro z rfl w rfl
    have e1 : nI j + 1 = nI (j + 1) := nI_1 j
    have hY0 : 1 ≤ Y := by
      rcases Nat.eq_zero_or_pos Y with z | z
      · rw [z] at l1; simp at l1
      · exact z
    refine ⟨⟨j + 1, by omega, e1, fun q hq => ?_⟩, ?_⟩
    · rw [show (1 : Int64) = lN 1 from rfl, lN_sub hY0, fb_andL, lb_N hq, low_clear l1 l2, ← lb_N hq, hy q hq]
      cases hb : lb x q with
      | false => rfl
      | true =>
        simp only [Bool.true_and]
        rcases Nat.lt_trichotomy q (kp (lb x) 64 j) with z | z | z
        · have h4 := fb_ct_mono (lb x) (show q + 1 ≤ kp (lb x) 64 j from z)
          rw [fb_ct_succ, if_pos hb, o3] at h4
          rw [decide_eq_false (show ¬ j ≤ fb_ct (lb x) q by omega), decide_eq_false (show ¬ j + 1 ≤ fb_ct (lb x) q by omega)]
          rfl
        · rw [z, o3, decide_eq_false (show ¬ j + 1 ≤ j by omega)]; simp
        · have h4 := fb_ct_mono (lb x) (show kp (lb x) 64 j + 1 ≤ q from z)
          rw [fb_ct_succ, if_pos o2, o3] at h4
          rw [decide_eq_true (show j ≤ fb_ct (lb x) q by omega), decide_eq_true (show j + 1 ≤ fb_ct (lb x) q by omega), decide_eq_true (show q ≠ kp (lb x) 64 j by omega)]
          rfl
    · dsimp only; rw [e1, nI_clamp (by omega), nI_clamp (by omega)]; omega
