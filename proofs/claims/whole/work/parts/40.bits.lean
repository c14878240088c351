/-! rows on 64 bits: the family wb_ of kit/laws/BITS.to-paste, then mine -/
theorem wb_tb (n : Nat) : (lN n).toBitVec = BitVec.ofNat 64 n := rfl
theorem wb_inj {a b : Int64} (h : a.toBitVec = b.toBitVec) : a = b := Int64.toBitVec_inj.mp h
theorem wb_tn {n : Nat} (h : n < 2 ^ 64) : (lN n).toBitVec.toNat = n := by rw [wb_tb, BitVec.toNat_ofNat, Nat.mod_eq_of_lt h]
theorem wb_of (x : Int64) : ∃ n, n < 2 ^ 64 ∧ x = lN n := ⟨x.toBitVec.toNat, x.toBitVec.isLt, wb_inj (by rw [wb_tb]; simp)⟩
theorem wb_of32 (x : Int32) : ∃ n, n < 2 ^ 32 ∧ x = nI n := ⟨x.toBitVec.toNat, x.toBitVec.isLt, Int32.toBitVec_inj.mp (by show _ = BitVec.ofNat 32 _; simp)⟩
theorem wb_c : ∀ k, k < 64 → ((nI k).toInt64 &&& 63) = lN k := by decide +kernel
theorem wb_cu : ∀ k, k < 64 → ((nI k).toInt64.toUInt64 &&& Int64.toUInt64 63) = UInt64.ofNat k := by decide +kernel
theorem wb_sm : ∀ k, k < 64 → (BitVec.ofNat 64 k).smod 64 = BitVec.ofNat 64 k := by decide +kernel
theorem wb_pw {a b : Nat} (h : a ≤ b) : 2 ^ b = 2 ^ a * 2 ^ (b - a) := by rw [← Nat.pow_add]; congr 1; omega
theorem wb_lt2 {a b : Nat} (h : a < b) : 2 ^ a < 2 ^ b := Nat.pow_lt_pow_right (by decide) h
theorem wb_mod (n : Nat) : lN n = lN (n % 2 ^ 64) := wb_inj (by rw [wb_tb, wb_tb]; apply BitVec.eq_of_toNat_eq; rw [BitVec.toNat_ofNat, BitVec.toNat_ofNat, Nat.mod_mod])
theorem wb_shr {n k : Nat} (hn : n < 2 ^ 64) (hk : k < 64) : ((lN n).toUInt64 >>> ((nI k).toInt64.toUInt64 &&& Int64.toUInt64 63)).toInt64 = lN (n / 2 ^ k) := by
  rw [wb_cu k hk]
  apply wb_inj
  apply BitVec.eq_of_toNat_eq
  show ((lN n).toUInt64 >>> UInt64.ofNat k).toNat = (BitVec.ofNat 64 _).toNat
  have h1 : (UInt64.ofNat k).toNat = k := by
    show (BitVec.ofNat 64 k).toNat = k
    rw [BitVec.toNat_ofNat, Nat.mod_eq_of_lt (by omega)]
  have h2 : (lN n).toUInt64.toNat = n := wb_tn hn
  rw [UInt64.toNat_shiftRight, h1, h2, Nat.mod_eq_of_lt hk, Nat.shiftRight_eq_div_pow, BitVec.toNat_ofNat, Nat.mod_eq_of_lt (Nat.lt_of_le_of_lt (Nat.div_le_self _ _) hn)]
theorem wb_shl (n : Nat) {k : Nat} (hk : k < 64) : lN n <<< ((nI k).toInt64 &&& 63) = lN (n * 2 ^ k) := by
  rw [wb_c k hk]
  apply wb_inj
  rw [Int64.toBitVec_shiftLeft, wb_tb, wb_tb, wb_tb, wb_sm k hk]
  apply BitVec.eq_of_toNat_eq
  rw [BitVec.shiftLeft_eq', BitVec.toNat_shiftLeft, BitVec.toNat_ofNat, BitVec.toNat_ofNat, BitVec.toNat_ofNat, Nat.mod_eq_of_lt (show k < 2 ^ 64 by omega), Nat.shiftLeft_eq, Nat.mul_mod, Nat.mod_mod, ← Nat.mul_mod]
theorem wb_and {a b : Nat} (ha : a < 2 ^ 64) (hb : b < 2 ^ 64) : lN a &&& lN b = lN (a &&& b) := by
  apply wb_inj
  rw [Int64.toBitVec_and, wb_tb, wb_tb, wb_tb]
  apply BitVec.eq_of_toNat_eq
  rw [BitVec.toNat_and, BitVec.toNat_ofNat, BitVec.toNat_ofNat, BitVec.toNat_ofNat, Nat.mod_eq_of_lt ha, Nat.mod_eq_of_lt hb, Nat.mod_eq_of_lt (Nat.and_lt_two_pow _ hb)]
theorem wb_or {a b : Nat} (ha : a < 2 ^ 64) (hb : b < 2 ^ 64) : lN a ||| lN b = lN (a ||| b) := by
  apply wb_inj
  rw [Int64.toBitVec_or, wb_tb, wb_tb, wb_tb]
  apply BitVec.eq_of_toNat_eq
  rw [BitVec.toNat_or, BitVec.toNat_ofNat, BitVec.toNat_ofNat, BitVec.toNat_ofNat, Nat.mod_eq_of_lt ha, Nat.mod_eq_of_lt hb, Nat.mod_eq_of_lt (Nat.or_lt_two_pow ha hb)]
theorem wb_mask {n k : Nat} (hn : n < 2 ^ 64) (hk : k < 64) : lN n &&& lN (2 ^ k - 1) = lN (n % 2 ^ k) := by
  rw [wb_and hn (by have := wb_lt2 hk; omega), Nat.and_two_pow_sub_one_eq_mod]
/-- a bit of a long -/
def lb (x : Int64) (k : Nat) : Bool := x.toBitVec.getLsbD k
theorem lb_ext {x y : Int64} (h : ∀ k, k < 64 → lb x k = lb y k) : x = y := Int64.toBitVec_inj.mp (BitVec.eq_of_getLsbD_eq (fun i hi => h i hi))
theorem lb_and (x y : Int64) (k : Nat) : lb (x &&& y) k = (lb x k && lb y k) := by unfold lb; rw [Int64.toBitVec_and, BitVec.getLsbD_and]
theorem lb_or (x y : Int64) (k : Nat) : lb (x ||| y) k = (lb x k || lb y k) := by unfold lb; rw [Int64.toBitVec_or, BitVec.getLsbD_or]
theorem lb_xor (x y : Int64) (k : Nat) : lb (x ^^^ y) k = (lb x k ^^ lb y k) := by unfold lb; rw [Int64.toBitVec_xor, BitVec.getLsbD_xor]
theorem lb_big {x : Int64} {k : Nat} (h : 64 ≤ k) : lb x k = false := BitVec.getLsbD_of_ge _ _ h
theorem lb_0 (k : Nat) : lb 0 k = false := BitVec.getLsbD_zero
theorem lb_m1 : ∀ k, k < 64 → lb (-1) k = true := by decide +kernel
theorem lb_not (x : Int64) {k : Nat} (h : k < 64) : lb (x ^^^ (-1)) k = !lb x k := by rw [lb_xor, lb_m1 k h]; simp
theorem lb_N {n k : Nat} (h : k < 64) : lb (lN n) k = n.testBit k := by
  unfold lb
  rw [wb_tb, BitVec.getLsbD_ofNat]
  simp [h]
theorem lb_shl (x : Int64) {n k : Nat} (hn : n < 64) (hk : k < 64) : lb (zlshl x (nI n)) k = (decide (n ≤ k) && lb x (k - n)) := by
  unfold lb zlshl
  rw [wb_c n hn, Int64.toBitVec_shiftLeft, wb_tb, wb_sm n hn, BitVec.shiftLeft_eq', BitVec.getLsbD_shiftLeft, BitVec.toNat_ofNat, Nat.mod_eq_of_lt (show n < 2 ^ 64 by omega)]
  rcases Nat.lt_or_ge k n with h | h
  · simp [h, Nat.not_le.mpr h]
  · simp [hk, h, Nat.not_lt.mpr h]
theorem lb_ushr (x : Int64) {n k : Nat} (hn : n < 64) : lb (zlushr x (nI n)) k = lb x (n + k) := by
  unfold lb zlushr
  rw [wb_cu n hn]
  show (x.toUInt64 >>> UInt64.ofNat n).toBitVec.getLsbD k = x.toUInt64.toBitVec.getLsbD (n + k)
  rw [UInt64.toBitVec_shiftRight, BitVec.ushiftRight_eq', BitVec.getLsbD_ushiftRight]
  congr 1
  show ((BitVec.ofNat 64 n) % 64#64).toNat + k = n + k
  rw [BitVec.toNat_umod, BitVec.toNat_ofNat, Nat.mod_eq_of_lt (show n < 2 ^ 64 by omega)]
  show n % 64 + k = n + k
  rw [Nat.mod_eq_of_lt hn]
theorem x_firstOf {p : Int32} {post : Int64 → Prop} (h : ∀ r, (∀ k : Nat, k < 64 → lb r k = decide ((k : Int) < p.toInt)) → post r) : wX0_firstOf p post := by
  unfold wX0_firstOf
  have e0 : (0 : Int32).toInt = 0 := rfl
  have e64 : (64 : Int32).toInt = 64 := rfl
  refine ⟨fun c => ⟨fun c2 => ?_, fun c2 => ?_⟩, fun c => ?_⟩
  · rw [Int32.lt_iff_toInt_lt, e0] at c
    rw [Int32.lt_iff_toInt_lt, e64] at c2
    obtain ⟨n, hn⟩ : ∃ n : Nat, p.toInt = n := ⟨p.toInt.toNat, by omega⟩
    have ep : p = nI n := by rw [nI_iI, ← hn]; exact iI_self p
    refine h _ (fun k hk => ?_)
    have e1 : zlshl 1 p - 1 = lN (2 ^ n - 1) := by
      rw [ep]
      unfold zlshl
      rw [show (1 : Int64) = lN 1 from rfl, wb_shl 1 (show n < 64 by omega), Nat.one_mul, lN_sub (Nat.two_pow_pos n)]
    rw [e1, lb_N hk, Nat.testBit_two_pow_sub_one, hn]
    exact decide_eq_decide.mpr (by omega)
  · rw [Int32.lt_iff_toInt_lt, e64] at c2
    refine h _ (fun k hk => ?_)
    rw [lb_m1 k hk, decide_eq_true (by omega)]
  · rw [Int32.lt_iff_toInt_lt, e0] at c
    refine h _ (fun k hk => ?_)
    rw [lb_0, decide_eq_false (by omega)]
/-! the count of bits of a long -/
theorem and_split {m a u r s : Nat} (ha : a < 2 ^ m) (hu : u < 2 ^ m) : (2 ^ m * r + a) &&& (2 ^ m * s + u) = 2 ^ m * (r &&& s) + (a &&& u) := by
  have h1 : a &&& u < 2 ^ m := Nat.and_lt_two_pow a hu
  apply Nat.eq_of_testBit_eq
  intro j
  rw [Nat.testBit_and, Nat.testBit_two_pow_mul_add _ ha, Nat.testBit_two_pow_mul_add _ hu, Nat.testBit_two_pow_mul_add _ h1]
  split <;> rw [Nat.testBit_and]
def mk8 (c : Nat) : Nat → Nat
  | 0 => 0
  | n + 1 => 256 * mk8 c n + c
def p8 (b : Nat) : Nat := fb_ct (fun k => b.testBit k) 8
def s1 (M X : Nat) : Nat := X - ((X / 2) &&& M)
def s2 (M X : Nat) : Nat := (X &&& M) + ((X / 4) &&& M)
def s3 (M X : Nat) : Nat := (X + X / 16) &&& M
theorem d1 : ∀ b, b < 256 → ∀ z, z < 2 → ((b / 2 + 128 * z) &&& 85) = ((b / 2) &&& 85) ∧ ((b / 2) &&& 85) ≤ b := by decide +kernel
theorem d2 : ∀ b, b < 256 → ∀ z, z < 4 → ((b / 4 + 64 * z) &&& 51) = ((b / 4) &&& 51) ∧ (b &&& 51) + ((b / 4) &&& 51) < 256 := by decide +kernel
theorem d3 : ∀ b, b < 256 → (s2 51 (s1 85 b)) % 16 ≤ 4 ∧ s2 51 (s1 85 b) ≤ 68 ∧ ∀ z, z < 5 → ((s2 51 (s1 85 b) + s2 51 (s1 85 b) / 16 + 16 * z) &&& 15) = p8 b := by decide +kernel
theorem s1_s {b r M : Nat} (hb : b < 256) (hr : ((r / 2) &&& M) ≤ r) : s1 (256 * M + 85) (256 * r + b) = 256 * s1 M r + s1 85 b := by
  obtain ⟨q1, q2⟩ := d1 b hb (r % 2) (Nat.mod_lt _ (by decide))
  unfold s1
  have e : (256 * r + b) / 2 = 2 ^ 8 * (r / 2) + (b / 2 + 128 * (r % 2)) := by omega
  rw [e, show (256 * M + 85) = 2 ^ 8 * M + 85 from rfl, and_split (by omega) (by decide), q1]
  have : 2 ^ 8 * (r / 2 &&& M) + (b / 2 &&& 85) = 256 * (r / 2 &&& M) + (b / 2 &&& 85) := rfl
  omega
theorem s2_s {b r M : Nat} (hb : b < 256) : s2 (256 * M + 51) (256 * r + b) = 256 * s2 M r + s2 51 b := by
  obtain ⟨q1, q2⟩ := d2 b hb (r % 4) (Nat.mod_lt _ (by decide))
  unfold s2
  have e : (256 * r + b) / 4 = 2 ^ 8 * (r / 4) + (b / 4 + 64 * (r % 4)) := by omega
  rw [e, show (256 * M + 51) = 2 ^ 8 * M + 51 from rfl, and_split (by omega) (by decide), q1, show 256 * r + b = 2 ^ 8 * r + b from rfl, and_split hb (by decide)]
  omega
theorem le_and_half (r M : Nat) : ((r / 2) &&& M) ≤ r := Nat.le_trans Nat.and_le_left (Nat.div_le_self _ _)
/-- behind the three steps each byte tells its own count -/
theorem s123 : ∀ (n X : Nat), X < 256 ^ n → (s2 (mk8 51 n) (s1 (mk8 85 n) X)) % 16 ≤ 4 ∧ ∀ b, b < 256 → s3 (mk8 15 (n + 1)) (s2 (mk8 51 (n + 1)) (s1 (mk8 85 (n + 1)) (256 * X + b))) = 256 * s3 (mk8 15 n) (s2 (mk8 51 n) (s1 (mk8 85 n) X)) + p8 b := by
  intro n X hX
  have hlow : (s2 (mk8 51 n) (s1 (mk8 85 n) X)) % 16 ≤ 4 := by
    cases n with
    | zero =>
      have : X = 0 := by simpa using hX
      subst this
      decide
    | succ n =>
      have e : X = 256 * (X / 256) + X % 256 := by omega
      rw [e]
      show s2 (256 * mk8 51 n + 51) (s1 (256 * mk8 85 n + 85) _) % 16 ≤ 4
      rw [s1_s (Nat.mod_lt _ (by decide)) (le_and_half _ _), s2_s (by
        have := (d1 (X % 256) (Nat.mod_lt _ (by decide)) 0 (by decide)).2
        unfold s1; omega)]
      have := (d3 (X % 256) (Nat.mod_lt _ (by decide))).1
      omega
  refine ⟨hlow, fun b hb => ?_⟩
  show s3 (256 * mk8 15 n + 15) (s2 (256 * mk8 51 n + 51) (s1 (256 * mk8 85 n + 85) _)) = _
  have hb1 : s1 85 b < 256 := by unfold s1; omega
  rw [s1_s hb (le_and_half _ _), s2_s hb1]
  generalize s2 (mk8 51 n) (s1 (mk8 85 n) X) = R at *
  obtain ⟨t1, t2, t3⟩ := d3 b hb
  have t4 := t3 (R % 16) (by omega)
  unfold s3
  generalize s2 51 (s1 85 b) = c at *
  have e : 256 * R + c + (256 * R + c) / 16 = 2 ^ 8 * (R + R / 16) + (c + c / 16 + 16 * (R % 16)) := by omega
  rw [e, show (256 * mk8 15 n + 15) = 2 ^ 8 * mk8 15 n + 15 from rfl, and_split (by omega) (by decide), t4]
theorem p8_le (b : Nat) : p8 b ≤ 8 := fb_ct_le _ 8
theorem ct_byte (X n : Nat) {b : Nat} (hb : b < 256) : fb_ct (fun k => (256 * X + b).testBit k) (8 + n) = fb_ct (fun k => X.testBit k) n + p8 b := by
  rw [fb_ct_split, Nat.add_comm]
  congr 1
  · refine fb_ct_cong (fun k hk => ?_)
    have := Nat.testBit_two_pow_mul_add X (i := 8) (b := b) hb (8 + k)
    rw [show 256 * X + b = 2 ^ 8 * X + b from rfl, this, if_neg (by omega)]
    congr 1; omega
  · refine fb_ct_cong (fun k hk => ?_)
    have := Nat.testBit_two_pow_mul_add X (i := 8) (b := b) hb k
    rw [show 256 * X + b = 2 ^ 8 * X + b from rfl, this, if_pos hk]
theorem s3_sum (X : Nat) (hX : X < 2 ^ 64) : ∃ g0 g1 g2 g3 g4 g5 g6 g7 : Nat, g0 ≤ 8 ∧ g1 ≤ 8 ∧ g2 ≤ 8 ∧ g3 ≤ 8 ∧ g4 ≤ 8 ∧ g5 ≤ 8 ∧ g6 ≤ 8 ∧ g7 ≤ 8 ∧ fb_ct (fun k => X.testBit k) 64 = g0 + g1 + g2 + g3 + g4 + g5 + g6 + g7 ∧ s3 (mk8 15 8) (s2 (mk8 51 8) (s1 (mk8 85 8) X)) = g0 + 256 * (g1 + 256 * (g2 + 256 * (g3 + 256 * (g4 + 256 * (g5 + 256 * (g6 + 256 * g7)))))) := by
  have step : ∀ (n Y : Nat), Y < 256 ^ (n + 1) → Y / 256 < 256 ^ n ∧ s3 (mk8 15 (n + 1)) (s2 (mk8 51 (n + 1)) (s1 (mk8 85 (n + 1)) Y)) = 256 * s3 (mk8 15 n) (s2 (mk8 51 n) (s1 (mk8 85 n) (Y / 256))) + p8 (Y % 256) ∧ fb_ct (fun k => Y.testBit k) (8 + 8 * n) = fb_ct (fun k => (Y / 256).testBit k) (8 * n) + p8 (Y % 256) := by
    intro n Y hY
    have h1 : Y / 256 < 256 ^ n := by
      rw [Nat.pow_succ] at hY
      exact Nat.div_lt_of_lt_mul (by rw [Nat.mul_comm]; exact hY)
    have e : Y = 256 * (Y / 256) + Y % 256 := by omega
    refine ⟨h1, ?_, ?_⟩
    · have := (s123 n (Y / 256) h1).2 (Y % 256) (Nat.mod_lt _ (by decide))
      rw [← e] at this
      exact this
    · have := ct_byte (Y / 256) (8 * n) (b := Y % 256) (Nat.mod_lt _ (by decide))
      rw [← e] at this
      exact this
  obtain ⟨a7, b7, c7⟩ := step 7 X (by rw [show (256 : Nat) ^ (7 + 1) = 2 ^ 64 from rfl]; exact hX)
  obtain ⟨a6, b6, c6⟩ := step 6 _ a7
  obtain ⟨a5, b5, c5⟩ := step 5 _ a6
  obtain ⟨a4, b4, c4⟩ := step 4 _ a5
  obtain ⟨a3, b3, c3⟩ := step 3 _ a4
  obtain ⟨a2, b2, c2⟩ := step 2 _ a3
  obtain ⟨a1, b1, c1⟩ := step 1 _ a2
  obtain ⟨a0, b0, c0⟩ := step 0 _ a1
  refine ⟨p8 (X % 256), p8 (X / 256 % 256), p8 (X / 256 / 256 % 256), p8 (X / 256 / 256 / 256 % 256), p8 (X / 256 / 256 / 256 / 256 % 256), p8 (X / 256 / 256 / 256 / 256 / 256 % 256), p8 (X / 256 / 256 / 256 / 256 / 256 / 256 % 256), p8 (X / 256 / 256 / 256 / 256 / 256 / 256 / 256 % 256), p8_le _, p8_le _, p8_le _, p8_le _, p8_le _, p8_le _, p8_le _, p8_le _, ?_, ?_⟩
  · rw [show (64 : Nat) = 8 + 8 * 7 from rfl, c7, show 8 * 7 = 8 + 8 * 6 from rfl, c6, show 8 * 6 = 8 + 8 * 5 from rfl, c5, show 8 * 5 = 8 + 8 * 4 from rfl, c4, show 8 * 4 = 8 + 8 * 3 from rfl, c3, show 8 * 3 = 8 + 8 * 2 from rfl, c2, show 8 * 2 = 8 + 8 * 1 from rfl, c1, show 8 * 1 = 8 + 8 * 0 from rfl, c0]
    show fb_ct _ (8 * 0) + _ + _ + _ + _ + _ + _ + _ + _ = _
    rw [show fb_ct (fun k => (X / 256 / 256 / 256 / 256 / 256 / 256 / 256 / 256).testBit k) (8 * 0) = 0 from rfl]
    omega
  · have z : s3 (mk8 15 0) (s2 (mk8 51 0) (s1 (mk8 85 0) (X / 256 / 256 / 256 / 256 / 256 / 256 / 256 / 256))) = 0 := by
      have : ∀ y, s3 (mk8 15 0) y = 0 := fun y => Nat.and_zero _
      exact this _
    rw [show (8 : Nat) = 7 + 1 from rfl, b7, b6, b5, b4, b3, b2, b1, b0, z]
    omega
theorem fold_div {a b R : Nat} (ha : a < b) : (a + b * R) / b = R := by
  rw [Nat.add_mul_div_left _ _ (by omega), Nat.div_eq_of_lt ha, Nat.zero_add]
theorem fold_mod {S Y : Nat} (h : S ≤ 64) : (S + 256 * Y) % 2 ^ 32 % 2 ^ 7 = S := by
  rw [Nat.mod_mod_of_dvd _ (by decide : 2 ^ 7 ∣ 2 ^ 32), show S + 256 * Y = S + 2 ^ 7 * (2 * Y) by omega, Nat.add_mul_mod_self_left]
  exact Nat.mod_eq_of_lt (by omega)
theorem fold_bytes {g0 g1 g2 g3 g4 g5 g6 g7 : Nat} (k0 : g0 ≤ 8) (k1 : g1 ≤ 8) (k2 : g2 ≤ 8) (k3 : g3 ≤ 8) (k4 : g4 ≤ 8) (k5 : g5 ≤ 8) (k6 : g6 ≤ 8) (k7 : g7 ≤ 8) :
    ((g0 + 256 * (g1 + 256 * (g2 + 256 * (g3 + 256 * (g4 + 256 * (g5 + 256 * (g6 + 256 * g7))))))) + (g0 + 256 * (g1 + 256 * (g2 + 256 * (g3 + 256 * (g4 + 256 * (g5 + 256 * (g6 + 256 * g7))))))) / 256 + ((g0 + 256 * (g1 + 256 * (g2 + 256 * (g3 + 256 * (g4 + 256 * (g5 + 256 * (g6 + 256 * g7))))))) + (g0 + 256 * (g1 + 256 * (g2 + 256 * (g3 + 256 * (g4 + 256 * (g5 + 256 * (g6 + 256 * g7))))))) / 256) / 65536 + ((g0 + 256 * (g1 + 256 * (g2 + 256 * (g3 + 256 * (g4 + 256 * (g5 + 256 * (g6 + 256 * g7))))))) + (g0 + 256 * (g1 + 256 * (g2 + 256 * (g3 + 256 * (g4 + 256 * (g5 + 256 * (g6 + 256 * g7))))))) / 256 + ((g0 + 256 * (g1 + 256 * (g2 + 256 * (g3 + 256 * (g4 + 256 * (g5 + 256 * (g6 + 256 * g7))))))) + (g0 + 256 * (g1 + 256 * (g2 + 256 * (g3 + 256 * (g4 + 256 * (g5 + 256 * (g6 + 256 * g7))))))) / 256) / 65536) / 4294967296) % 2 ^ 32 % 2 ^ 7 = g0 + g1 + g2 + g3 + g4 + g5 + g6 + g7 := by
  rw [fold_div (a := g0) (b := 256) (by omega)]
  have e2 : g0 + 256 * (g1 + 256 * (g2 + 256 * (g3 + 256 * (g4 + 256 * (g5 + 256 * (g6 + 256 * g7)))))) + (g1 + 256 * (g2 + 256 * (g3 + 256 * (g4 + 256 * (g5 + 256 * (g6 + 256 * g7)))))) = ((g0 + g1) + 256 * (g1 + g2)) + 65536 * ((g2 + g3) + 256 * ((g3 + g4) + 256 * ((g4 + g5) + 256 * ((g5 + g6) + 256 * ((g6 + g7) + 256 * g7))))) := by omega
  rw [e2, fold_div (b := 65536) (by omega)]
  have e3 : (g0 + g1) + 256 * (g1 + g2) + 65536 * ((g2 + g3) + 256 * ((g3 + g4) + 256 * ((g4 + g5) + 256 * ((g5 + g6) + 256 * ((g6 + g7) + 256 * g7))))) + ((g2 + g3) + 256 * ((g3 + g4) + 256 * ((g4 + g5) + 256 * ((g5 + g6) + 256 * ((g6 + g7) + 256 * g7))))) = ((g0 + g1 + g2 + g3) + 256 * ((g1 + g2 + g3 + g4) + 256 * ((g2 + g3 + g4 + g5) + 256 * (g3 + g4 + g5 + g6)))) + 4294967296 * ((g4 + g5 + g6 + g7) + 256 * ((g5 + g6 + g7) + 256 * ((g6 + g7) + 256 * g7))) := by omega
  rw [e3, fold_div (b := 4294967296) (by omega)]
  have e4 : (g0 + g1 + g2 + g3) + 256 * ((g1 + g2 + g3 + g4) + 256 * ((g2 + g3 + g4 + g5) + 256 * (g3 + g4 + g5 + g6))) + 4294967296 * ((g4 + g5 + g6 + g7) + 256 * ((g5 + g6 + g7) + 256 * ((g6 + g7) + 256 * g7))) + ((g4 + g5 + g6 + g7) + 256 * ((g5 + g6 + g7) + 256 * ((g6 + g7) + 256 * g7))) = (g0 + g1 + g2 + g3 + g4 + g5 + g6 + g7) + 256 * (((g1 + g2 + g3 + g4) + 256 * ((g2 + g3 + g4 + g5) + 256 * (g3 + g4 + g5 + g6))) + 16777216 * ((g4 + g5 + g6 + g7) + 256 * ((g5 + g6 + g7) + 256 * ((g6 + g7) + 256 * g7))) + ((g5 + g6 + g7) + 256 * ((g6 + g7) + 256 * g7))) := by omega
  rw [e4]
  exact fold_mod (by omega)
set_option maxRecDepth 20000 in
theorem x_bitCount {x : Int64} {post : Int32 → Prop} (h : post (nI (fb_ct (lb x) 64))) : wJ13_bitCount_95d88 x post := by
  obtain ⟨X, hX, rfl⟩ := wb_of x
  obtain ⟨g0, g1, g2, g3, g4, g5, g6, g7, k0, k1, k2, k3, k4, k5, k6, k7, hc, hs⟩ := s3_sum X hX
  have hct : fb_ct (lb (lN X)) 64 = g0 + g1 + g2 + g3 + g4 + g5 + g6 + g7 := by
    rw [← hc]; exact fb_ct_cong (fun k hk => lb_N hk)
  unfold wJ13_bitCount_95d88
  have m5 : (6148914691236517205 : Int64) = lN (mk8 85 8) := by decide +kernel
  have m3 : (3689348814741910323 : Int64) = lN (mk8 51 8) := by decide +kernel
  have mf : (1085102592571150095 : Int64) = lN (mk8 15 8) := by decide +kernel
  have M5 : mk8 85 8 < 2 ^ 64 := by decide +kernel
  have M3 : mk8 51 8 ≤ 3689348814741910323 := by decide +kernel
  rintro x1 e1 x2 e2 x3 e3 x4 e4 x5 e5 x6 e6
  have h1 : x1 = lN (s1 (mk8 85 8) X) := by
    rw [e1, m5, show zlushr (lN X) 1 = lN (X / 2 ^ 1) from wb_shr hX (by decide), fb_andL, lN_sub (le_and_half _ _)]
    rfl
  have l1 : s1 (mk8 85 8) X < 2 ^ 64 := Nat.lt_of_le_of_lt (Nat.sub_le _ _) hX
  have h2 : x2 = lN (s2 (mk8 51 8) (s1 (mk8 85 8) X)) := by
    rw [e2, h1, m3, show zlushr (lN (s1 (mk8 85 8) X)) 2 = lN (s1 (mk8 85 8) X / 2 ^ 2) from wb_shr l1 (by decide), fb_andL, fb_andL, lN_add]
    rfl
  have l2 : s2 (mk8 51 8) (s1 (mk8 85 8) X) < 2 ^ 64 := by
    have q1 : (s1 (mk8 85 8) X) &&& mk8 51 8 ≤ mk8 51 8 := Nat.and_le_right
    have q2 : (s1 (mk8 85 8) X / 4) &&& mk8 51 8 ≤ mk8 51 8 := Nat.and_le_right
    unfold s2
    omega
  have h3 : x3 = lN (s3 (mk8 15 8) (s2 (mk8 51 8) (s1 (mk8 85 8) X))) := by
    rw [e3, h2, mf, show zlushr (lN (s2 (mk8 51 8) (s1 (mk8 85 8) X))) 4 = lN (s2 (mk8 51 8) (s1 (mk8 85 8) X) / 2 ^ 4) from wb_shr l2 (by decide), lN_add, fb_andL]
    rfl
  rw [hs] at h3
  generalize hG : g0 + 256 * (g1 + 256 * (g2 + 256 * (g3 + 256 * (g4 + 256 * (g5 + 256 * (g6 + 256 * g7)))))) = G at h3
  have h4 : x4 = lN (G + G / 256) := by
    rw [e4, h3, show zlushr (lN G) 8 = lN (G / 2 ^ 8) from wb_shr (by omega) (by decide), lN_add]
  have h5 : x5 = lN (G + G / 256 + (G + G / 256) / 65536) := by
    rw [e5, h4, show zlushr (lN (G + G / 256)) 16 = lN ((G + G / 256) / 2 ^ 16) from wb_shr (by omega) (by decide), lN_add]
  have h6 : x6 = lN (G + G / 256 + (G + G / 256) / 65536 + (G + G / 256 + (G + G / 256) / 65536) / 4294967296) := by
    rw [e6, h5, show zlushr (lN (G + G / 256 + (G + G / 256) / 65536)) 32 = lN ((G + G / 256 + (G + G / 256) / 65536) / 2 ^ 32) from wb_shr (by omega) (by decide), lN_add]
  have h7 : (x6.toInt32 &&& 127) = nI (fb_ct (lb (lN X)) 64) := by
    rw [h6, lN_i, show (127 : Int32) = nI (2 ^ 7 - 1) from rfl]
    have q := pk_andN (n := (G + G / 256 + (G + G / 256) / 65536 + (G + G / 256 + (G + G / 256) / 65536) / 4294967296) % 2 ^ 32) (by omega) (m := nI (2 ^ 7 - 1)) 7 (by decide +kernel)
    have q2 : nI (G + G / 256 + (G + G / 256) / 65536 + (G + G / 256 + (G + G / 256) / 65536) / 4294967296) = nI ((G + G / 256 + (G + G / 256) / 65536 + (G + G / 256 + (G + G / 256) / 65536) / 4294967296) % 2 ^ 32) := by
      apply Int32.toBitVec_inj.mp
      show BitVec.ofNat 32 _ = BitVec.ofNat 32 _
      apply BitVec.eq_of_toNat_eq
      rw [BitVec.toNat_ofNat, BitVec.toNat_ofNat, Nat.mod_mod]
    rw [q2, q, hct]
    congr 1
    rw [← hG]
    exact fold_bytes k0 k1 k2 k3 k4 k5 k6 k7
  rw [h7]
  exact h
