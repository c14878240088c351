/-! numbers: iI z, the int of an integer; nI n of a natural number -/
def iI (z : Int) : Int32 := Int32.ofInt z
theorem nI_iI (n : Nat) : nI n = iI (n : Int) := Int32.toBitVec_inj.mp (by show BitVec.ofNat 32 n = BitVec.ofInt 32 (n : Int); rw [BitVec.ofInt_natCast])
theorem iI_toInt {z : Int} (h1 : -2147483648 ≤ z) (h2 : z < 2147483648) : (iI z).toInt = z := fb_ofI h1 h2
theorem iI_self (x : Int32) : x = iI x.toInt := (fb_asI x).symm
theorem iI_add (a b : Int) : iI a + iI b = iI (a + b) := by unfold iI; rw [Int32.ofInt_add]
theorem iI_sub (a b : Int) : iI a - iI b = iI (a - b) := by unfold iI; rw [Int32.ofInt_sub]
theorem iI_mul (a b : Int) : iI a * iI b = iI (a * b) := by unfold iI; rw [Int32.ofInt_mul]
theorem iI_lt {a b : Int} (ha : -2147483648 ≤ a) (ha2 : a < 2147483648) (hb : -2147483648 ≤ b) (hb2 : b < 2147483648) : iI a < iI b ↔ a < b := by
  rw [Int32.lt_iff_toInt_lt, iI_toInt ha ha2, iI_toInt hb hb2]
theorem iI_le {a b : Int} (ha : -2147483648 ≤ a) (ha2 : a < 2147483648) (hb : -2147483648 ≤ b) (hb2 : b < 2147483648) : iI a ≤ iI b ↔ a ≤ b := by
  rw [Int32.le_iff_toInt_le, iI_toInt ha ha2, iI_toInt hb hb2]
theorem iI_eq {a b : Int} (ha : -2147483648 ≤ a) (ha2 : a < 2147483648) (hb : -2147483648 ≤ b) (hb2 : b < 2147483648) : iI a = iI b ↔ a = b := by
  rw [← Int32.toInt_inj, iI_toInt ha ha2, iI_toInt hb hb2]
theorem iI_div {a b : Nat} (ha : a < 2147483648) (hb : 0 < b) (hb2 : b < 2147483648) : iI a / iI b = iI (a / b : Nat) := by
  rw [← nI_iI, ← nI_iI, ← nI_iI]; exact pk_div ha hb hb2
theorem i_0 : (0 : Int32) = iI 0 := rfl
theorem i_1 : (1 : Int32) = iI 1 := rfl
theorem i_m1 : (-1 : Int32) = iI (-1) := rfl
theorem i_2 : (2 : Int32) = iI 2 := rfl
theorem iI_p1 (a : Int) : iI a + 1 = iI (a + 1) := by rw [i_1, iI_add]
theorem iI_m1 (a : Int) : iI a + (-1) = iI (a - 1) := by rw [i_m1, iI_add]; congr 1
theorem iI_s1 (a : Int) : iI a - 1 = iI (a - 1) := by rw [i_1, iI_sub]
/-- the excess: opens less closes among the first p -/
def ex (B : Nat → Bool) (p : Nat) : Int := 2 * (fb_ct B p : Int) - p
theorem ex_0 (B : Nat → Bool) : ex B 0 = 0 := by simp [ex, fb_ct]
theorem ex_s (B : Nat → Bool) (p : Nat) : ex B (p + 1) = ex B p + (if B p then 1 else -1) := by
  unfold ex
  rw [fb_ct_succ]
  cases B p <;> simp <;> omega
theorem ex_t {B : Nat → Bool} {p : Nat} (h : B p = true) : ex B (p + 1) = ex B p + 1 := by rw [ex_s, if_pos h]
theorem ex_f {B : Nat → Bool} {p : Nat} (h : B p = false) : ex B (p + 1) = ex B p - 1 := by rw [ex_s, if_neg (by rw [h]; decide)]; omega
theorem ex_b (B : Nat → Bool) (p : Nat) : -(p : Int) ≤ ex B p ∧ ex B p ≤ p := by
  have := fb_ct_le B p
  unfold ex
  omega
theorem ex_par (B : Nat → Bool) (p : Nat) : (ex B p + p) = 2 * (fb_ct B p : Int) := by unfold ex; omega
theorem ex_cong {B C : Nat → Bool} {p : Nat} (h : ∀ k, k < p → B k = C k) : ex B p = ex C p := by unfold ex; rw [fb_ct_cong h]
/-- a row of one tree, or of none -/
def Tr (B : Nat → Bool) (N : Nat) : Prop := N ≤ 128 ∧ ex B N = 0 ∧ ∀ p, 0 < p → p < N → 0 < ex B p
theorem Tr.nn {B : Nat → Bool} {N : Nat} (h : Tr B N) {p : Nat} (hp : p ≤ N) : 0 ≤ ex B p := by
  rcases Nat.eq_zero_or_pos p with h0 | h0
  · subst h0; rw [ex_0]; omega
  · rcases Nat.lt_or_ge p N with h1 | h1
    · exact Int.le_of_lt (h.2.2 p h0 h1)
    · rw [Nat.le_antisymm hp h1, h.2.1]; omega
theorem Tr.two {B : Nat → Bool} {N : Nat} (h : Tr B N) : N = 2 * fb_ct B N := by
  have := ex_par B N
  rw [h.2.1] at this
  omega
theorem Tr.first {B : Nat → Bool} {N : Nat} (h : Tr B N) (h0 : 0 < N) : B 0 = true := by
  have h2 := h.two
  rcases hb : B 0 with _ | _
  · have h1 := ex_f hb
    rw [ex_0] at h1
    have := h.nn (p := 1) (by omega)
    simp at h1
    omega
  · rfl
/-- the excess takes every value between: going down from a to b -/
theorem ex_down {B : Nat → Bool} {a b : Nat} {d : Int} (hab : a ≤ b) (h1 : d ≤ ex B a) (h2 : ex B b ≤ d) : ∃ k, a ≤ k ∧ k ≤ b ∧ ex B k = d ∧ ∀ j, a ≤ j → j < k → d < ex B j := by
  induction b with
  | zero =>
    have : a = 0 := by omega
    subst this
    exact ⟨0, Nat.le_refl _, Nat.le_refl _, by omega, fun j h3 h4 => by omega⟩
  | succ b ih =>
    rcases Nat.lt_or_ge b a with h | h
    · have : a = b + 1 := by omega
      subst this
      exact ⟨b + 1, Nat.le_refl _, Nat.le_refl _, by omega, fun j h3 h4 => by omega⟩
    · rcases Int.lt_or_le d (ex B b) with h3 | h3
      · have h4 := ex_s B b
        have h5 : ex B (b + 1) = d := by
          cases hb : B b <;> rw [hb] at h4 <;> simp at h4 <;> omega
        -- the first one: either some point ahead already is d, or b + 1 is
        rcases Classical.em (∃ k, a ≤ k ∧ k ≤ b ∧ ex B k ≤ d) with ⟨k, k1, k2, k3⟩ | h6
        · obtain ⟨k', q1, q2, q3, q4⟩ := (show ∃ k, a ≤ k ∧ k ≤ b + 1 ∧ ex B k = d ∧ ∀ j, a ≤ j → j < k → d < ex B j from by
            obtain ⟨i, i1, i2, i3⟩ := fb_first (p := fun k => a ≤ k ∧ ex B k ≤ d) (n := b + 1) ⟨k, by omega, k1, k3⟩
            rcases Nat.eq_or_lt_of_le i2.1 with e | e
            · subst e
              exact ⟨a, Nat.le_refl _, by omega, by omega, fun j h3 h4 => by omega⟩
            · have i4 := i3 (i - 1) (by omega)
              have i5 : d < ex B (i - 1) := by
                rcases Int.lt_or_le d (ex B (i - 1)) with z | z
                · exact z
                · exact absurd ⟨by omega, z⟩ i4
              have i6 := ex_s B (i - 1)
              rw [show i - 1 + 1 = i by omega] at i6
              refine ⟨i, i2.1, by omega, ?_, fun j j1 j2 => ?_⟩
              · have i7 := i2.2
                cases hb : B (i - 1) <;> rw [hb] at i6 <;> simp at i6 <;> omega
              · rcases Int.lt_or_le d (ex B j) with z | z
                · exact z
                · exact absurd ⟨j1, z⟩ (i3 j j2))
          exact ⟨k', q1, q2, q3, q4⟩
        · refine ⟨b + 1, by omega, Nat.le_refl _, h5, fun j j1 j2 => ?_⟩
          rcases Int.lt_or_le d (ex B j) with z | z
          · exact z
          · exact absurd ⟨j, j1, by omega, z⟩ h6
      · obtain ⟨k, k1, k2, k3, k4⟩ := ih h h3
        exact ⟨k, k1, by omega, k3, k4⟩
/-- going back from b, the last point with d ahead of which it is below -/
theorem ex_up {B : Nat → Bool} {a b : Nat} {d : Int} (hab : a ≤ b) (h1 : ex B a ≤ d) (h2 : d ≤ ex B b) : ∃ k, a ≤ k ∧ k ≤ b ∧ ex B k = d ∧ ∀ j, k < j → j ≤ b → d < ex B j ∨ False := by
  induction b with
  | zero =>
    have : a = 0 := by omega
    subst this
    exact ⟨0, Nat.le_refl _, Nat.le_refl _, by omega, fun j h3 h4 => by omega⟩
  | succ b ih =>
    rcases Int.lt_or_le d (ex B (b + 1)) with h3 | h3
    · rcases Nat.lt_or_ge b a with h | h
      · have : a = b + 1 := by omega
        subst this
        omega
      · have h4 := ex_s B b
        have h5 : d ≤ ex B b := by
          cases hb : B b <;> rw [hb] at h4 <;> simp at h4 <;> omega
        obtain ⟨k, k1, k2, k3, k4⟩ := ih h h5
        refine ⟨k, k1, by omega, k3, fun j j1 j2 => ?_⟩
        rcases Nat.lt_or_ge b j with z | z
        · rw [show j = b + 1 by omega]; exact Or.inl h3
        · exact k4 j j1 z
    · exact ⟨b + 1, hab, Nat.le_refl _, by omega, fun j j1 j2 => by omega⟩
