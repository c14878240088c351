/-! places, partners, nodes of a row B of N places -/
theorem q_le {x y : Int32} {A B : Prop} (a b : Int) (f : a ≤ b → A) (g : b < a → B) (hx : x = iI a := by rfl) (hy : y = iI b := by rfl) (ha : -2147483648 ≤ a ∧ a < 2147483648 := by omega) (hb : -2147483648 ≤ b ∧ b < 2147483648 := by omega) : (x ≤ y → A) ∧ (¬ x ≤ y → B) := by
  subst hx hy
  rw [iI_le ha.1 ha.2 hb.1 hb.2]
  exact ⟨f, fun z => g (by omega)⟩
theorem q_lt {x y : Int32} {A B : Prop} (a b : Int) (f : a < b → A) (g : b ≤ a → B) (hx : x = iI a := by rfl) (hy : y = iI b := by rfl) (ha : -2147483648 ≤ a ∧ a < 2147483648 := by omega) (hb : -2147483648 ≤ b ∧ b < 2147483648 := by omega) : (x < y → A) ∧ (¬ x < y → B) := by
  subst hx hy
  rw [iI_lt ha.1 ha.2 hb.1 hb.2]
  exact ⟨f, fun z => g (by omega)⟩
theorem q_eq {x y : Int32} {A B : Prop} (a b : Int) (f : a = b → A) (g : a ≠ b → B) (hx : x = iI a := by rfl) (hy : y = iI b := by rfl) (ha : -2147483648 ≤ a ∧ a < 2147483648 := by omega) (hb : -2147483648 ≤ b ∧ b < 2147483648 := by omega) : (x = y → A) ∧ (¬ x = y → B) := by
  subst hx hy
  rw [iI_eq ha.1 ha.2 hb.1 hb.2]
  exact ⟨f, g⟩
theorem q_ne {x y : Int32} {A B : Prop} (a b : Int) (g : a ≠ b → A) (f : a = b → B) (hx : x = iI a := by rfl) (hy : y = iI b := by rfl) (ha : -2147483648 ≤ a ∧ a < 2147483648 := by omega) (hb : -2147483648 ≤ b ∧ b < 2147483648 := by omega) : (¬ x = y → A) ∧ (x = y → B) := (q_eq a b f g hx hy ha hb).symm
theorem pk_ne {x y : Int32} {A B : Prop} (a b : Nat) (g : a ≠ b → A) (f : a = b → B) (hx : x = nI a := by rfl) (hy : y = nI b := by rfl) (ha : a < 2 ^ 31 := by omega) (hb : b < 2 ^ 31 := by omega) : (¬ x = y → A) ∧ (x = y → B) := (pk_eq a b f g hx hy ha hb).symm
/-- the k-th place (0 on) of the first N at which S is; N if there is none -/
noncomputable def kp (S : Nat → Bool) (N k : Nat) : Nat := if h : ∃ q, q < N ∧ S q = true ∧ fb_ct S q = k then Classical.choose h else N
theorem kp_spec {S : Nat → Bool} {N k : Nat} (h : k < fb_ct S N) : kp S N k < N ∧ S (kp S N k) = true ∧ fb_ct S (kp S N k) = k := by
  have h' : ∃ q, q < N ∧ S q = true ∧ fb_ct S q = k := fb_ct_kth h
  unfold kp
  rw [dif_pos h']
  exact Classical.choose_spec h'
theorem kp_eq {S : Nat → Bool} {N k q : Nat} (h1 : q < N) (h2 : S q = true) (h3 : fb_ct S q = k) : kp S N k = q := by
  have h' : ∃ q, q < N ∧ S q = true ∧ fb_ct S q = k := ⟨q, h1, h2, h3⟩
  unfold kp
  rw [dif_pos h']
  have h4 := Classical.choose_spec h'
  exact fb_ct_kth_one h4.2.1 h2 (h4.2.2.trans h3.symm)
theorem kp_none {S : Nat → Bool} {N k : Nat} (h : fb_ct S N ≤ k) : kp S N k = N := by
  unfold kp
  rw [dif_neg]
  rintro ⟨q, h1, h2, h3⟩
  have h4 := fb_ct_mono S (show q + 1 ≤ N by omega)
  rw [fb_ct_succ, if_pos h2] at h4
  omega
theorem kp_le (S : Nat → Bool) (N k : Nat) : kp S N k ≤ N := by
  rcases Nat.lt_or_ge k (fb_ct S N) with h | h
  · exact Nat.le_of_lt (kp_spec h).1
  · rw [kp_none h]; exact Nat.le_refl _
theorem kp_ct (S : Nat → Bool) (N k : Nat) (h : k ≤ fb_ct S N) : fb_ct S (kp S N k) = k := by
  rcases Nat.lt_or_ge k (fb_ct S N) with h1 | h1
  · exact (kp_spec h1).2.2
  · rw [kp_none h1]; omega
theorem kp_lt {S : Nat → Bool} {N a b : Nat} (h : a < b) (hb : b ≤ fb_ct S N) : kp S N a < kp S N b := by
  rcases Nat.lt_or_ge (kp S N a) (kp S N b) with z | z
  · exact z
  · have h1 := fb_ct_mono S z
    rw [kp_ct S N a (by omega), kp_ct S N b hb] at h1
    omega
theorem kp_gap {S : Nat → Bool} {N k j : Nat} (h : k < fb_ct S N) (h1 : kp S N k < j) (h2 : j < kp S N (k + 1)) : S j = false := by
  cases hj : S j with
  | false => rfl
  | true =>
    have h3 := fb_ct_mono S (show kp S N k + 1 ≤ j from h1)
    rw [fb_ct_succ, if_pos (kp_spec h).2.1, (kp_spec h).2.2] at h3
    have h4 := fb_ct_mono S (show j + 1 ≤ kp S N (k + 1) from h2)
    rw [fb_ct_succ, if_pos hj, kp_ct S N (k + 1) (by omega)] at h4
    omega
theorem ct_gap {Q : Nat → Bool} {a b : Nat} (h : a ≤ b) (hq : ∀ j, a ≤ j → j < b → Q j = false) : fb_ct Q b = fb_ct Q a := by
  obtain ⟨n, rfl⟩ := Nat.exists_eq_add_of_le h
  rw [fb_ct_split]
  have := (fb_ct_zero (p := fun k => Q (a + k)) (n := n)).mpr (fun k hk => hq (a + k) (by omega) (by omega))
  omega
/-- a count over places that are opens, from one open to the next -/
theorem ct_node {S Q : Nat → Bool} {N k : Nat} (h : k < fb_ct S N) (hQ : ∀ j, Q j = true → S j = true) : fb_ct Q (kp S N (k + 1)) = fb_ct Q (kp S N k) + (if Q (kp S N k) then 1 else 0) := by
  rw [← fb_ct_succ]
  refine ct_gap (kp_lt (by omega) (by omega)) (fun j h1 h2 => ?_)
  have h3 := kp_gap h h1 h2
  cases hj : Q j with
  | false => rfl
  | true => rw [hQ j hj] at h3; cases h3
/-- the partner of an open -/
noncomputable def sh (B : Nat → Bool) (N q : Nat) : Nat := Classical.epsilon (fun p => q < p ∧ p < N ∧ ex B (p + 1) = ex B q ∧ ∀ k, q < k → k ≤ p → ex B q < ex B k)
theorem sh_ex {B : Nat → Bool} {N q : Nat} (hT : Tr B N) (hq : q < N) (hB : B q = true) : ∃ p, q < p ∧ p < N ∧ ex B (p + 1) = ex B q ∧ ∀ k, q < k → k ≤ p → ex B q < ex B k := by
  have h1 := ex_t hB
  obtain ⟨k, k1, k2, k3, k4⟩ := ex_down (B := B) (a := q + 1) (b := N) (d := ex B q) (by omega) (by omega) (by rw [hT.2.1]; exact hT.nn (by omega))
  have k5 : k ≠ q + 1 := fun e => by rw [e] at k3; omega
  refine ⟨k - 1, by omega, by omega, by rw [show k - 1 + 1 = k by omega]; exact k3, fun j j1 j2 => k4 j (by omega) (by omega)⟩
theorem sh_spec {B : Nat → Bool} {N q : Nat} (hT : Tr B N) (hq : q < N) (hB : B q = true) : q < sh B N q ∧ sh B N q < N ∧ ex B (sh B N q + 1) = ex B q ∧ ∀ k, q < k → k ≤ sh B N q → ex B q < ex B k := by
  have h := sh_ex hT hq hB
  unfold sh
  exact Classical.epsilon_spec h
theorem sh_eq {B : Nat → Bool} {N q p : Nat} (h1 : q < p) (h2 : p < N) (h3 : ex B (p + 1) = ex B q) (h4 : ∀ k, q < k → k ≤ p → ex B q < ex B k) : sh B N q = p := by
  have h : ∃ p, q < p ∧ p < N ∧ ex B (p + 1) = ex B q ∧ ∀ k, q < k → k ≤ p → ex B q < ex B k := ⟨p, h1, h2, h3, h4⟩
  obtain ⟨a1, a2, a3, a4⟩ := Classical.epsilon_spec h
  unfold sh
  rcases Nat.lt_trichotomy (Classical.epsilon (fun p => q < p ∧ p < N ∧ ex B (p + 1) = ex B q ∧ ∀ k, q < k → k ≤ p → ex B q < ex B k)) p with z | z | z
  · have := h4 (Classical.epsilon (fun p => q < p ∧ p < N ∧ ex B (p + 1) = ex B q ∧ ∀ k, q < k → k ≤ p → ex B q < ex B k) + 1) (by omega) (by omega); omega
  · exact z
  · have := a4 (p + 1) (by omega) (by omega); omega
theorem sh_false {B : Nat → Bool} {N q : Nat} (hT : Tr B N) (hq : q < N) (hB : B q = true) : B (sh B N q) = false := by
  obtain ⟨h1, h2, h3, h4⟩ := sh_spec hT hq hB
  have h5 := h4 _ h1 (Nat.le_refl _)
  cases hb : B (sh B N q) with
  | false => rfl
  | true => have := ex_t hb; omega
theorem sh_two {B : Nat → Bool} {N q : Nat} (hT : Tr B N) (hq : q < N) (hB : B q = true) : sh B N q + 1 = q + 2 * (fb_ct B (sh B N q + 1) - fb_ct B q) ∧ fb_ct B q < fb_ct B (sh B N q + 1) := by
  obtain ⟨h1, h2, h3, h4⟩ := sh_spec hT hq hB
  have h5 := ex_par B (sh B N q + 1)
  have h6 := ex_par B q
  have h7 := fb_ct_mono B (show q + 1 ≤ sh B N q + 1 by omega)
  rw [fb_ct_succ, if_pos hB] at h7
  omega
/-- the open of node v, how many nodes are below it, it too -/
noncomputable def sz (B : Nat → Bool) (N v : Nat) : Nat := fb_ct B (sh B N (kp B N v) + 1) - v
theorem sz_eq {B : Nat → Bool} {N v : Nat} (hT : Tr B N) (hv : v < fb_ct B N) : sh B N (kp B N v) + 1 = kp B N v + 2 * sz B N v ∧ 0 < sz B N v ∧ v + sz B N v ≤ fb_ct B N ∧ fb_ct B (sh B N (kp B N v) + 1) = v + sz B N v := by
  obtain ⟨h1, h2, h3⟩ := kp_spec hv
  obtain ⟨h4, h5⟩ := sh_two hT h1 h2
  have h6 := fb_ct_mono B (show sh B N (kp B N v) + 1 ≤ N from (sh_spec hT h1 h2).2.1)
  rw [h3] at h4 h5
  unfold sz
  refine ⟨h4, by omega, by omega, by omega⟩
