/-! the reference's rounds of a felling -/
/-- what is left behind j rounds: B' of N' places, weights w' -/
def FL (B : Nat → Bool) (N : Nat) (w : Nat → Int32) (v n j : Nat) (B' : Nat → Bool) (N' : Nat) (w' : Nat → Int32) : Prop := N' + 2 * j = N ∧ Tr B' N' ∧ fb_ct B' N' + j = fb_ct B N ∧ (∀ k, k < kp B N v → B' k = B k) ∧ (∀ k, kp B N v + 2 * (n - j) ≤ k → B' k = B (k + 2 * j)) ∧ (j < n → v < fb_ct B' N' ∧ kp B' N' v = kp B N v ∧ sz B' N' v = n - j) ∧ (∀ i, i < v + (n - j) → w' i = w i) ∧ (∀ i, v + (n - j) ≤ i → w' i = w (i + j))
theorem FL_0 {B : Nat → Bool} {N v : Nat} {w : Nat → Int32} (hT : Tr B N) (hv : v < fb_ct B N) : FL B N w v (sz B N v) 0 B N w := ⟨rfl, hT, rfl, fun _ _ => rfl, fun _ _ => rfl, fun _ => ⟨hv, rfl, rfl⟩, fun _ _ => rfl, fun _ _ => rfl⟩
theorem FL_s {B B' : Nat → Bool} {N N' v n j : Nat} {w w' : Nat → Int32} (h : FL B N w v n j B' N' w') (hj : j < n) : v + (n - j - 1) < fb_ct B' N' ∧ FL B N w v n (j + 1) (RM B' (kp B' N' (v + (n - j - 1))) (sh B' N' (kp B' N' (v + (n - j - 1))))) (N' - 2) (fun i => if i < v + (n - j - 1) then w' i else w' (i + 1)) := by
  obtain ⟨a1, hT, a2, a3, a4, a5, a6, a7⟩ := h
  obtain ⟨hv, b1, b2⟩ := a5 hj
  obtain ⟨o1, o2, o3⟩ := kp_spec hv
  obtain ⟨z1, z2, z3, z4⟩ := sz_eq hT hv
  have hs := sh_spec hT o1 o2
  have hu : v + (n - j - 1) < fb_ct B' N' := by omega
  refine ⟨hu, ?_⟩
  obtain ⟨u, eu⟩ : ∃ u, u = v + (n - j - 1) := ⟨_, rfl⟩
  rw [← eu] at hu ⊢
  obtain ⟨p1, p2, p3⟩ := kp_spec hu
  obtain ⟨y1, y2, y3, y4⟩ := sz_eq hT hu
  have hsu := sh_spec hT p1 p2
  have hfu := sh_false hT p1 p2
  obtain ⟨c1, c2⟩ := (IN_iff hT hv hu).mp ⟨by omega, by omega⟩
  have hin : sh B' N' (kp B' N' u) ≤ sh B' N' (kp B' N' v) := by
    refine AN.in (k := (ex B' (kp B' N' u) - ex B' (kp B' N' v)).toNat) hT p1 p2 ⟨c1, ?_, fun k k1 k2 => hs.2.2.2 k k1 (by omega)⟩
    have : ex B' (kp B' N' v) ≤ ex B' (kp B' N' u) := by
      rcases Nat.eq_or_lt_of_le c1 with e | e
      · rw [e]; exact Int.le_refl _
      · exact Int.le_of_lt (hs.2.2.2 _ e (by omega))
    omega
  have hone : sz B' N' u = 1 := by
    have := fb_ct_mono B' (show sh B' N' (kp B' N' u) + 1 ≤ sh B' N' (kp B' N' v) + 1 by omega)
    omega
  have es : sh B' N' (kp B' N' u) = kp B' N' u + 1 := by omega
  have cnt := RM_N hsu.1 p2 hfu hsu.2.1
  have hTr : Tr (RM B' (kp B' N' u) (sh B' N' (kp B' N' u))) (N' - 2) := by
    refine RM_Tr hT p1 p2 ?_
    rcases Nat.eq_zero_or_pos (kp B' N' u) with y | y
    · have hr := (sh_root hT p1 p2 (by rw [y, ex_0]; decide)).2
      exact Or.inr (Or.inl (by omega))
    · exact Or.inl y
  have hex := RM_ex hsu.1 p2 hfu
  refine ⟨by omega, hTr, by omega, fun k hk => ?_, fun k hk => ?_, fun hj2 => ?_, fun i hi => ?_, fun i hi => ?_⟩
  · rw [RM_lo (by omega)]; exact a3 k hk
  · rw [RM_hi (by omega) (by omega), a4 (k + 2) (by omega)]
    congr 1; omega
  · have hlt : kp B' N' v < kp B' N' u := kp_lt (by omega) (by omega)
    have hne : sh B' N' (kp B' N' u) ≠ sh B' N' (kp B' N' v) := fun e => by have := sh_inj hT p1 o1 p2 o2 e; omega
    have hq' : RM B' (kp B' N' u) (sh B' N' (kp B' N' u)) (kp B' N' v) = true := by rw [RM_lo hlt]; exact o2
    have hcq : fb_ct (RM B' (kp B' N' u) (sh B' N' (kp B' N' u))) (kp B' N' v) = v := by
      rw [(RM_ct hsu.1 p2 hfu (kp B' N' v)).1 (by omega), o3]
    have hk : kp (RM B' (kp B' N' u) (sh B' N' (kp B' N' u))) (N' - 2) v = kp B' N' v := kp_eq (by omega) hq' hcq
    have hvM : v < fb_ct (RM B' (kp B' N' u) (sh B' N' (kp B' N' u))) (N' - 2) := by omega
    refine ⟨hvM, by rw [hk, b1], ?_⟩
    have hsh : sh (RM B' (kp B' N' u) (sh B' N' (kp B' N' u))) (N' - 2) (kp B' N' v) = sh B' N' (kp B' N' v) - 2 := by
      refine sh_eq (by omega) (by omega) ?_ (fun k k1 k2 => ?_)
      · rw [hex, hex, if_neg (by omega), if_neg (by omega), if_pos (by omega), show sh B' N' (kp B' N' v) - 2 + 1 + 2 = sh B' N' (kp B' N' v) + 1 by omega]
        exact hs.2.2.1
      · rw [hex, hex, if_pos (by omega)]
        by_cases c : k ≤ kp B' N' u
        · rw [if_pos c]; exact hs.2.2.2 k k1 (by omega)
        · rw [if_neg c, if_neg (by omega)]; exact hs.2.2.2 (k + 2) (by omega) (by omega)
    have := (sz_eq hTr hvM).1
    rw [hk, hsh] at this
    omega
  · show (if i < u then w' i else w' (i + 1)) = w i
    rw [if_pos (by omega)]; exact a6 i (by omega)
  · show (if i < u then w' i else w' (i + 1)) = w (i + (j + 1))
    rw [if_neg (by omega), a7 (i + 1) (by omega)]
    congr 1; omega
