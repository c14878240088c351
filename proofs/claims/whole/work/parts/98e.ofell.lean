/-! fell: both sides -/
theorem m_fellRounds {st w : Nat → Int32} {B : Nat → Bool} {N v : Nat} (hM : MT st B N w) (hT : Tr B N) (hv : v < fb_ct B N) {post : (Nat → Int32) → Prop} (h : ∀ st' B' w', FL B N w v (sz B N v) (sz B N v) B' (N - 2 * sz B N v) w' → MT st' B' (N - 2 * sz B N v) w' → (∀ k, 193 ≤ k → st' k = st k) → post st') : ∃ (I : Int32 → (Nat → Int32) → Prop) (mu : Int32 → (Nat → Int32) → Nat), I (nI (sz B N v) - 1) st ∧ ∀ (x : Int32) (f : Nat → Int32), I x f → ((x < 0 → post f) ∧ (¬ x < 0 → wX6_goesOut f (nI v + x) (fun u => ∀ y, y = x + (-1) → (I y u ∧ mu y u < mu x f)))) := by
  have hN := hT.1
  obtain ⟨z1, z2, z3, z4⟩ := sz_eq hT hv
  have hcN := fb_ct_le B N
  refine ⟨fun x f => ∃ (j : Nat) (B' : Nat → Bool) (N' : Nat) (w' : Nat → Int32), j ≤ sz B N v ∧ x = iI ((sz B N v : Int) - j - 1) ∧ FL B N w v (sz B N v) j B' N' w' ∧ MT f B' N' w' ∧ ∀ k, 193 ≤ k → f k = st k, fun x _ => (x.toInt + 1).toNat, ⟨0, B, N, w, Nat.zero_le _, by rw [nI_iI, iI_s1]; congr 1, FL_0 hT hv, hM, fun _ _ => rfl⟩, ?_⟩
  rintro x f ⟨j, B', N', w', j1, rfl, hF, hMf, hfr⟩
  refine q_lt ((sz B N v : Int) - j - 1) 0 (fun c => ?_) (fun c => ?_)
  · have e : j = sz B N v := by omega
    subst e
    have eN : N' = N - 2 * sz B N v := by have := hF.1; omega
    subst eN
    exact h f B' w' hF hMf hfr
  · obtain ⟨hu, hF'⟩ := FL_s hF (by omega)
    have e : nI v + iI ((sz B N v : Int) - j - 1) = nI (v + (sz B N v - j - 1)) := by
      rw [nI_iI, iI_add, nI_iI]; congr 1; omega
    rw [e]
    refine m_goesOut hMf hF.2.1 hu (fun st' h4 h5 => ?_)
    rintro _ rfl
    rw [iI_m1]
    refine ⟨⟨j + 1, _, _, _, by omega, by congr 1; omega, hF', h4, fun k hk => by rw [h5 k hk, hfr k hk]⟩, ?_⟩
    dsimp only
    rw [iI_toInt (by omega) (by omega), iI_toInt (by omega) (by omega)]; omega
theorem FL_RS {B B' : Nat → Bool} {N N' v n : Nat} {w w' : Nat → Int32} (h : FL B N w v n n B' N' w') (k : Nat) : B' k = RS B (kp B N v) n k := by
  obtain ⟨a1, hT, a2, a3, a4, a5, a6, a7⟩ := h
  unfold RS
  by_cases c : k < kp B N v
  · rw [if_pos c]; exact a3 k c
  · rw [if_neg c]; exact a4 k (by omega)
theorem o_fell {low high : Int64} {N : Nat} {g lo hi st w : Nat → Int32} (hX : XT low high N g lo hi) (hM : MT st (bb low high) N w) {p : Int32} {Q : U7 → (Nat → Int32) → Prop} (hQ : ∀ u st', RR u st' → (∀ k, 193 ≤ k → st' k = st k) → Q u st') : wX5_fell low high (nI N) g lo hi w p (fun r1 u1 => wX6_fell st p (fun r2 u2 => r1 = r2 ∧ Q u1 u2)) := by
  have hN := hX.1.1
  have h64 := hM.m64 hX.1
  have hNc := hX.1.two
  have hQ0 : Q (low, high, nI N, g, lo, hi, w) st := hQ _ st ⟨N, rfl, hX, hM⟩ (fun _ _ => rfl)
  unfold wX5_fell
  rcases node_or p (fb_ct (bb low high) N) with ⟨v, hv, rfl⟩ | c
  · obtain ⟨o1, o2, o3⟩ := kp_spec hv
    obtain ⟨z1, z2, z3, z4⟩ := sz_eq hX.1 hv
    refine x_has_y hX hv (t1b (x_nodesOf hX hv (x_removeSubtree hX hv h64 (fun low' high' g' lo' hi' w' h1 h2 h3 h3' => ?_))))
    unfold wX6_fell
    refine m_node1 hM.2.1 h64 hv (t1b (m_sizeOf hM.1 hX.1 hv ?_))
    rintro _ rfl
    refine m_fellRounds hM hX.1 hv (fun st' B' w2 hF hm hfr => ⟨rfl, hQ _ st' ?_ hfr⟩)
    have hbb : ∀ k, B' k = bb low' high' k := fun k => by rw [FL_RS hF k, h1 k]
    refine ⟨N - 2 * sz (bb low high) N v, rfl, ⟨hF.2.1.cong (fun k _ => hbb k), fun k hk => ?_, h2⟩, hm.cong (fun k _ => hbb k) (fun i hi => ?_)⟩
    · show bb low' high' k = false
      have hs := sh_spec hX.1 o1 o2
      rw [h1 k]
      unfold RS
      rw [if_neg (by omega), hX.2.1 _ (by omega)]
    · show w2 i = w' i
      obtain ⟨a1, hT, a2, a3, a4, a5, a6, a7⟩ := hF
      rcases Nat.lt_or_ge i v with y | y
      · rw [a6 i (by omega), h3 i y]
      · rw [a7 i (by omega), h3' i y (by omega)]
  · refine x_has_n hX c (t0b ?_)
    unfold wX6_fell
    exact m_node_n hM.2.1 h64 c (t0b ⟨rfl, hQ0⟩)
