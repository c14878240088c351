/-! keep, back: both sides -/
theorem RR.cong {u : U7} {st st' : Nat → Int32} (h : RR u st) (hc : ∀ k, k < 193 → st' k = st k) : RR u st' := by
  obtain ⟨N, e, hX, hM⟩ := h
  have h64 := hM.m64 hX.1
  have hN := hX.1.1
  refine ⟨N, e, hX, fun k hk => ?_, ?_, fun v hv => ?_⟩
  · rw [hc k (by omega)]; exact hM.1 k hk
  · rw [hc 192 (by omega)]; exact hM.2.1
  · rw [hc (128 + v) (by omega)]; exact hM.2.2 v hv
theorem x_become {l0 h0 : Int64} {p0 : Int32} {g0 lo0 hi0 w0 w : Nat → Int32} {low high : Int64} {N : Nat} {g lo hi : Nat → Int32} (hX : XT low high N g lo hi) {post : U7 → Prop} (h : ∀ g' lo' hi' w', XT low high N g' lo' hi' → (∀ i, i < 64 → w' i = w i) → post (low, high, nI N, g', lo', hi', w')) : wX4_become l0 h0 p0 g0 lo0 hi0 w0 low high (nI N) g lo hi w post := by
  have hN := hX.1.1
  have e0 : (0 : Int32).toNatClampNeg = 0 := rfl
  have e8 : (8 : Int32).toNatClampNeg = 8 := rfl
  have e64 : (64 : Int32).toNatClampNeg = 64 := rfl
  unfold wX4_become wX1_become
  rw [e0, e8, e64]
  have c8 : ¬ (0 : Int32) < 0 ∧ ¬ (0 : Int32) < 0 ∧ ¬ (8 : Int32) < 0 ∧ 0 + 8 ≤ 8 ∧ 0 + 8 ≤ 8 := ⟨by decide, by decide, by decide, by omega, by omega⟩
  refine ⟨c8, c8, c8, ⟨by decide, by decide, by decide, by omega, by omega⟩, h _ _ _ _ ⟨hX.1, hX.2.1, fun b hb => ?_⟩ (fun i hi => ?_)⟩
  · obtain ⟨m, M, k1, k2, k3, k4⟩ := hX.2.2 b hb
    have z : ∀ f f' : Nat → Int32, va_cpy f f' 0 0 8 b = f b := fun f f' => by
      rw [pk_cpy_in (by omega) (by omega)]; congr 1; omega
    exact ⟨m, M, (z _ _).trans k1, (z _ _).trans k2, (z _ _).trans k3, k4⟩
  · rw [pk_cpy_in (by omega) (by omega)]; congr 1; omega
theorem RR.bec {low high : Int64} {N : Nat} {g lo hi st w g' lo' hi' w' : Nat → Int32} (hX : XT low high N g lo hi) (hM : MT st (bb low high) N w) (h1 : XT low high N g' lo' hi') (h2 : ∀ i, i < 64 → w' i = w i) : RR (low, high, nI N, g', lo', hi', w') st := by
  have h64 := hM.m64 hX.1
  exact ⟨N, rfl, h1, hM.cong (fun _ _ => rfl) (fun i hi => (h2 i (by omega)).symm)⟩
theorem o_keep_y {low high : Int64} {N : Nat} {g lo hi st w : Nat → Int32} (hX : XT low high N g lo hi) (hM : MT st (bb low high) N w) {k : Nat} (hk : k < 2) {l0 h0 : Int64} {p0 : Int32} {g0 lo0 hi0 w0 kf ik : Nat → Int32} (hkk : kf k = ik k) {Q : (Int64 × Int64 × Int32 × (Nat → Int32) × (Nat → Int32) × (Nat → Int32) × (Nat → Int32) × (Nat → Int32)) → ((Nat → Int32) × (Nat → Int32)) → Prop} (hQ : ∀ a b c d e f w' st', RR (a, b, c, d, e, f, w') (fun i => st' (193 * k + 193 + i)) → (∀ j, j < 193 * k + 193 ∨ 193 * k + 386 ≤ j → st' j = st j) → Q (a, b, c, d, e, f, w', upd kf k (vp_nar .boolean 1)) (st', upd ik k (vp_nar .boolean 1))) : wX5_keep low high (nI N) g lo hi w l0 h0 p0 g0 lo0 hi0 w0 kf (nI k) (fun r1 u1 => wX6_keep st ik (nI k) (fun r2 u2 => r1 = r2 ∧ Q u1 u2)) := by
  have hRR : RR (low, high, nI N, g, lo, hi, w) st := ⟨N, rfl, hX, hM⟩
  have hin : vp_in (nI k) 2 := pk_in k 2 hk
  have key : ∀ (r : Int32) (g' lo' hi' w' : Nat → Int32), XT low high N g' lo' hi' → (∀ i, i < 64 → w' i = w i) → (ik k = 0 → r = 0) → (¬ ik k = 0 → r = 1) → wX6_keep st ik (nI k) (fun r2 u2 => r = r2 ∧ Q (low, high, nI N, g', lo', hi', w', upd kf k (vp_nar .boolean 1)) u2) := by
    intro r g' lo' hi' w' h1 h2 r0 r1
    unfold wX6_keep
    refine m_in_y (by rw [nI_toInt (by omega)]; show (0 : Int) ≤ _; omega) (by rw [nI_toInt (by omega)]; show _ ≤ (1 : Int); omega) (t1b ⟨hin, ?_⟩)
    rw [nI_clamp (by omega), show (193 : Int32) = nI 193 from rfl, pk_mul, nI_add]
    have fin : ∀ f : Nat → Int32, (∀ j, f j = if 193 * k + 193 ≤ j ∧ j < 193 * k + 193 + 193 then st (j - (193 * k + 193)) else st j) → Q (low, high, nI N, g', lo', hi', w', upd kf k (vp_nar .boolean 1)) (f, upd ik k (vp_nar .boolean 1)) := fun f hf => by
      refine hQ _ _ _ _ _ _ _ f ((RR.bec hX hM h1 h2).cong (fun j hj => ?_)) (fun j hj => ?_)
      · rw [hf _, if_pos (by omega), show 193 * k + 193 + j - (193 * k + 193) = j by omega]
      · rw [hf j, if_neg (by omega)]
    exact ⟨fun c => lp_keep (by omega) (by omega) (by omega) (fun f hf => ⟨hin, r0 c, fin f hf⟩), fun c => lp_keep (by omega) (by omega) (by omega) (fun f hf => ⟨hin, r1 c, fin f hf⟩)⟩
  unfold wX5_keep
  refine x_within (fun _ _ => t1b ⟨hin, ?_⟩) (fun z => by rw [nI_toInt (by omega), show (0 : Int32).toInt = 0 from rfl, show (1 : Int32).toInt = 1 from rfl] at z; omega)
  rw [nI_clamp (by omega), hkk]
  refine ⟨fun c => ⟨hin, x_become hX (fun g' lo' hi' w' h1 h2 => ⟨hin, ?_⟩)⟩, fun c => ⟨hin, x_become hX (fun g' lo' hi' w' h1 h2 => ⟨hin, ?_⟩)⟩⟩
  · exact key 0 g' lo' hi' w' h1 h2 (fun _ => rfl) (fun z => absurd c z)
  · exact key 1 g' lo' hi' w' h1 h2 (fun z => absurd z c) (fun _ => rfl)
theorem n01 {p : Int32} (h0 : ¬ p = 0) (h1 : ¬ p = 1) : ¬ ((0 : Int) ≤ p.toInt ∧ p.toInt ≤ 1) := by
  rintro ⟨a, b⟩
  rcases upto p 1 with ⟨j, j1, rfl⟩ | y
  · rcases (show j = 0 ∨ j = 1 by omega) with rfl | rfl
    · exact h0 rfl
    · exact h1 rfl
  · omega
theorem o_keep_n {low high l0 h0 : Int64} {p1 p0 p : Int32} {g lo hi w g0 lo0 hi0 w0 kf ik st : Nat → Int32} (hp0 : ¬ p = 0) (hp1 : ¬ p = 1) {Q : (Int64 × Int64 × Int32 × (Nat → Int32) × (Nat → Int32) × (Nat → Int32) × (Nat → Int32) × (Nat → Int32)) → ((Nat → Int32) × (Nat → Int32)) → Prop} (hQ : Q (l0, h0, p0, g0, lo0, hi0, w0, kf) (st, ik)) : wX5_keep low high p1 g lo hi w l0 h0 p0 g0 lo0 hi0 w0 kf p (fun r1 u1 => wX6_keep st ik p (fun r2 u2 => r1 = r2 ∧ Q u1 u2)) := by
  have hn := n01 hp0 hp1
  unfold wX5_keep
  refine x_within (fun z1 z2 => absurd ⟨z1, z2⟩ hn) (fun _ => t0b ?_)
  unfold wX6_keep
  exact m_in_n (show ¬ (Int64.toInt 0 ≤ p.toInt ∧ p.toInt ≤ Int64.toInt 1) from hn) (t0b ⟨rfl, hQ⟩)
theorem o_back_y {low high : Int64} {N : Nat} {g lo hi st w : Nat → Int32} (hX : XT low high N g lo hi) (hM : MT st (bb low high) N w) {k : Nat} (hk : k < 2) {l0 h0 : Int64} {p0 : Int32} {g0 lo0 hi0 w0 kf ik : Nat → Int32} (hkk : kf k = ik k) (hI : ¬ kf k = 0 → RR (l0, h0, p0, g0, lo0, hi0, w0) (fun i => st (193 * k + 193 + i))) {Q : U7 → (Nat → Int32) → Prop} (hQ : ∀ u st', RR u st' → (∀ k, 193 ≤ k → st' k = st k) → Q u st') : wX5_back low high (nI N) g lo hi w l0 h0 p0 g0 lo0 hi0 w0 kf (nI k) (fun r1 u1 => wX6_back st ik (nI k) (fun r2 u2 => r1 = r2 ∧ Q u1 u2)) := by
  have hQ0 : Q (low, high, nI N, g, lo, hi, w) st := hQ _ st ⟨N, rfl, hX, hM⟩ (fun _ _ => rfl)
  have hin : vp_in (nI k) 2 := pk_in k 2 hk
  unfold wX5_back
  refine x_within (fun _ _ => t1b ⟨hin, ?_⟩) (fun z => by rw [nI_toInt (by omega), show (0 : Int32).toInt = 0 from rfl, show (1 : Int32).toInt = 1 from rfl] at z; omega)
  rw [nI_clamp (by omega)]
  refine ⟨fun c => ⟨hin, ?_⟩, fun c => ?_⟩
  · obtain ⟨N1, e1, hX1, hM1⟩ := hI c
    have e1 : p0 = nI N1 := e1
    subst e1
    refine x_become hX1 (fun g' lo' hi' w' h1 h2 => x_nodes h1 ?_)
    unfold wX6_back
    refine m_in_y (by rw [nI_toInt (by omega)]; show (0 : Int) ≤ _; omega) (by rw [nI_toInt (by omega)]; show _ ≤ (1 : Int); omega) (t1b ⟨hin, ?_⟩)
    rw [nI_clamp (by omega), show (193 : Int32) = nI 193 from rfl, pk_mul, nI_add]
    refine ⟨fun _ => lp_back (by omega) (by omega) (by omega) (fun f hf => m_many (M := fb_ct (bb l0 h0) N1) ?_ ⟨rfl, hQ _ f ?_ (fun j hj => ?_)⟩), fun z => absurd (hkk.trans z) c⟩
    · rw [hf 192, if_pos (by omega)]; exact hM1.2.1
    · refine (RR.bec hX1 hM1 h1 h2).cong (fun j hj => ?_)
      rw [hf j, if_pos hj]
    · rw [hf j, if_neg (by omega)]
  · unfold wX6_back
    refine m_in_y (by rw [nI_toInt (by omega)]; show (0 : Int) ≤ _; omega) (by rw [nI_toInt (by omega)]; show _ ≤ (1 : Int); omega) (t1b ⟨hin, ?_⟩)
    rw [nI_clamp (by omega)]
    exact ⟨fun z => absurd (hkk.symm.trans c) z, fun _ => ⟨rfl, hQ0⟩⟩
theorem o_back_n {low high l0 h0 : Int64} {p1 p0 p : Int32} {g lo hi w g0 lo0 hi0 w0 kf ik st : Nat → Int32} (hp0 : ¬ p = 0) (hp1 : ¬ p = 1) {Q : U7 → (Nat → Int32) → Prop} (hQ : Q (low, high, p1, g, lo, hi, w) st) : wX5_back low high p1 g lo hi w l0 h0 p0 g0 lo0 hi0 w0 kf p (fun r1 u1 => wX6_back st ik p (fun r2 u2 => r1 = r2 ∧ Q u1 u2)) := by
  have hn := n01 hp0 hp1
  unfold wX5_back
  refine x_within (fun z1 z2 => absurd ⟨z1, z2⟩ hn) (fun _ => t0b ?_)
  unfold wX6_back
  exact m_in_n (show ¬ (Int64.toInt 0 ≤ p.toInt ∧ p.toInt ≤ Int64.toInt 1) from hn) (t0b ⟨rfl, hQ⟩)
