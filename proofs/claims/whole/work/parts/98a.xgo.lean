/-! a node goes: the class -/
theorem x_removeAlone {low high : Int64} {N : Nat} {g lo hi : Nat → Int32} (hX : XT low high N g lo hi) {w : Nat → Int32} {v : Nat} (hv : v < fb_ct (bb low high) N) (hC : fb_ct (bb low high) N ≤ 64) {post : (Int64 × Int64 × Int32 × (Nat → Int32) × (Nat → Int32) × (Nat → Int32) × (Nat → Int32)) → Prop} (h : ∀ low' high' g' lo' hi' w', (∀ k, bb low' high' k = RM (bb low high) (kp (bb low high) N v) (sh (bb low high) N (kp (bb low high) N v)) k) → SM (bb low' high') (N - 2) g' lo' hi' → (∀ i, i + 1 < fb_ct (bb low high) N → w' i = if i < v then w i else w (i + 1)) → post (low', high', nI (N - 2), g', lo', hi', w')) : wX4_removeAlone low high (nI N) g lo hi w (nI v) post := by
  have hN := hX.1.1
  obtain ⟨o1, o2, o3⟩ := kp_spec hv
  have hs := sh_spec hX.1 o1 o2
  unfold wX4_removeAlone
  refine x_openOf hX hv (x_closeOf' hX.2.2 hX.1 o1 o2 ?_)
  refine x_closeWeights (n := 1) hX (by omega) hC (fun u hu1 hu2 => ?_)
  refine x_remove (n := 1) hX.2.2 hN (by omega) (fun l1 r1 g1 lo1 hi1 h1 h2 => ?_)
  refine x_remove (n := 1) h2 (by omega) (by omega) (fun low' high' g' lo' hi' h3 h4 => ?_)
  refine h low' high' g' lo' hi' u (fun k => ?_) h4 (fun i hi => ?_)
  · rcases Nat.lt_or_ge k 128 with z | z
    · rw [h3 k z]
      unfold RM
      by_cases c1 : k < kp (bb low high) N v
      · rw [if_pos c1, if_pos c1, h1 k z, if_pos (by omega)]
      · rw [if_neg c1, if_neg c1]
        rcases Nat.lt_or_ge (k + 1) 128 with y | y
        · rw [h1 (k + 1) y]
        · rw [bb_big y, if_neg (by omega), bb_big (by omega)]
    · rw [bb_big z]
      unfold RM
      rw [if_neg (by omega), if_neg (by omega), bb_big (by omega)]
  · by_cases c1 : i < v
    · rw [if_pos c1, hu1 i c1]
    · rw [if_neg c1, hu2 i (by omega) (by omega)]
theorem RM_Tr {B : Nat → Bool} {N q : Nat} (hT : Tr B N) (hq : q < N) (hB : B q = true) (h : 0 < q ∨ N = 2 ∨ cn B N 0 = 1) : Tr (RM B q (sh B N q)) (N - 2) := by
  have hN := hT.1
  have hs := sh_spec hT hq hB
  have hf := sh_false hT hq hB
  have hex := RM_ex hs.1 hB hf
  refine ⟨by omega, ?_, fun p p1 p2 => ?_⟩
  · rw [hex]
    by_cases c1 : N - 2 ≤ q
    · rw [if_pos c1]
      have e1 : sh B N q = q + 1 := by omega
      have e2 : sh B N q + 1 = N := by omega
      have := hs.2.2.1
      rw [e2, hT.2.1] at this
      rw [show N - 2 = q by omega]; exact this.symm
    · rw [if_neg c1]
      by_cases c2 : N - 2 + 1 ≤ sh B N q
      · rw [if_pos c2, show N - 2 + 1 = sh B N q by omega, ex_close hT hq hB]
        have := hs.2.2.1
        rw [show sh B N q + 1 = N by omega, hT.2.1] at this
        omega
      · rw [if_neg c2, show N - 2 + 2 = N by omega]; exact hT.2.1
  · rw [hex]
    by_cases c1 : p ≤ q
    · rw [if_pos c1]; exact hT.2.2 p p1 (by omega)
    · rw [if_neg c1]
      by_cases c2 : p + 1 ≤ sh B N q
      · rw [if_pos c2]
        have g1 := hs.2.2.2 (p + 1) (by omega) (by omega)
        rcases Nat.eq_zero_or_pos q with y | y
        · subst y
          rcases h with z | z | z
          · omega
          · omega
          · have b1 : B 1 = true := (cn_0 hT hq hB).mpr (by omega)
            have e1 := eg_sh hT hq hB (show 0 < cn B N 0 by omega)
            rw [eg_0 hT hq hB, eg_end (i := 0 + 1) (by omega)] at e1
            have e1 : sh B N 1 + 1 = sh B N 0 := e1
            have g2 := sh_spec hT (show 1 < N by omega) b1
            have x1 : ex B 1 = 1 := by rw [show 1 = 0 + 1 by rfl, ex_t hB, ex_0]; rfl
            have hr := (sh_root hT hq hB (by rw [ex_0]; decide)).2
            have := g2.2.2.2 (p + 1) (by omega) (by omega)
            omega
        · have := hT.2.2 q y hq; omega
      · rw [if_neg c2]; exact hT.2.2 (p + 2) (by omega) (by omega)
