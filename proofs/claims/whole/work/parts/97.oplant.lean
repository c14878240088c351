/-! plant, wrap: both sides -/
theorem o_plant {low high : Int64} {N : Nat} {g lo hi st w : Nat → Int32} (hX : XT low high N g lo hi) (hM : MT st (bb low high) N w) {x : Int32} {Q : U7 → (Nat → Int32) → Prop} (hQ : ∀ u st', RR u st' → (∀ k, 193 ≤ k → st' k = st k) → Q u st') : wX5_plant low high (nI N) g lo hi w x (fun r1 u1 => wX6_plant st x (fun r2 u2 => r1 = r2 ∧ Q u1 u2)) := by
  have hN := hX.1.1
  have h64 := hM.m64 hX.1
  have hNc := hX.1.two
  have hQ0 : Q (low, high, nI N, g, lo, hi, w) st := hQ _ st ⟨N, rfl, hX, hM⟩ (fun _ _ => rfl)
  unfold wX5_plant
  refine ⟨fun cx => x_nodes hX (pk_le (fb_ct (bb low high) N) 0 (fun c => ?_) (fun c => ?_)), fun cx => ?_⟩
  · have hN0 : N = 0 := by omega
    have hC0 : fb_ct (bb low high) N = 0 := by omega
    have e0 : (0 : Int32) = nI 0 := rfl
    rw [e0]
    refine x_addLeafAt hX (by omega) (by omega) (by omega) (fun low' high' g' lo' hi' w' h1 h2 h3 => ?_)
    unfold wX6_plant
    refine ⟨fun _ => m_many hM.2.1 (pk_le (fb_ct (bb low high) N) 0 (fun _ => ⟨pk_in 0 579 (by omega), pk_in 1 579 (by omega), pk_in 128 579 (by omega), pk_in 192 579 (by omega), rfl, ?_⟩) (fun z => by omega)), fun z => absurd cx z⟩
    rw [show (0 : Int32).toNatClampNeg = 0 from rfl, show (1 : Int32).toNatClampNeg = 1 from rfl, show (128 : Int32).toNatClampNeg = 128 from rfl, show (192 : Int32).toNatClampNeg = 192 from rfl]
    have b0 : bb low' high' 0 = true := by rw [h1 0]; exact WR_o
    have b1 : bb low' high' 1 = false := by rw [h1 1]; exact WR_s (Nat.le_refl _)
    have ct2 : fb_ct (bb low' high') 2 = 1 := by
      rw [fb_ct_succ, fb_ct_succ, b0, b1]; rfl
    refine hQ _ _ ⟨2, by rw [hN0], ⟨⟨by omega, ?_, fun p p1 p2 => ?_⟩, fun k hk => ?_, ?_⟩, ⟨fun k hk => ?_, ?_, fun i hi => ?_⟩⟩ (fun k hk => ?_)
    · show ex (bb low' high') 2 = 0
      unfold ex; rw [ct2]; rfl
    · show 0 < ex (bb low' high') p
      rw [show p = 0 + 1 by omega, ex_t b0, ex_0]; decide
    · show bb low' high' k = false
      rw [h1 k]
      obtain ⟨j, rfl⟩ : ∃ j, k = j + 2 := ⟨k - 2, by omega⟩
      rw [WR_hi (Nat.le_refl _) (by omega), hX.2.1 j (by omega)]
    · rw [hN0] at h2; exact h2
    · show _ = if bb low' high' k then (1 : Int32) else 0
      rw [pk_un (by omega), pk_un (by omega)]
      have hk2 : k = 0 ∨ k = 1 := by omega
      rcases hk2 with rfl | rfl
      · rw [pk_un (by omega), pk_us, b0]; rfl
      · rw [pk_us, b1]; rfl
    · rw [pk_us]
      show (1 : Int32) = nI (fb_ct (bb low' high') 2)
      rw [ct2]; rfl
    · have hi : i < fb_ct (bb low' high') 2 := hi
      rw [ct2] at hi
      have hi0 : i = 0 := by omega
      subst hi0
      show _ = w' 0
      rw [pk_un (by omega), pk_us, h3 0 (by omega)]
      unfold WW
      rw [show fb_ct (bb low high) 0 = 0 from rfl, if_neg (by omega), if_pos rfl]
    · rw [pk_un (by omega), pk_un (by omega), pk_un (by omega), pk_un (by omega)]
  · unfold wX6_plant
    exact ⟨fun _ => m_many hM.2.1 (pk_le (fb_ct (bb low high) N) 0 (fun z => by omega) (fun _ => ⟨rfl, hQ0⟩)), fun z => absurd cx z⟩
  · unfold wX6_plant
    exact ⟨fun z => absurd z cx, fun _ => ⟨rfl, hQ0⟩⟩
theorem lg_gt (A C : Int64) : (0 < lg_cmp A C) ↔ C.toInt < A.toInt := by
  unfold lg_cmp
  simp only [gt_iff_lt, Int64.lt_iff_toInt_lt, ← Int64.toInt_inj]
  by_cases c : C.toInt < A.toInt
  · rw [if_pos c]; exact ⟨fun _ => c, fun _ => by decide⟩
  · rw [if_neg c]
    by_cases c2 : A.toInt = C.toInt
    · rw [if_pos c2]; exact ⟨fun z => absurd z (by decide), fun z => by omega⟩
    · rw [if_neg c2]; exact ⟨fun z => absurd z (by decide), fun z => by omega⟩
