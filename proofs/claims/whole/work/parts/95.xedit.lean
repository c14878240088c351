/-! the class's edits -/
theorem Tr.cong {B C : Nat → Bool} {N : Nat} (h : Tr B N) (hc : ∀ k, k < N → B k = C k) : Tr C N := by
  refine ⟨h.1, ?_, fun p p1 p2 => ?_⟩
  · rw [← ex_cong (B := B) (C := C) hc]; exact h.2.1
  · rw [← ex_cong (B := B) (C := C) (fun k hk => hc k (by omega))]; exact h.2.2 p p1 p2
theorem MT.cong {st w w' : Nat → Int32} {B C : Nat → Bool} {N : Nat} (h : MT st B N w) (hc : ∀ k, k < N → B k = C k) (hw : ∀ i, i < fb_ct B N → w i = w' i) : MT st C N w' := by
  have e : fb_ct B N = fb_ct C N := fb_ct_cong hc
  refine ⟨fun k hk => ?_, ?_, fun v hv => ?_⟩
  · rw [← hc k hk]; exact h.1 k hk
  · rw [← e]; exact h.2.1
  · rw [h.2.2 v (by omega), hw v (by omega)]
theorem lb_1 : ∀ k, k < 64 → lb 1 k = decide (k = 0) := by decide +kernel
theorem bb_10 (k : Nat) : bb 1 0 k = decide (k = 0) := by
  rcases Nat.lt_or_ge k 64 with z | z
  · rw [bb_lo z, lb_1 k z]
  · rw [bb_hi z, lb_0, decide_eq_false (show ¬ k = 0 by omega)]
theorem bb_00 (k : Nat) : bb 0 0 k = false := by
  rcases Nat.lt_or_ge k 64 with z | z
  · rw [bb_lo z, lb_0]
  · rw [bb_hi z, lb_0]
theorem x_openWeights {low high : Int64} {N : Nat} {g lo hi : Nat → Int32} (hX : XT low high N g lo hi) {w : Nat → Int32} {v n : Nat} (hv : v ≤ fb_ct (bb low high) N) (hn : fb_ct (bb low high) N + n ≤ 64) {post : (Nat → Int32) → Prop} (h : ∀ w' : Nat → Int32, (∀ i, i < v → w' i = w i) → (∀ i, v ≤ i → i < fb_ct (bb low high) N → w' (i + n) = w i) → post w') : wX4_openWeights (nI N) w (nI v) (nI n) post := by
  unfold wX4_openWeights
  refine x_nodes hX ?_
  rw [nI_add, pk_sub hv, nI_clamp (by omega), nI_clamp (by omega), nI_clamp (by omega)]
  refine ⟨⟨nI_pos (by omega), nI_pos (by omega), nI_pos (by omega), by omega, by omega⟩, h _ (fun i hi => pk_cpy_out (by omega)) (fun i i1 i2 => ?_)⟩
  rw [pk_cpy_in (by omega) (by omega)]
  congr 1; omega
theorem x_closeWeights {low high : Int64} {N : Nat} {g lo hi : Nat → Int32} (hX : XT low high N g lo hi) {w : Nat → Int32} {v n : Nat} (hv : v + n ≤ fb_ct (bb low high) N) (hn : fb_ct (bb low high) N ≤ 64) {post : (Nat → Int32) → Prop} (h : ∀ w' : Nat → Int32, (∀ i, i < v → w' i = w i) → (∀ i, v ≤ i → i + n < fb_ct (bb low high) N → w' i = w (i + n)) → post w') : wX4_closeWeights (nI N) w (nI v) (nI n) post := by
  unfold wX4_closeWeights
  refine x_nodes hX ?_
  rw [nI_add, pk_sub (show v ≤ fb_ct (bb low high) N by omega), pk_sub (show n ≤ fb_ct (bb low high) N - v by omega), nI_clamp (by omega), nI_clamp (by omega), nI_clamp (by omega)]
  refine ⟨⟨nI_pos (by omega), nI_pos (by omega), nI_pos (by omega), by omega, by omega⟩, h _ (fun i hi => pk_cpy_out (by omega)) (fun i i1 i2 => ?_)⟩
  rw [pk_cpy_in (by omega) (by omega)]
  congr 1; omega
def WW (w : Nat → Int32) (v : Nat) (x : Int32) (i : Nat) : Int32 := if i < v then w i else if i = v then x else w (i - 1)
theorem x_addLeafAt {low high : Int64} {N : Nat} {g lo hi : Nat → Int32} (hX : XT low high N g lo hi) {w : Nat → Int32} {p : Nat} {x : Int32} (hp : p ≤ N) (hN2 : N + 2 ≤ 128) (hC : fb_ct (bb low high) N < 64) {post : Int32 → (Int64 × Int64 × Int32 × (Nat → Int32) × (Nat → Int32) × (Nat → Int32) × (Nat → Int32)) → Prop} (h : ∀ low' high' g' lo' hi' w', (∀ k, bb low' high' k = WR (bb low high) p p k) → SM (bb low' high') (N + 2) g' lo' hi' → (∀ i, i < fb_ct (bb low high) N + 1 → w' i = WW w (fb_ct (bb low high) p) x i) → post (nI (fb_ct (bb low high) p)) (low', high', nI (N + 2), g', lo', hi', w')) : wX4_addLeafAt low high (nI N) g lo hi w (nI p) x post := by
  have hm := fb_ct_mono (bb low high) hp
  unfold wX4_addLeafAt
  refine x_opensAhead (by omega) ?_
  refine x_openWeights (n := 1) hX hm (by omega) (fun u hu1 hu2 => ⟨pk_in (fb_ct (bb low high) p) 64 (by omega), ?_⟩)
  rw [nI_clamp (by omega)]
  refine x_insert (n := 2) hX.2.2 hN2 hp (fun k hk => by rw [bb_10, decide_eq_false (show ¬ k = 0 by omega)]) (fun low' high' g' lo' hi' h1 h2 => ?_)
  refine h low' high' g' lo' hi' _ (fun k => ?_) h2 (fun i hi => ?_)
  · rcases Nat.lt_or_ge k 128 with z | z
    · rw [h1 k z]
      unfold WR
      by_cases c1 : k < p
      · rw [if_pos c1, if_pos c1]
      · rw [if_neg c1, if_neg c1]
        by_cases c2 : k = p
        · rw [if_pos c2, if_pos (by omega), bb_10, decide_eq_true (show k - p = 0 by omega)]
        · rw [if_neg c2, if_neg (show ¬ k ≤ p by omega)]
          by_cases c3 : k = p + 1
          · rw [if_pos c3, if_pos (by omega), bb_10, decide_eq_false (show ¬ k - p = 0 by omega)]
          · rw [if_neg c3, if_neg (by omega)]
    · rw [bb_big z]
      obtain ⟨j, rfl⟩ : ∃ j, k = j + 2 := ⟨k - 2, by omega⟩
      rw [WR_hi (Nat.le_refl _) (by omega), hX.2.1 j (by omega)]
  · unfold WW
    by_cases c1 : i < fb_ct (bb low high) p
    · rw [if_pos c1, pk_un (by omega), hu1 i c1]
    · rw [if_neg c1]
      by_cases c2 : i = fb_ct (bb low high) p
      · rw [if_pos c2, c2, pk_us]
      · rw [if_neg c2, pk_un c2]
        obtain ⟨j, rfl⟩ : ∃ j, i = j + 1 := ⟨i - 1, by omega⟩
        rw [hu2 j (by omega) (by omega), show j + 1 - 1 = j by omega]
theorem x_addAbout {low high : Int64} {N : Nat} {g lo hi : Nat → Int32} (hX : XT low high N g lo hi) {w : Nat → Int32} {p q : Nat} {x : Int32} (hpq : p ≤ q) (hq : q ≤ N) (hN2 : N + 2 ≤ 128) (hC : fb_ct (bb low high) N < 64) {post : Int32 → (Int64 × Int64 × Int32 × (Nat → Int32) × (Nat → Int32) × (Nat → Int32) × (Nat → Int32)) → Prop} (h : ∀ low' high' g' lo' hi' w', (∀ k, bb low' high' k = WR (bb low high) p q k) → SM (bb low' high') (N + 2) g' lo' hi' → (∀ i, i < fb_ct (bb low high) N + 1 → w' i = WW w (fb_ct (bb low high) p) x i) → post (nI (fb_ct (bb low high) p)) (low', high', nI (N + 2), g', lo', hi', w')) : wX4_addAbout low high (nI N) g lo hi w (nI p) (nI q) x post := by
  have hm := fb_ct_mono (bb low high) (show p ≤ N by omega)
  unfold wX4_addAbout
  refine x_opensAhead (by omega) ?_
  refine x_openWeights (n := 1) hX hm (by omega) (fun u hu1 hu2 => ⟨pk_in (fb_ct (bb low high) p) 64 (by omega), ?_⟩)
  rw [nI_clamp (by omega)]
  refine x_insert (n := 1) hX.2.2 (by omega) hq (fun k hk => bb_00 k) (fun l1 r1 g1 lo1 hi1 h1 h2 => ?_)
  refine x_insert (n := 1) h2 (by omega) (by omega) (fun k hk => by rw [bb_10, decide_eq_false (show ¬ k = 0 by omega)]) (fun low' high' g' lo' hi' h3 h4 => ?_)
  refine h low' high' g' lo' hi' _ (fun k => ?_) h4 (fun i hi => ?_)
  · rcases Nat.lt_or_ge k 128 with z | z
    · rw [h3 k z]
      unfold WR
      by_cases c1 : k < p
      · rw [if_pos c1, if_pos c1, h1 k z, if_pos (by omega)]
      · rw [if_neg c1, if_neg c1]
        by_cases c2 : k = p
        · rw [if_pos c2, if_pos (by omega), bb_10, decide_eq_true (show k - p = 0 by omega)]
        · rw [if_neg c2, if_neg (by omega), h1 (k - 1) (by omega)]
          by_cases c3 : k ≤ q
          · rw [if_pos c3, if_pos (by omega)]
          · rw [if_neg c3, if_neg (by omega)]
            by_cases c4 : k = q + 1
            · rw [if_pos c4, if_pos (by omega), bb_00]
            · rw [if_neg c4, if_neg (by omega), show k - 1 - 1 = k - 2 by omega]
    · rw [bb_big z]
      obtain ⟨j, rfl⟩ : ∃ j, k = j + 2 := ⟨k - 2, by omega⟩
      rw [WR_hi hpq (by omega), hX.2.1 j (by omega)]
  · unfold WW
    by_cases c1 : i < fb_ct (bb low high) p
    · rw [if_pos c1, pk_un (by omega), hu1 i c1]
    · rw [if_neg c1]
      by_cases c2 : i = fb_ct (bb low high) p
      · rw [if_pos c2, c2, pk_us]
      · rw [if_neg c2, pk_un c2]
        obtain ⟨j, rfl⟩ : ∃ j, i = j + 1 := ⟨i - 1, by omega⟩
        rw [hu2 j (by omega) (by omega), show j + 1 - 1 = j by omega]
