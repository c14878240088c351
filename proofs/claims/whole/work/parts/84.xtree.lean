/-! the class's trees: questions about nodes -/
def XT (low high : Int64) (N : Nat) (g lo hi : Nat → Int32) : Prop := Tr (bb low high) N ∧ (∀ k, N ≤ k → bb low high k = false) ∧ SM (bb low high) N g lo hi
theorem half_2 {a : Nat} (h : a < 1073741824) : nI (2 * a) / 2 = nI a := by
  have h3 := pk_div (a := 2 * a) (d := 2) (by omega) (by omega) (by omega)
  rw [show 2 * a / 2 = a by omega] at h3
  exact h3
theorem x_nodes {low high : Int64} {N : Nat} {g lo hi : Nat → Int32} (hX : XT low high N g lo hi) {post : Int32 → Prop} (h : post (nI (fb_ct (bb low high) N))) : wX4_nodes (nI N) post := by
  unfold wX4_nodes
  have h1 := hX.1.two
  have h2 := hX.1.1
  rw [show nI N / 2 = nI (fb_ct (bb low high) N) from by rw [show nI N = nI (2 * fb_ct (bb low high) N) from by rw [← h1]]; exact half_2 (by omega)]
  exact h
theorem neg_iff (p : Int32) : p < 0 ↔ p.toInt < 0 := by rw [Int32.lt_iff_toInt_lt]; rfl
theorem x_has {low high : Int64} {N : Nat} {g lo hi : Nat → Int32} (hX : XT low high N g lo hi) {p : Int32} {post : Int32 → Prop} (h1 : ∀ v, v < fb_ct (bb low high) N → p = nI v → post 1) (h0 : (p.toInt < 0 ∨ (fb_ct (bb low high) N : Int) ≤ p.toInt) → post 0) : wX4_has (nI N) p post := by
  have hM : fb_ct (bb low high) N ≤ 128 := Nat.le_trans (fb_ct_le _ _) hX.1.1
  unfold wX4_has
  refine ⟨fun c => h0 (Or.inl ((neg_iff p).mp c)), fun c => ?_⟩
  obtain ⟨j, j1, rfl⟩ := nI_of c
  refine x_nodes hX ?_
  exact pk_le (fb_ct (bb low high) N) j (fun c2 => h0 (Or.inr (by rw [nI_toInt j1]; omega))) (fun c2 => h1 j c2 rfl)
theorem x_openOf {low high : Int64} {N : Nat} {g lo hi : Nat → Int32} (hX : XT low high N g lo hi) {v : Nat} (hv : v < fb_ct (bb low high) N) {post : Int32 → Prop} (h : post (nI (kp (bb low high) N v))) : wX4_openOf low high (nI N) (nI v) post := by
  unfold wX4_openOf
  exact x_openSign hX.1.1 hX.2.1 hv h
theorem x_closeOf {low high : Int64} {N : Nat} {g lo hi : Nat → Int32} (hX : XT low high N g lo hi) {v : Nat} (hv : v < fb_ct (bb low high) N) {post : Int32 → Prop} (h : post (nI (sh (bb low high) N (kp (bb low high) N v)))) : wX4_closeOf low high (nI N) g lo hi (nI v) post := by
  obtain ⟨o1, o2, o3⟩ := kp_spec hv
  unfold wX4_closeOf
  refine x_openOf hX hv ?_
  exact x_closeOf' hX.2.2 hX.1 o1 o2 h
theorem b1_ne {b : Bool} {A C : Prop} (h0 : b = false → A) (h1 : b = true → C) : (¬ (if b then (1 : Int32) else 0) = 1 → A) ∧ ((if b then (1 : Int32) else 0) = 1 → C) := by
  cases b with
  | true => exact ⟨fun z => absurd rfl z, fun _ => h1 rfl⟩
  | false => exact ⟨fun _ => h0 rfl, fun z => absurd z (by decide)⟩
theorem b0_ne {b : Bool} {A C : Prop} (h1 : b = true → A) (h0 : b = false → C) : (¬ (if b then (1 : Int32) else 0) = 0 → A) ∧ ((if b then (1 : Int32) else 0) = 0 → C) := by
  cases b with
  | true => exact ⟨fun _ => h1 rfl, fun z => absurd z (by decide)⟩
  | false => exact ⟨fun z => absurd rfl z, fun _ => h0 rfl⟩
theorem sh_inj {B : Nat → Bool} {N r s : Nat} (hT : Tr B N) (hr : r < N) (hs : s < N) (hBr : B r = true) (hBs : B s = true) (h : sh B N r = sh B N s) : r = s := by
  have h1 := sh_spec hT hr hBr
  have h2 := sh_spec hT hs hBs
  rcases Nat.lt_trichotomy r s with z | z | z
  · have := h1.2.2.2 s z (by omega)
    rw [h] at h1; omega
  · exact z
  · have := h2.2.2.2 r z (by omega)
    rw [h] at h1; omega
theorem x_nodeAtOpen {low high : Int64} {N : Nat} {g lo hi : Nat → Int32} (hX : XT low high N g lo hi) {p : Nat} (hp : p < N) (hB : bb low high p = true) {post : Int32 → Prop} (h : post (nI (fb_ct (bb low high) p))) : wX4_nodeWithPlace low high (nI N) g lo hi (nI p) post := by
  have hN := hX.1.1
  unfold wX4_nodeWithPlace
  refine x_bitAt (by omega) ?_
  refine b1_ne (fun z => by rw [z] at hB; cases hB) (fun _ => ?_)
  exact x_opensAhead (by omega) h
theorem x_nodeAtShut {low high : Int64} {N : Nat} {g lo hi : Nat → Int32} (hX : XT low high N g lo hi) {q : Nat} (hq : q < N) (hB : bb low high q = true) {post : Int32 → Prop} (h : post (nI (fb_ct (bb low high) q))) : wX4_nodeWithPlace low high (nI N) g lo hi (nI (sh (bb low high) N q)) post := by
  have hN := hX.1.1
  have hs := sh_spec hX.1 hq hB
  have hf := sh_false hX.1 hq hB
  unfold wX4_nodeWithPlace
  refine x_bitAt (by omega) ?_
  refine b1_ne (fun _ => ?_) (fun z => by rw [z] at hf; cases hf)
  refine x_partnerOf hX.2.2 hX.1 (by omega) (fun r hr => ?_)
  rcases hr with ⟨r1, r2⟩ | ⟨r1, r2, r3, r4⟩
  · rw [r1] at hf; cases hf
  · have e := sh_inj hX.1 r2 hq r3 hB r4
    rw [e]
    exact x_opensAhead (by omega) h
theorem eg_sh {B : Nat → Bool} {N q i : Nat} (hT : Tr B N) (hq : q < N) (hB : B q = true) (hi : i < cn B N q) : sh B N (eg B N q i) + 1 = eg B N q (i + 1) := by
  have hN := hT.1
  obtain ⟨a1, a2, a3, a4, a5⟩ := eg_lt hT hq hB hi
  have hsq := sh_spec hT hq hB
  obtain ⟨s1, s2, s3, s4⟩ := sh_spec hT (show eg B N q i < N by omega) a3
  have h1 := eg_next hT hq hB hi
  have h2 : IsF B N (eg B N q i) (ex B q + 1) (nI (sh B N (eg B N q i) + 1)) := Or.inl ⟨_, by omega, by omega, by omega, fun k k1 k2 => by have := s4 k k1 (by omega); omega, rfl⟩
  have h3 := h2.one h1
  have hle : eg B N q (i + 1) ≤ sh B N q := by
    rcases Nat.lt_or_ge (i + 1) (cn B N q) with z | z
    · have := (eg_lt hT hq hB z).2.1; omega
    · rw [eg_end z]; exact Nat.le_refl _
  exact (nI_eq (by omega) (by omega)).mp h3
theorem eg_le {B : Nat → Bool} {N q i : Nat} (hT : Tr B N) (hq : q < N) (hB : B q = true) : q < eg B N q i ∧ eg B N q i ≤ sh B N q := by
  have hsq := sh_spec hT hq hB
  rcases Nat.lt_or_ge i (cn B N q) with z | z
  · have := eg_lt hT hq hB z; omega
  · rw [eg_end z]; omega
theorem eg_bit {B : Nat → Bool} {N q i : Nat} (hT : Tr B N) (hq : q < N) (hB : B q = true) : B (eg B N q i) = true ↔ i < cn B N q := by
  rcases Nat.lt_or_ge i (cn B N q) with z | z
  · exact ⟨fun _ => z, fun _ => (eg_lt hT hq hB z).2.2.1⟩
  · rw [eg_end z, sh_false hT hq hB]
    exact ⟨fun w => (by cases w), fun w => by omega⟩
theorem iI_t {B : Nat → Bool} {p : Nat} (hp : p ≤ 128) : (iI (ex B p + 1)).toInt = ex B p + 1 := by
  have := ex_b B p
  exact iI_toInt (by omega) (by omega)
theorem iI_t0 {B : Nat → Bool} {p : Nat} (hp : p ≤ 128) : (iI (ex B p)).toInt = ex B p := by
  have := ex_b B p
  exact iI_toInt (by omega) (by omega)
theorem x_placeForChild {low high : Int64} {N : Nat} {g lo hi : Nat → Int32} (hX : XT low high N g lo hi) {v i : Nat} (hv : v < fb_ct (bb low high) N) (hil : i < 2147483648) {post : Int32 → Prop} (h : post (nI (eg (bb low high) N (kp (bb low high) N v) i))) : wX4_placeForChild low high (nI N) g lo hi (nI v) (nI i) post := by
  have hN := hX.1.1
  obtain ⟨o1, o2, o3⟩ := kp_spec hv
  unfold wX4_placeForChild
  refine x_openOf hX hv ?_
  rintro _ rfl
  rw [nI_1]
  refine x_excessAt (by omega) ?_
  rw [ex_t o2]
  obtain ⟨I, hI⟩ : ∃ I : Int32 → Int32 → Prop, ∀ a x, I a x ↔ ∃ k, k ≤ i ∧ x = nI k ∧ a = nI (eg (bb low high) N (kp (bb low high) N v) k) := ⟨_, fun _ _ => Iff.rfl⟩
  obtain ⟨mu, hmu⟩ : ∃ mu : Int32 → Int32 → Nat, ∀ a x, mu a x = i - x.toNatClampNeg := ⟨_, fun _ _ => rfl⟩
  refine ⟨I, mu, (hI _ _).mpr ⟨0, Nat.zero_le _, rfl, by rw [eg_0 hX.1 o1 o2]⟩, ?_⟩
  intro a x hIk
  obtain ⟨k, k1, rfl, rfl⟩ := (hI a x).mp hIk
  clear hIk
  have hs := sh_spec hX.1 o1 o2
  have hle := eg_le (i := k) hX.1 o1 o2
  refine pk_le i k (fun c => ?_) (fun c => ?_)
  · rw [show k = i by omega]; exact h
  · refine x_bitAt (by omega) ?_
    refine b1_ne (fun z => ?_) (fun z => ?_)
    · have hc : cn (bb low high) N (kp (bb low high) N v) ≤ k := by
        rcases Nat.lt_or_ge k (cn (bb low high) N (kp (bb low high) N v)) with w | w
        · rw [(eg_bit hX.1 o1 o2).mpr w] at z; cases z
        · exact w
      rw [eg_end hc]
      rw [eg_end (Nat.le_trans hc k1)] at h
      exact h
    · have hc := (eg_bit hX.1 o1 o2).mp z
      refine x_searchOn hX.2.2 hN (by omega) (fun r hr => ?_)
      rw [iI_t (by omega)] at hr
      rintro _ rfl
      rw [hr.one (eg_next hX.1 o1 o2 hc), nI_1]
      refine ⟨(hI _ _).mpr ⟨k + 1, by omega, rfl, rfl⟩, ?_⟩
      rw [hmu, hmu, nI_clamp (by omega), nI_clamp (by omega)]; omega
theorem x_depthOf {low high : Int64} {N : Nat} {g lo hi : Nat → Int32} (hX : XT low high N g lo hi) {v : Nat} (hv : v < fb_ct (bb low high) N) {post : Int32 → Prop} (h : post (iI (ex (bb low high) (kp (bb low high) N v)))) : wX4_depthOf low high (nI N) (nI v) post := by
  have hN := hX.1.1
  obtain ⟨o1, o2, o3⟩ := kp_spec hv
  unfold wX4_depthOf
  refine x_openOf hX hv ?_
  exact x_excessAt (by omega) h
theorem x_aboveBy {low high : Int64} {N : Nat} {g lo hi : Nat → Int32} (hX : XT low high N g lo hi) {v k : Nat} (hv : v < fb_ct (bb low high) N) (hk : k < 2147483648) {post : Int32 → Prop} (h1 : ∀ q', AN (bb low high) (kp (bb low high) N v) k q' → post (nI (fb_ct (bb low high) q'))) (h0 : ex (bb low high) (kp (bb low high) N v) < k → post (-4)) : wX4_aboveBy low high (nI N) g lo hi (nI v) (nI k) post := by
  have hN := hX.1.1
  obtain ⟨o1, o2, o3⟩ := kp_spec hv
  have hb := ex_b (bb low high) (kp (bb low high) N v)
  have hnn := hX.1.nn (show kp (bb low high) N v ≤ N by omega)
  unfold wX4_aboveBy
  refine x_openOf hX hv ?_
  refine x_excessAt (by omega) ?_
  refine q_le (k : Int) (ex (bb low high) (kp (bb low high) N v)) (fun c => ?_) (fun c => h0 c) (nI_iI k) rfl
  obtain ⟨a, ha⟩ := AN_ex (B := (bb low high)) (q := kp (bb low high) N v) (k := k) c
  rw [nI_1, nI_iI k, iI_sub]
  refine x_searchBack hX.2.2 hN (by omega) (fun r hr => ?_)
  rw [iI_toInt (by omega) (by omega)] at hr
  rw [hr.one ha.isK]
  exact x_opensAhead (by have := ha.1; omega) (h1 a ha)
theorem cn_0 {B : Nat → Bool} {N q : Nat} (hT : Tr B N) (hq : q < N) (hB : B q = true) : B (q + 1) = true ↔ 0 < cn B N q := by
  rw [← eg_0 hT hq hB]; exact eg_bit hT hq hB
theorem x_firstChildOf {low high : Int64} {N : Nat} {g lo hi : Nat → Int32} (hX : XT low high N g lo hi) {v : Nat} (hv : v < fb_ct (bb low high) N) {post : Int32 → Prop} (h1 : 0 < cn (bb low high) N (kp (bb low high) N v) → post (nI (fb_ct (bb low high) (eg (bb low high) N (kp (bb low high) N v) 0)))) (h0 : cn (bb low high) N (kp (bb low high) N v) ≤ 0 → post (-4)) : wX4_firstChildOf low high (nI N) (nI v) post := by
  have hN := hX.1.1
  obtain ⟨o1, o2, o3⟩ := kp_spec hv
  have hs := sh_spec hX.1 o1 o2
  unfold wX4_firstChildOf
  refine x_openOf hX hv ?_
  rw [nI_1]
  refine x_bitAt (by omega) ?_
  refine b1_ne (fun z => h0 ?_) (fun z => ?_)
  · rcases Nat.lt_or_ge 0 (cn (bb low high) N (kp (bb low high) N v)) with w | w
    · rw [(cn_0 hX.1 o1 o2).mpr w] at z; cases z
    · exact w
  · have := h1 ((cn_0 hX.1 o1 o2).mp z)
    rw [eg_0 hX.1 o1 o2, fb_ct_succ, if_pos o2, o3] at this
    rw [nI_1]; exact this
theorem x_lastChildOf {low high : Int64} {N : Nat} {g lo hi : Nat → Int32} (hX : XT low high N g lo hi) {v : Nat} (hv : v < fb_ct (bb low high) N) {post : Int32 → Prop} (h1 : ∀ j, cn (bb low high) N (kp (bb low high) N v) = j + 1 → post (nI (fb_ct (bb low high) (eg (bb low high) N (kp (bb low high) N v) j)))) (h0 : cn (bb low high) N (kp (bb low high) N v) = 0 → post (-4)) : wX4_lastChildOf low high (nI N) g lo hi (nI v) post := by
  have hN := hX.1.1
  obtain ⟨o1, o2, o3⟩ := kp_spec hv
  have hs := sh_spec hX.1 o1 o2
  unfold wX4_lastChildOf
  refine x_closeOf hX hv ?_
  rintro _ rfl
  rcases Nat.eq_zero_or_pos (cn (bb low high) N (kp (bb low high) N v)) with z | z
  · have e : sh (bb low high) N (kp (bb low high) N v) = kp (bb low high) N v + 1 := by rw [← eg_end (i := 0) (by omega), eg_0 hX.1 o1 o2]
    rw [e, nI_pred]
    refine x_bitAt (by omega) ?_
    exact b0_ne (fun _ => h0 z) (fun w => by rw [w] at o2; cases o2)
  · obtain ⟨j, hj⟩ : ∃ j, cn (bb low high) N (kp (bb low high) N v) = j + 1 := ⟨cn (bb low high) N (kp (bb low high) N v) - 1, by omega⟩
    have e := eg_sh hX.1 o1 o2 (show j < cn (bb low high) N (kp (bb low high) N v) by omega)
    rw [eg_end (i := j + 1) (by omega)] at e
    obtain ⟨a1, a2, a3, a4, a5⟩ := eg_lt hX.1 o1 o2 (show j < cn (bb low high) N (kp (bb low high) N v) by omega)
    rw [← e, nI_pred]
    have hf := sh_false hX.1 (show eg (bb low high) N (kp (bb low high) N v) j < N by omega) a3
    refine x_bitAt (by omega) ?_
    refine b0_ne (fun w => by rw [w] at hf; cases hf) (fun _ => ?_)
    exact x_nodeAtShut hX (by omega) a3 (h1 j hj)
theorem sh_root {B : Nat → Bool} {N q : Nat} (hT : Tr B N) (hq : q < N) (hB : B q = true) (h : ex B q < 1) : q = 0 ∧ sh B N q + 1 = N := by
  have hn := hT.nn (show q ≤ N by omega)
  have e := root_0 hT hq (by omega)
  have hs := sh_spec hT hq hB
  refine ⟨e, ?_⟩
  rcases Nat.eq_or_lt_of_le (show sh B N q + 1 ≤ N by omega) with z | z
  · exact z
  · have := hT.2.2 _ (show 0 < sh B N q + 1 by omega) z; omega
theorem x_nextChildAfter {low high : Int64} {N : Nat} {g lo hi : Nat → Int32} (hX : XT low high N g lo hi) {v : Nat} (hv : v < fb_ct (bb low high) N) {post : Int32 → Prop} (h1 : ∀ q', AN (bb low high) (kp (bb low high) N v) 1 q' → od (bb low high) q' (kp (bb low high) N v) + 1 < cn (bb low high) N q' → post (nI (fb_ct (bb low high) (eg (bb low high) N q' (od (bb low high) q' (kp (bb low high) N v) + 1))))) (h2 : ∀ q', AN (bb low high) (kp (bb low high) N v) 1 q' → cn (bb low high) N q' ≤ od (bb low high) q' (kp (bb low high) N v) + 1 → post (-4)) (h0 : ex (bb low high) (kp (bb low high) N v) < 1 → post (-4)) : wX4_nextChildAfter low high (nI N) g lo hi (nI v) post := by
  have hN := hX.1.1
  obtain ⟨o1, o2, o3⟩ := kp_spec hv
  have hs := sh_spec hX.1 o1 o2
  unfold wX4_nextChildAfter
  refine x_closeOf hX hv ?_
  rintro _ rfl
  rw [nI_1]
  rcases Int.lt_or_le (ex (bb low high) (kp (bb low high) N v)) 1 with z | z
  · have := (sh_root hX.1 o1 o2 z).2
    exact pk_le N (sh (bb low high) N (kp (bb low high) N v) + 1) (fun _ => h0 z) (fun c => by omega)
  · obtain ⟨q', hq'⟩ := AN_ex (B := (bb low high)) (q := kp (bb low high) N v) (k := 1) (by omega)
    have l1 := hq'.lt
    have b1 := hq'.opn o2
    have l2 := hq'.in hX.1 o1 o2
    have hs' := sh_spec hX.1 (show q' < N by omega) b1
    obtain ⟨c1, c2⟩ := eg_od hX.1 o1 o2 hq'
    have e := eg_sh hX.1 (show q' < N by omega) b1 c1
    rw [c2] at e
    have hle := eg_le (i := od (bb low high) q' (kp (bb low high) N v) + 1) hX.1 (show q' < N by omega) b1
    refine pk_le N (sh (bb low high) N (kp (bb low high) N v) + 1) (fun c => by omega) (fun c => ?_)
    refine x_bitAt (by omega) ?_
    rw [e]
    refine b1_ne (fun w => h2 q' hq' ?_) (fun w => ?_)
    · rcases Nat.lt_or_ge (od (bb low high) q' (kp (bb low high) N v) + 1) (cn (bb low high) N q') with y | y
      · rw [(eg_bit hX.1 (show q' < N by omega) b1).mpr y] at w; cases w
      · exact y
    · exact x_nodeAtOpen hX (by omega) w (h1 q' hq' ((eg_bit hX.1 (show q' < N by omega) b1).mp w))
theorem x_childBefore {low high : Int64} {N : Nat} {g lo hi : Nat → Int32} (hX : XT low high N g lo hi) {v : Nat} (hv : v < fb_ct (bb low high) N) {post : Int32 → Prop} (h1 : ∀ q' j, AN (bb low high) (kp (bb low high) N v) 1 q' → od (bb low high) q' (kp (bb low high) N v) = j + 1 → post (nI (fb_ct (bb low high) (eg (bb low high) N q' j)))) (h2 : ∀ q', AN (bb low high) (kp (bb low high) N v) 1 q' → od (bb low high) q' (kp (bb low high) N v) = 0 → post (-4)) (h0 : ex (bb low high) (kp (bb low high) N v) < 1 → post (-4)) : wX4_childBefore low high (nI N) g lo hi (nI v) post := by
  have hN := hX.1.1
  obtain ⟨o1, o2, o3⟩ := kp_spec hv
  have hs := sh_spec hX.1 o1 o2
  unfold wX4_childBefore
  refine x_openOf hX hv ?_
  rintro _ rfl
  rcases Int.lt_or_le (ex (bb low high) (kp (bb low high) N v)) 1 with z | z
  · rw [(sh_root hX.1 o1 o2 z).1]
    exact ⟨fun _ => h0 z, fun w => absurd (by decide) w⟩
  · obtain ⟨q', hq'⟩ := AN_ex (B := (bb low high)) (q := kp (bb low high) N v) (k := 1) (by omega)
    have l1 := hq'.lt
    have b1 := hq'.opn o2
    have l2 := hq'.in hX.1 o1 o2
    have hs' := sh_spec hX.1 (show q' < N by omega) b1
    obtain ⟨c1, c2⟩ := eg_od hX.1 o1 o2 hq'
    rcases Nat.eq_zero_or_pos (od (bb low high) q' (kp (bb low high) N v)) with y | y
    · rw [y, eg_0 hX.1 (show q' < N by omega) b1] at c2
      rw [← c2, nI_pred]
      refine ⟨fun w => absurd w (nI_pos (by omega)), fun _ => ?_⟩
      refine x_bitAt (by omega) ?_
      exact b0_ne (fun _ => h2 q' hq' y) (fun w => by rw [w] at b1; cases b1)
    · obtain ⟨j, hj⟩ : ∃ j, od (bb low high) q' (kp (bb low high) N v) = j + 1 := ⟨od (bb low high) q' (kp (bb low high) N v) - 1, by omega⟩
      have e := eg_sh hX.1 (show q' < N by omega) b1 (show j < cn (bb low high) N q' by omega)
      rw [← hj, c2] at e
      obtain ⟨a1, a2, a3, a4, a5⟩ := eg_lt hX.1 (show q' < N by omega) b1 (show j < cn (bb low high) N q' by omega)
      rw [← e, nI_pred]
      have hf := sh_false hX.1 (show eg (bb low high) N q' j < N by omega) a3
      refine ⟨fun w => absurd w (nI_pos (by omega)), fun _ => ?_⟩
      refine x_bitAt (by omega) ?_
      refine b0_ne (fun w => by rw [w] at hf; cases hf) (fun _ => ?_)
      exact x_nodeAtShut hX (by omega) a3 (h1 q' j hq' hj)
theorem x_childrenOf {low high : Int64} {N : Nat} {g lo hi : Nat → Int32} (hX : XT low high N g lo hi) {v : Nat} (hv : v < fb_ct (bb low high) N) {post : Int32 → Prop} (h : post (nI (cn (bb low high) N (kp (bb low high) N v)))) : wX4_childrenOf low high (nI N) g lo hi (nI v) post := by
  have hN := hX.1.1
  obtain ⟨o1, o2, o3⟩ := kp_spec hv
  have hs := sh_spec hX.1 o1 o2
  unfold wX4_childrenOf
  refine x_openOf hX hv ?_
  refine x_closeOf' hX.2.2 hX.1 o1 o2 ?_
  refine x_excessAt (by omega) ?_
  rw [iI_p1, nI_1]
  refine x_pointsWith (by omega) (by omega) ?_
  rw [iI_t (by omega), pw_child hX.1 o1 o2, nI_pred]
  exact h
theorem x_childAt {low high : Int64} {N : Nat} {g lo hi : Nat → Int32} (hX : XT low high N g lo hi) {v i : Nat} (hv : v < fb_ct (bb low high) N) (hil : i < 2147483648) {post : Int32 → Prop} (h1 : i < cn (bb low high) N (kp (bb low high) N v) → post (nI (fb_ct (bb low high) (eg (bb low high) N (kp (bb low high) N v) i)))) (h0 : cn (bb low high) N (kp (bb low high) N v) ≤ i → post (-4)) : wX4_childAt low high (nI N) g lo hi (nI v) (nI i) post := by
  have hN := hX.1.1
  obtain ⟨o1, o2, o3⟩ := kp_spec hv
  have hs := sh_spec hX.1 o1 o2
  have hle := eg_le (i := i) hX.1 o1 o2
  unfold wX4_childAt
  refine x_placeForChild hX hv hil ?_
  refine x_bitAt (by omega) ?_
  refine b1_ne (fun w => h0 ?_) (fun w => ?_)
  · rcases Nat.lt_or_ge i (cn (bb low high) N (kp (bb low high) N v)) with y | y
    · rw [(eg_bit hX.1 o1 o2).mpr y] at w; cases w
    · exact y
  · exact x_opensAhead (by omega) (h1 ((eg_bit hX.1 o1 o2).mp w))
theorem pw_part {B : Nat → Bool} {N q x : Nat} (hT : Tr B N) (hq : q < N) (hB : B q = true) (h1 : q < x) (h2 : x ≤ sh B N q) (h3 : ex B x = ex B q + 1) : pw B (ex B q + 1) (q + 1) x = od B q x + 1 := by
  obtain ⟨s1, s2, s3, s4⟩ := sh_spec hT hq hB
  have key : ∀ n, q + 1 + n ≤ sh B N q → fb_ct (fun k => decide (ex B k = ex B q + 1)) (q + 1 + n) + fb_ct (CQ B q) (q + 1) = fb_ct (CQ B q) (q + 1 + n) + fb_ct (fun k => decide (ex B k = ex B q + 1)) (q + 1) := by
    intro n
    induction n with
    | zero => intro _; rw [Nat.add_zero]; omega
    | succ n ih =>
      intro h
      have ih := ih (by omega)
      rw [show q + 1 + (n + 1) = q + 1 + n + 1 by omega, fb_ct_succ _ (q + 1 + n), fb_ct_succ (CQ B q) (q + 1 + n)]
      have : CQ B q (q + 1 + n) = decide (ex B (q + 1 + n) = ex B q + 1) := by
        unfold CQ
        by_cases c : ex B (q + 1 + n) = ex B q + 1
        · rw [pt_child hT hq hB (by omega) (by omega) c]; simp
        · rw [decide_eq_false c]; simp
      rw [this]
      omega
  have h4 := key (x - (q + 1)) (by omega)
  rw [show q + 1 + (x - (q + 1)) = x by omega] at h4
  unfold pw od
  rw [fb_ct_succ, if_pos (decide_eq_true h3)]
  have h5 := fb_ct_mono (CQ B q) (show q + 1 ≤ x by omega)
  omega
theorem x_orderOf {low high : Int64} {N : Nat} {g lo hi : Nat → Int32} (hX : XT low high N g lo hi) {v : Nat} (hv : v < fb_ct (bb low high) N) {post : Int32 → Prop} (h1 : ∀ q', AN (bb low high) (kp (bb low high) N v) 1 q' → post (nI (od (bb low high) q' (kp (bb low high) N v)))) (h0 : ex (bb low high) (kp (bb low high) N v) < 1 → post 0) : wX4_orderOf low high (nI N) g lo hi (nI v) post := by
  have hN := hX.1.1
  have hcN := fb_ct_le (bb low high) N
  obtain ⟨o1, o2, o3⟩ := kp_spec hv
  have hs := sh_spec hX.1 o1 o2
  unfold wX4_orderOf
  refine pk_ne v 0 (fun c => ?_) (fun c => h0 ?_)
  · refine x_openOf hX hv ?_
    refine x_aboveBy (k := 1) hX hv (by omega) (fun q' hq' => ?_) (fun z => ?_)
    · have l1 := hq'.lt
      have b1 := hq'.opn o2
      have l2 := hq'.in hX.1 o1 o2
      obtain ⟨k1, k2⟩ := kp_ct' (show q' < N by omega) b1
      refine x_openOf hX k2 ?_
      rw [k1]
      refine x_excessAt (by omega) ?_
      rw [nI_1]
      refine x_pointsWith (by omega) (by omega) ?_
      have e : ex (bb low high) (kp (bb low high) N v) = ex (bb low high) q' + 1 := by have := hq'.2.1; omega
      rw [iI_t0 (by omega)]
      have h5 := pw_part hX.1 (show q' < N by omega) b1 l1 (by omega) e
      rw [← e] at h5
      rw [h5, nI_pred]
      exact h1 q' hq'
    · have := (sh_root hX.1 o1 o2 z).1
      rw [this] at o3
      have e0 : fb_ct (bb low high) 0 = 0 := rfl
      omega
  · rw [c, kp_eq (N := N) (k := 0) (q := 0) (by omega) (hX.1.first (by omega)) rfl, ex_0]
    decide
theorem x_nodesOf {low high : Int64} {N : Nat} {g lo hi : Nat → Int32} (hX : XT low high N g lo hi) {v : Nat} (hv : v < fb_ct (bb low high) N) {post : Int32 → Prop} (h : post (nI (sz (bb low high) N v))) : wX4_nodesOf low high (nI N) g lo hi (nI v) post := by
  have hN := hX.1.1
  obtain ⟨o1, o2, o3⟩ := kp_spec hv
  obtain ⟨z1, z2, z3, z4⟩ := sz_eq hX.1 hv
  have hs := sh_spec hX.1 o1 o2
  unfold wX4_nodesOf
  refine x_openOf hX hv ?_
  refine x_closeOf' hX.2.2 hX.1 o1 o2 ?_
  rw [pk_sub (by omega), nI_1, show sh (bb low high) N (kp (bb low high) N v) - kp (bb low high) N v + 1 = 2 * sz (bb low high) N v by omega, half_2 (by omega)]
  exact h
theorem x_leavesOf {low high : Int64} {N : Nat} {g lo hi : Nat → Int32} (hX : XT low high N g lo hi) {v : Nat} (hv : v < fb_ct (bb low high) N) {post : Int32 → Prop} (h : post (nI (fb_ct (SG (bb low high) N 2) (sh (bb low high) N (kp (bb low high) N v)) - fb_ct (SG (bb low high) N 2) (kp (bb low high) N v)))) : wX4_leavesOf low high (nI N) g lo hi (nI v) post := by
  have hN := hX.1.1
  obtain ⟨o1, o2, o3⟩ := kp_spec hv
  have hs := sh_spec hX.1 o1 o2
  unfold wX4_leavesOf
  refine x_openOf hX hv ?_
  refine x_closeOf' hX.2.2 hX.1 o1 o2 ?_
  rw [nI_iI (sh (bb low high) N (kp (bb low high) N v)), nI_iI (kp (bb low high) N v)]
  refine x_signsAhead (w := 2) hN (by omega) (by omega) (by omega) ?_
  refine x_signsAhead (w := 2) hN (by omega) (by omega) (by omega) ?_
  rw [Int.toNat_natCast, Int.toNat_natCast, pk_sub (fb_ct_mono _ (by omega))]
  exact h
theorem x_heightOf {low high : Int64} {N : Nat} {g lo hi : Nat → Int32} (hX : XT low high N g lo hi) {v : Nat} (hv : v < fb_ct (bb low high) N) {post : Int32 → Prop} (h : ∀ m, IsMx (bb low high) (kp (bb low high) N v) (sh (bb low high) N (kp (bb low high) N v)) m → post (iI (m - ex (bb low high) (kp (bb low high) N v) - 1))) : wX4_heightOf low high (nI N) g lo hi (nI v) post := by
  have hN := hX.1.1
  obtain ⟨o1, o2, o3⟩ := kp_spec hv
  have hs := sh_spec hX.1 o1 o2
  unfold wX4_heightOf
  refine x_openOf hX hv ?_
  refine x_closeOf' hX.2.2 hX.1 o1 o2 ?_
  refine x_extremeMx hX.2.2 hN (by omega) (by omega) (fun m hm => ?_)
  refine x_excessAt (by omega) ?_
  rw [iI_sub, iI_s1]
  exact h m hm
theorem x_isAbove {low high : Int64} {N : Nat} {g lo hi : Nat → Int32} (hX : XT low high N g lo hi) {u v : Nat} (hu : u < fb_ct (bb low high) N) (hv : v < fb_ct (bb low high) N) {post : Int32 → Prop} (h1 : u ≤ v → v < u + sz (bb low high) N u → post 1) (h0 : ¬ (u ≤ v ∧ v < u + sz (bb low high) N u) → post 0) : wX4_isAbove low high (nI N) g lo hi (nI u) (nI v) post := by
  have hN := hX.1.1
  have hcN := fb_ct_le (bb low high) N
  obtain ⟨z1, z2, z3, z4⟩ := sz_eq hX.1 hu
  unfold wX4_isAbove
  refine pk_lt v u (fun c => h0 (by omega)) (fun c => ?_)
  refine x_nodesOf hX hu ?_
  rw [nI_add]
  exact pk_le (u + sz (bb low high) N u) v (fun c2 => h0 (by omega)) (fun c2 => h1 c c2)
