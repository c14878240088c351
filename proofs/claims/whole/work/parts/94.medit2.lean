/-! the reference: a node comes in, a node goes -/
theorem m_comesIn {st w : Nat → Int32} {B : Nat → Bool} {N o s : Nat} {x : Int32} (hM : MT st B N w) (hos : o ≤ s) (hs : s ≤ N) (hN : N + 2 ≤ 128) (hC : fb_ct B N < 64) {post : (Nat → Int32) → Prop} (h : ∀ st' : Nat → Int32, MT st' (WR B o s) (N + 2) (fun i => if i < fb_ct B o then w i else if i = fb_ct B o then x else w (i - 1)) → (∀ k, 193 ≤ k → st' k = st k) → post st') : wX6_comesIn st (nI o) (nI s) x post := by
  have hvM := fb_ct_mono B (show o ≤ N by omega)
  unfold wX6_comesIn
  refine m_opensAt hM.1 (by omega) (by omega) ?_
  refine m_opensPlace (by omega) (fun s1 h1 => ?_)
  refine m_opensPlace (by omega) (fun s2 h2 => ?_)
  obtain ⟨v, hv⟩ : ∃ v, v = fb_ct B o := ⟨_, rfl⟩
  rw [← hv] at h hvM ⊢
  have up : ∀ k, 128 ≤ k → s2 k = st k := fun k hk => by rw [h2 k, if_pos (Or.inr hk), h1 k, if_pos (Or.inr hk)]
  have row : MB s2 (WR B o s) (N + 2) := by
    intro k hk
    rw [h2 k]
    by_cases c1 : k < o
    · rw [if_pos (Or.inl c1), h1 k, if_pos (Or.inl (by omega)), hM.1 k (by omega), WR_lo c1]
    · rw [if_neg (by omega)]
      by_cases c2 : k = o
      · rw [if_pos c2, c2, WR_o]; rfl
      · rw [if_neg c2, h1 (k - 1)]
        obtain ⟨i, rfl⟩ : ∃ i, k = i + 1 := ⟨k - 1, by omega⟩
        rw [show i + 1 - 1 = i by omega]
        by_cases c3 : i < s
        · rw [if_pos (Or.inl c3), hM.1 i (by omega), WR_mid (by omega) c3]
        · rw [if_neg (by omega)]
          by_cases c4 : i = s
          · rw [if_pos c4, c4, WR_s hos]; rfl
          · rw [if_neg c4]
            obtain ⟨j, rfl⟩ : ∃ j, i = j + 1 := ⟨i - 1, by omega⟩
            rw [show j + 1 - 1 = j by omega, hM.1 j (by omega), WR_hi hos (by omega)]
  have cnt : fb_ct (WR B o s) (N + 2) = fb_ct B N + 1 := by
    have := WR_c (B := B) hos (N - s)
    rw [show s + (N - s) = N by omega] at this; exact this
  refine ⟨fun y f => ∃ j, y = nI j ∧ v ≤ j ∧ j ≤ 63 ∧ ∀ k, f k = if 128 + j < k ∧ k < 192 then st (k - 1) else s2 k, fun y _ => y.toNatClampNeg, ⟨63, rfl, by omega, Nat.le_refl _, fun k => by rw [if_neg (by omega)]⟩, ?_⟩
  rintro y f ⟨j, rfl, j1, j2, hf⟩
  rw [show (128 : Int32) = nI 128 from rfl, nI_add, nI_add]
  refine pk_le j v (fun c => ⟨pk_in (128 + v) 579 (by omega), pk_in 192 579 (by omega), ?_⟩) (fun c => ?_)
  · have e : j = v := by omega
    subst e
    rw [show (192 : Int32).toNatClampNeg = 192 from rfl, nI_clamp (by omega), pk_un (by omega), hf 192, if_neg (by omega), up 192 (by omega), hM.2.1, nI_1]
    rintro _ rfl
    refine ⟨pk_in 192 579 (by omega), h _ ⟨fun k hk => ?_, ?_, fun i hi => ?_⟩ (fun k hk => ?_)⟩
    · rw [pk_un (by omega), pk_un (by omega), hf k, if_neg (by omega)]; exact row k hk
    · rw [pk_us, cnt]
    · rw [pk_un (by omega)]
      rw [cnt] at hi
      show _ = (if i < j then w i else if i = j then x else w (i - 1))
      by_cases c1 : i < j
      · rw [if_pos c1, pk_un (by omega), hf (128 + i), if_neg (by omega), up _ (by omega), hM.2.2 i (by omega)]
      · rw [if_neg c1]
        by_cases c2 : i = j
        · rw [if_pos c2, c2, pk_us]
        · rw [if_neg c2, pk_un (by omega), hf (128 + i), if_pos (by omega), show 128 + i - 1 = 128 + (i - 1) by omega, hM.2.2 (i - 1) (by omega)]
    · rw [pk_un (by omega), pk_un (by omega), hf k, if_neg (by omega), up k (by omega)]
  · obtain ⟨i, rfl⟩ : ∃ i, j = i + 1 := ⟨j - 1, by omega⟩
    rw [show 128 + (i + 1) = 128 + i + 1 by omega, nI_pred]
    refine ⟨pk_in (128 + i) 579 (by omega), ?_⟩
    rw [nI_clamp (by omega)]
    rintro _ rfl
    refine ⟨pk_in (128 + i + 1) 579 (by omega), ?_⟩
    rintro _ rfl
    rw [pk_m1, nI_clamp (by omega)]
    refine ⟨⟨i, rfl, by omega, by omega, fun k => ?_⟩, ?_⟩
    · by_cases e : k = 128 + i + 1
      · rw [e, pk_us, hf (128 + i), if_neg (by omega), if_pos (by omega), up _ (by omega)]; rfl
      · rw [pk_un e, hf k]
        by_cases c2 : 128 + (i + 1) < k ∧ k < 192
        · rw [if_pos c2, if_pos (by omega)]
        · rw [if_neg c2, if_neg (by omega)]
    · dsimp only; rw [nI_clamp (by omega), nI_clamp (by omega)]; omega
theorem RM_lo {B : Nat → Bool} {o s k : Nat} (h : k < o) : RM B o s k = B k := if_pos h
theorem RM_mid {B : Nat → Bool} {o s k : Nat} (h1 : o ≤ k) (h2 : k + 1 < s) : RM B o s k = B (k + 1) := by unfold RM; rw [if_neg (by omega), if_pos h2]
theorem RM_hi {B : Nat → Bool} {o s k : Nat} (h1 : o ≤ k) (h2 : s ≤ k + 1) : RM B o s k = B (k + 2) := by unfold RM; rw [if_neg (by omega), if_neg (by omega)]
theorem RM_N {B : Nat → Bool} {o s N : Nat} (h : o < s) (ho : B o = true) (hs : B s = false) (hN : s < N) : fb_ct (RM B o s) (N - 2) + 1 = fb_ct B N := by
  have := (RM_ct h ho hs (N - 2)).2.2 (by omega)
  rw [show N - 2 + 2 = N by omega] at this; exact this
theorem m_goesOut {st w : Nat → Int32} {B : Nat → Bool} {N v : Nat} (hM : MT st B N w) (hT : Tr B N) (hv : v < fb_ct B N) {post : (Nat → Int32) → Prop} (h : ∀ st' : Nat → Int32, MT st' (RM B (kp B N v) (sh B N (kp B N v))) (N - 2) (fun i => if i < v then w i else w (i + 1)) → (∀ k, 193 ≤ k → st' k = st k) → post st') : wX6_goesOut st (nI v) post := by
  have hN := hT.1
  have h64 := hM.m64 hT
  obtain ⟨o1, o2, o3⟩ := kp_spec hv
  have hs := sh_spec hT o1 o2
  have hf := sh_false hT o1 o2
  unfold wX6_goesOut
  refine m_openOf hM.1 hN hv (m_shutOf hM.1 hT o1 o2 ?_)
  obtain ⟨q, hq⟩ : ∃ q, q = kp B N v := ⟨_, rfl⟩
  obtain ⟨s, hss⟩ : ∃ s, s = sh B N (kp B N v) := ⟨_, rfl⟩
  rw [← hss] at h hs hf ⊢
  rw [← hq] at h hs o1 o2 ⊢
  have cnt := RM_N (B := B) hs.1 o2 hf hs.2.1
  refine m_shutsPlace (by omega) (fun s1 h1 => ?_)
  refine m_shutsPlace (by omega) (fun s2 h2 => ?_)
  have up : ∀ k, 128 ≤ k → s2 k = st k := fun k hk => by rw [h2 k, if_neg (by omega), h1 k, if_neg (by omega)]
  have row : MB s2 (RM B q s) (N - 2) := by
    intro k hk
    rw [h2 k]
    by_cases c1 : k < q
    · rw [if_neg (by omega), h1 k, if_neg (by omega), hM.1 k (by omega), RM_lo c1]
    · rw [if_pos (by omega), h1 (k + 1)]
      by_cases c2 : k + 1 < s
      · rw [if_neg (by omega), hM.1 (k + 1) (by omega), RM_mid (by omega) c2]
      · rw [if_pos (by omega), hM.1 (k + 1 + 1) (by omega), RM_hi (by omega) (by omega)]
  refine ⟨fun y f => ∃ j, y = nI j ∧ v ≤ j ∧ j ≤ 63 ∧ ∀ k, f k = if 128 + v ≤ k ∧ k < 128 + j then st (k + 1) else s2 k, fun y _ => 63 - y.toNatClampNeg, ⟨v, rfl, Nat.le_refl _, by omega, fun k => by rw [if_neg (by omega)]⟩, ?_⟩
  rintro y f ⟨j, rfl, j1, j2, hj⟩
  rw [nI_1, show (128 : Int32) = nI 128 from rfl, nI_add, nI_1]
  refine pk_le 64 (j + 1) (fun c => ⟨pk_in 192 579 (by omega), ?_⟩) (fun c => ⟨pk_in (128 + j + 1) 579 (by omega), ?_⟩)
  · have e : j = 63 := by omega
    subst e
    rw [show (192 : Int32).toNatClampNeg = 192 from rfl, hj 192, if_neg (by omega), up 192 (by omega), hM.2.1]
    rintro _ rfl
    rw [← cnt, nI_pred]
    refine ⟨pk_in 192 579 (by omega), h _ ⟨fun k hk => ?_, ?_, fun i hi => ?_⟩ (fun k hk => ?_)⟩
    · rw [pk_un (by omega), hj k, if_neg (by omega)]; exact row k hk
    · rw [pk_us]
    · rw [pk_un (by omega), hj (128 + i)]
      show _ = (if i < v then w i else w (i + 1))
      by_cases c1 : i < v
      · rw [if_neg (by omega), if_pos c1, up _ (by omega), hM.2.2 i (by omega)]
      · rw [if_pos (by omega), if_neg c1, show 128 + i + 1 = 128 + (i + 1) by omega, hM.2.2 (i + 1) (by omega)]
    · rw [pk_un (by omega), hj k, if_neg (by omega), up k (by omega)]
  · rw [nI_clamp (by omega)]
    rintro _ rfl
    refine ⟨pk_in (128 + j) 579 (by omega), ?_⟩
    rintro _ rfl
    rw [nI_clamp (by omega)]
    refine ⟨⟨j + 1, rfl, by omega, by omega, fun k => ?_⟩, ?_⟩
    · by_cases e : k = 128 + j
      · rw [e, pk_us, hj (128 + j + 1), if_neg (by omega), if_pos (by omega), up _ (by omega)]
      · rw [pk_un e, hj k]
        by_cases c2 : 128 + v ≤ k ∧ k < 128 + j
        · rw [if_pos c2, if_pos (by omega)]
        · rw [if_neg c2, if_neg (by omega)]
    · dsimp only; rw [nI_clamp (by omega), nI_clamp (by omega)]; omega
theorem m_edgeOf {st : Nat → Int32} {B : Nat → Bool} {N v i : Nat} (hS : MB st B N) (hT : Tr B N) (hv : v < fb_ct B N) (hi : i < 2147483648) {post : Int32 → Prop} (h : post (nI (eg B N (kp B N v) i))) : wX6_edgeOf st (nI v) (nI i) post := by
  have hN := hT.1
  have hcN := fb_ct_le B N
  obtain ⟨o1, o2, o3⟩ := kp_spec hv
  have hs := sh_spec hT o1 o2
  unfold wX6_edgeOf
  refine m_childOf hS hT hv hi (fun c => ?_) (fun c => ?_)
  · obtain ⟨a1, a2, a3, a4, a5⟩ := eg_lt hT o1 o2 c
    obtain ⟨c1, c2⟩ := kp_ct' (show eg B N (kp B N v) i < N by omega) a3
    refine ⟨fun _ => m_openOf hS hN c2 (by rw [c1]; exact h), fun z => absurd z (m4_ne (by omega))⟩
  · refine ⟨fun z => absurd rfl z, fun _ => m_openOf hS hN hv (m_shutOf hS hT o1 o2 ?_)⟩
    rw [eg_end c] at h; exact h
