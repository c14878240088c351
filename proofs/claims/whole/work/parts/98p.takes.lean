/-! the text: the reference's side; both sides -/
def RP (rp : Nat → Int32) (s : S5) : Prop := rp 192 = nI (fb_ct s.2.1 s.2.2.1) ∧ (∀ k, k < s.2.2.1 → rp k = if s.2.1 k then 1 else 0) ∧ ∀ j, j < fb_ct s.2.1 s.2.2.1 → rp (128 + j) = s.2.2.2.1 j
theorem tcd_1 {kd : Nat} (h : nI (tcd kd) = (1 : Int32)) : kd = 1 := by
  unfold tcd at h
  by_cases c0 : kd = 0
  · rw [if_pos c0] at h; exact absurd h (by decide)
  · rw [if_neg c0] at h
    by_cases c1 : kd = 1
    · exact c1
    · rw [if_neg c1] at h
      by_cases c2 : kd = 40
      · rw [if_pos c2] at h; exact absurd h (by decide)
      · rw [if_neg c2] at h; exact absurd h (by decide)
theorem tcd_0 {kd : Nat} (h : nI (tcd kd) = (0 : Int32)) : kd = 0 := by
  unfold tcd at h
  by_cases c0 : kd = 0
  · exact c0
  · rw [if_neg c0] at h
    by_cases c1 : kd = 1
    · rw [if_pos c1] at h; exact absurd h (by decide)
    · rw [if_neg c1] at h
      by_cases c2 : kd = 40
      · rw [if_pos c2] at h; exact absurd h (by decide)
      · rw [if_neg c2] at h; exact absurd h (by decide)
abbrev M7 : Type := Int32 × Int32 × Int32 × Int32 × Int32 × Int32 × (Nat → Int32)
theorem m_openBody {L n e i s1 P bf : Nat} {tb : Nat → Nat} {ta rp w : Nat → Int32} {B : Nat → Bool} {v ba va dd : Int32} (hL : L ≤ 160) (hb : TB L tb ta) (hR : Run L tb n (s1, B, P, w, bf)) (hT : TK L tb s1 i 40 e v) (hc : ¬ (0 < fb_ct B P ∧ ¬ 0 < ex B P)) (hdd : dd = iI (ex B P)) (hrp : RP rp (s1, B, P, w, bf)) {post : Int32 → M7 → Prop} (hG : ∀ n' s' i' kd' e' v' ba' va' rp', Run L tb n' s' → TK L tb s'.1 i' kd' e' v' → ¬ kd' = 2 → (s'.2.2.2.2 = 40 → ¬ kd' = 1) → RP rp' s' → s'.2.2.1 = P + 1 → e ≤ s'.1 → post (iI (ex s'.2.1 s'.2.2.1)) (0, ba', nI e', nI i', nI (tcd kd'), va', rp')) (hF : ∀ f i' s' d' sp hr tk va' rp', Out L tb f i' s' → 0 < f → f < 10 → post d' (nI f, nI i', sp, hr, tk, va', rp')) : (vp_in (192 : Int32) 193 ∧ ((¬ (rp (192 : Int32).toNatClampNeg) = (64 : Int32) → (vp_in (nI P) 193 ∧ (vp_in (192 : Int32) 193 ∧ (vp_in ((128 : Int32) + ((upd rp (nI P).toNatClampNeg (1 : Int32)) (192 : Int32).toNatClampNeg)) 193 ∧ (wX6_readsOn (nI L) (0 : Int32) ba (nI e) (nI i) (nI (tcd 40)) va ta (fun u_8 : (Int32) × (Int32) × (Int32) × (Int32) × (Int32) × (Int32) => (((¬ u_8.1 = 0 → (vp_in (192 : Int32) 193 ∧ (∀ x_10 : Int32, x_10 = (((upd (upd rp (nI P).toNatClampNeg (1 : Int32)) ((128 : Int32) + ((upd rp (nI P).toNatClampNeg (1 : Int32)) (192 : Int32).toNatClampNeg)).toNatClampNeg (0 : Int32)) (192 : Int32).toNatClampNeg) + (1 : Int32)) → (vp_in (192 : Int32) 193 ∧ post (dd + (1 : Int32)) (u_8.1, u_8.2.1, u_8.2.2.1, u_8.2.2.2.1, u_8.2.2.2.2.1, u_8.2.2.2.2.2, (upd (upd (upd rp (nI P).toNatClampNeg (1 : Int32)) ((128 : Int32) + ((upd rp (nI P).toNatClampNeg (1 : Int32)) (192 : Int32).toNatClampNeg)).toNatClampNeg (0 : Int32)) (192 : Int32).toNatClampNeg x_10)))))) ∧ (u_8.1 = 0 → ((¬ u_8.2.2.2.2.1 = (1 : Int32) → (vp_in (192 : Int32) 193 ∧ (∀ x_12 : Int32, x_12 = (((upd (upd rp (nI P).toNatClampNeg (1 : Int32)) ((128 : Int32) + ((upd rp (nI P).toNatClampNeg (1 : Int32)) (192 : Int32).toNatClampNeg)).toNatClampNeg (0 : Int32)) (192 : Int32).toNatClampNeg) + (1 : Int32)) → (vp_in (192 : Int32) 193 ∧ post (dd + (1 : Int32)) (u_8.1, u_8.2.1, u_8.2.2.1, u_8.2.2.2.1, u_8.2.2.2.2.1, u_8.2.2.2.2.2, (upd (upd (upd rp (nI P).toNatClampNeg (1 : Int32)) ((128 : Int32) + ((upd rp (nI P).toNatClampNeg (1 : Int32)) (192 : Int32).toNatClampNeg)).toNatClampNeg (0 : Int32)) (192 : Int32).toNatClampNeg x_12)))))) ∧ (u_8.2.2.2.2.1 = (1 : Int32) → (vp_in (192 : Int32) 193 ∧ (∀ x_13 : Int32, x_13 = u_8.2.2.2.2.2 → (vp_in ((128 : Int32) + ((upd (upd rp (nI P).toNatClampNeg (1 : Int32)) ((128 : Int32) + ((upd rp (nI P).toNatClampNeg (1 : Int32)) (192 : Int32).toNatClampNeg)).toNatClampNeg (0 : Int32)) (192 : Int32).toNatClampNeg)) 193 ∧ (wX6_readsOn (nI L) u_8.1 u_8.2.1 u_8.2.2.1 u_8.2.2.2.1 u_8.2.2.2.2.1 u_8.2.2.2.2.2 ta (fun u_15 : (Int32) × (Int32) × (Int32) × (Int32) × (Int32) × (Int32) => ((vp_in (192 : Int32) 193 ∧ (∀ x_16 : Int32, x_16 = (((upd (upd (upd rp (nI P).toNatClampNeg (1 : Int32)) ((128 : Int32) + ((upd rp (nI P).toNatClampNeg (1 : Int32)) (192 : Int32).toNatClampNeg)).toNatClampNeg (0 : Int32)) ((128 : Int32) + ((upd (upd rp (nI P).toNatClampNeg (1 : Int32)) ((128 : Int32) + ((upd rp (nI P).toNatClampNeg (1 : Int32)) (192 : Int32).toNatClampNeg)).toNatClampNeg (0 : Int32)) (192 : Int32).toNatClampNeg)).toNatClampNeg x_13) (192 : Int32).toNatClampNeg) + (1 : Int32)) → (vp_in (192 : Int32) 193 ∧ post (dd + (1 : Int32)) (u_15.1, u_15.2.1, u_15.2.2.1, u_15.2.2.2.1, u_15.2.2.2.2.1, u_15.2.2.2.2.2, (upd (upd (upd (upd rp (nI P).toNatClampNeg (1 : Int32)) ((128 : Int32) + ((upd rp (nI P).toNatClampNeg (1 : Int32)) (192 : Int32).toNatClampNeg)).toNatClampNeg (0 : Int32)) ((128 : Int32) + ((upd (upd rp (nI P).toNatClampNeg (1 : Int32)) ((128 : Int32) + ((upd rp (nI P).toNatClampNeg (1 : Int32)) (192 : Int32).toNatClampNeg)).toNatClampNeg (0 : Int32)) (192 : Int32).toNatClampNeg)).toNatClampNeg x_13) (192 : Int32).toNatClampNeg x_16)))))))))))))))))))))) ∧ ((rp (192 : Int32).toNatClampNeg) = (64 : Int32) → (wX6_fails (0 : Int32) ba (nI i) (5 : Int32) (fun u_18 : (Int32) × (Int32) => (post dd (u_18.1, u_18.2, (nI e), (nI i), (nI (tcd 40)), va, rp))))))) := by
  have hI := hR.inv
  have hle : P ≤ 2 * fb_ct B P := hI.le
  obtain ⟨a1, a2, a3, a4, a5, a6, a7⟩ := hI
  have a3 : fb_ct B P ≤ 64 := a3
  obtain ⟨b1, b2, b3, b4, b5⟩ := hT.bd
  obtain ⟨r1, r2, r3⟩ := hrp
  have r1 : rp 192 = nI (fb_ct B P) := r1
  have r2 : ∀ k, k < P → rp k = if B k then 1 else 0 := r2
  have r3 : ∀ j, j < fb_ct B P → rp (128 + j) = w j := r3
  have hP : (nI P).toNatClampNeg = P := nI_clamp (by omega)
  obtain ⟨M, hM⟩ : ∃ M, M = fb_ct B P := ⟨_, rfl⟩
  rw [← hM] at r1 r3 a3 hle hc
  rw [show (192 : Int32).toNatClampNeg = 192 from rfl, hP, r1]
  refine ⟨pk_in 192 193 (by omega), pk_ne M 64 (fun c => ?_) (fun c => ?_)⟩
  · refine ⟨pk_in P 193 (by omega), pk_in 192 193 (by omega), ?_⟩
    have u1 : upd rp P 1 192 = nI M := by rw [pk_un (by omega), r1]
    have u2 : upd (upd rp P 1) (128 + M) 0 192 = nI M := by rw [pk_un (by omega), u1]
    have e128 : (128 : Int32) + nI M = nI (128 + M) := nI_add 128 M
    rw [u1, e128, nI_clamp (show 128 + M < 2147483648 by omega), u2, e128, nI_clamp (show 128 + M < 2147483648 by omega), nI_1]
    refine ⟨pk_in (128 + M) 193 (by omega), ?_⟩
    have ft0 : ft 40 bf B P = 0 := by rw [ft_40, ← hM, if_neg hc, if_pos (by omega)]
    have hR1 : Run L tb (n + 1) (e, aB B P true, P + 1, upd w M 0, 40) := ⟨(s1, B, P, w, bf), i, 40, e, v, hR, hT, by decide, ft0, by rw [stp_40, hM]⟩
    have eM1 : fb_ct (aB B P true) (P + 1) = M + 1 := by rw [fb_ct_succ, aB_ct (Nat.le_refl _), aB_P, hM]; rfl
    have ed : dd + 1 = iI (ex (aB B P true) (P + 1)) := by rw [hdd, iI_p1, ex_t aB_P, aB_ex (Nat.le_refl _)]
    have bits : ∀ k, k < P + 1 → upd rp P 1 k = if aB B P true k then 1 else 0 := fun k hk => by
      by_cases ek : k = P
      · rw [ek, pk_us, aB_P]; rfl
      · rw [pk_un ek, aB_n ek]; exact r2 k (by omega)
    have rp1 : RP (upd (upd (upd rp P 1) (128 + M) 0) 192 (nI (M + 1))) (e, aB B P true, P + 1, upd w M 0, 40) := by
      refine ⟨?_, fun k hk => ?_, fun j hj => ?_⟩
      · show upd (upd (upd rp P 1) (128 + M) 0) 192 (nI (M + 1)) 192 = nI (fb_ct (aB B P true) (P + 1))
        rw [pk_us, eM1]
      · have hk : k < P + 1 := hk
        rw [pk_un (by omega), pk_un (by omega)]; exact bits k hk
      · have hj : j < fb_ct (aB B P true) (P + 1) := hj
        rw [eM1] at hj
        show _ = upd w M 0 j
        rw [pk_un (by omega)]
        by_cases ej : j = M
        · rw [ej, pk_us, pk_us]
        · rw [pk_un (by omega), pk_un (by omega), pk_un ej]; exact r3 j (by omega)
    refine m_readsOn hL b3 hb (fun i' kd' e' v' vv hTK hk2 hv => ?_) (fun i' e' v' t vv hTK => ?_)
    · refine ⟨fun z => absurd rfl z, fun _ => ?_⟩
      by_cases k1 : kd' = 1
      · subst k1
        refine ⟨fun z => absurd rfl z, fun _ => ⟨pk_in 192 193 (by omega), ?_⟩⟩
        have hvv : vv = v' := hv rfl
        subst hvv
        intro y hy
        have hy : y = vv := hy
        subst hy
        refine ⟨pk_in (128 + M) 193 (by omega), ?_⟩
        obtain ⟨d1, d2, d3, d4, d5⟩ := hTK.bd
        have d4 := d4 (by decide)
        show wX6_readsOn (nI L) 0 ba (nI e') (nI i') (nI (tcd 1)) y ta _
        have hR2 : Run L tb (n + 1 + 1) (e', aB B P true, P + 1, upd (upd w M 0) M y, 1) := ⟨(e, aB B P true, P + 1, upd w M 0, 40), i', 1, e', y, hR1, hTK, by decide, by rw [ft_1]; rfl, by rw [stp_1]; show _ = (e', aB B P true, P + 1, upd (upd w M 0) (fb_ct (aB B P true) (P + 1) - 1) y, 1); rw [eM1]; rfl⟩
        have u3 : upd (upd (upd rp P 1) (128 + M) 0) (128 + M) y 192 = nI M := by rw [pk_un (by omega), u2]
        have rp2 : RP (upd (upd (upd (upd rp P 1) (128 + M) 0) (128 + M) y) 192 (nI (M + 1))) (e', aB B P true, P + 1, upd (upd w M 0) M y, 1) := by
          refine ⟨?_, fun k hk => ?_, fun j hj => ?_⟩
          · show upd (upd (upd (upd rp P 1) (128 + M) 0) (128 + M) y) 192 (nI (M + 1)) 192 = nI (fb_ct (aB B P true) (P + 1))
            rw [pk_us, eM1]
          · have hk : k < P + 1 := hk
            rw [pk_un (by omega), pk_un (by omega), pk_un (by omega)]; exact bits k hk
          · have hj : j < fb_ct (aB B P true) (P + 1) := hj
            rw [eM1] at hj
            show _ = upd (upd w M 0) M y j
            rw [pk_un (by omega)]
            by_cases ej : j = M
            · rw [ej, pk_us, pk_us]
            · rw [pk_un (by omega), pk_un (by omega), pk_un (by omega), pk_un ej, pk_un ej]; exact r3 j (by omega)
        refine m_readsOn hL d3 hb (fun i2 kd2 e2 v2 vv2 hTK2 hk22 hv2 => ?_) (fun i2 e2 v2 t2 vv2 hTK2 => ?_)
        · refine ⟨pk_in 192 193 (by omega), ?_⟩
          rintro _ rfl
          refine ⟨pk_in 192 193 (by omega), ?_⟩
          show post (dd + 1) (0, ba, nI e2, nI i2, nI (tcd kd2), vv2, upd (upd (upd (upd rp P 1) (128 + M) 0) (128 + M) y) 192 (upd (upd (upd rp P 1) (128 + M) 0) (128 + M) y 192 + 1))
          rw [u3, nI_1, ed]
          exact hG _ _ i2 kd2 e2 v2 _ _ _ hR2 hTK2 hk22 (fun z => absurd (show (1 : Nat) = 40 from z) (by decide)) rp2 rfl (by show e ≤ e'; omega)
        · refine ⟨pk_in 192 193 (by omega), ?_⟩
          rintro _ rfl
          exact ⟨pk_in 192 193 (by omega), hF 1 i2 _ _ _ _ _ _ _ ⟨n + 1 + 1, 2, e2, v2, hR2, hTK2, by rw [ft_2], Or.inr (by decide)⟩ (by decide) (by decide)⟩
      · refine ⟨fun _ => ⟨pk_in 192 193 (by omega), ?_⟩, fun z => absurd (tcd_1 z) k1⟩
        rintro _ rfl
        refine ⟨pk_in 192 193 (by omega), ?_⟩
        rw [ed]
        exact hG _ _ i' kd' e' v' _ _ _ hR1 hTK hk2 (fun _ => k1) rp1 rfl (Nat.le_refl _)
    · refine ⟨fun _ => ⟨pk_in 192 193 (by omega), ?_⟩, fun z => absurd (show (1 : Int32) = 0 from z) (by decide)⟩
      rintro _ rfl
      exact ⟨pk_in 192 193 (by omega), hF 1 i' _ _ _ _ _ _ _ ⟨n + 1, 2, e', v', hR1, hTK, by rw [ft_2], Or.inr (by decide)⟩ (by decide) (by decide)⟩
  · unfold wX6_fails
    refine ⟨fun z => absurd rfl z, fun _ => hF 5 i (s1, B, P, w, bf) _ _ _ _ _ _ ⟨n, 40, e, v, hR, hT, ?_, Or.inr (by decide)⟩ (by decide) (by decide)⟩
    show 5 = ft 40 bf B P
    rw [ft_40, ← hM, if_neg hc, if_neg (by omega)]
theorem m_takes {L n e i kd s1 P bf : Nat} {tb : Nat → Nat} {ta rp w : Nat → Int32} {B : Nat → Bool} {v ba va : Int32} (hL : L ≤ 160) (hb : TB L tb ta) (hR : Run L tb n (s1, B, P, w, bf)) (hT : TK L tb s1 i kd e v) (hk2 : ¬ kd = 2) (hbf : bf = 40 → ¬ kd = 1) (hgo : kd = 0 → 0 < ex B P) (hrp : RP rp (s1, B, P, w, bf)) {post : Int32 → M7 → Prop} (hG : ∀ n' s' i' kd' e' v' ba' va' rp', ¬ kd = 0 → Run L tb n' s' → TK L tb s'.1 i' kd' e' v' → ¬ kd' = 2 → (s'.2.2.2.2 = 40 → ¬ kd' = 1) → RP rp' s' → s'.2.2.1 = P + 1 → e ≤ s'.1 → post (iI (ex s'.2.1 s'.2.2.1)) (0, ba', nI e', nI i', nI (tcd kd'), va', rp')) (hF : ∀ f i' s' d' sp hr tk va' rp', Out L tb f i' s' → 0 < f → f < 10 → post d' (nI f, nI i', sp, hr, tk, va', rp')) : wX6_takes (nI L) 0 ba (nI e) (nI i) (nI (tcd kd)) va rp ta (iI (ex B P)) (nI P) post := by
  have hI := hR.inv
  have hle : P ≤ 2 * fb_ct B P := hI.le
  obtain ⟨a1, a2, a3, a4, a5, a6, a7⟩ := hI
  have a3 : fb_ct B P ≤ 64 := a3
  have a4 : 0 ≤ ex B P := a4
  have eb := ex_b B P
  obtain ⟨b1, b2, b3, b4, b5⟩ := hT.bd
  have hP : (nI P).toNatClampNeg = P := nI_clamp (by omega)
  have h3' := hrp
  obtain ⟨r1, r2, r3⟩ := hrp
  unfold wX6_takes
  rcases b5 with rfl | rfl | rfl | rfl | rfl
  · refine ⟨fun _ => ⟨fun _ => ?_, fun z => absurd z (by decide)⟩, fun z => absurd z (by decide)⟩
    unfold wX6_fails
    exact ⟨fun z => absurd rfl z, fun _ => hF 2 i (s1, B, P, w, bf) _ _ _ _ _ _ ⟨n, 0, e, v, hR, hT, by rw [ft_0, if_pos (hgo rfl)], Or.inl rfl⟩ (by decide) (by decide)⟩
  · refine ⟨fun _ => ⟨fun _ => ?_, fun z => absurd z (by decide)⟩, fun z => absurd z (by decide)⟩
    unfold wX6_fails
    exact ⟨fun z => absurd rfl z, fun _ => hF 2 i (s1, B, P, w, bf) _ _ _ _ _ _ ⟨n, 1, e, v, hR, hT, by rw [ft_1, if_neg (fun z => hbf z rfl)], Or.inr (by decide)⟩ (by decide) (by decide)⟩
  · exact absurd rfl hk2
  · refine ⟨fun _ => ⟨fun z => absurd rfl z, fun _ => ?_⟩, fun z => absurd z (by decide)⟩
    refine q_ne (ex B P) 0 (fun c => ?_) (fun c => ?_)
    · exact m_openBody hL hb hR hT (fun z => by omega) rfl h3' (fun n' s' i' kd' e' v' ba' va' rp' => hG n' s' i' kd' e' v' ba' va' rp' (by decide)) hF
    · refine pk_le P 0 (fun c2 => ?_) (fun c2 => ?_)
      · have e0 : P = 0 := by omega
        exact m_openBody hL hb hR hT (fun z => by rw [e0] at z; exact absurd z.1 (Nat.lt_irrefl _)) rfl h3' (fun n' s' i' kd' e' v' ba' va' rp' => hG n' s' i' kd' e' v' ba' va' rp' (by decide)) hF
      · unfold wX6_fails
        exact ⟨fun z => absurd rfl z, fun _ => hF 2 i (s1, B, P, w, bf) _ _ _ _ _ _ ⟨n, 40, e, v, hR, hT, by show 2 = ft 40 bf B P; rw [ft_40, if_pos ⟨by omega, by omega⟩], Or.inr (by decide)⟩ (by decide) (by decide)⟩
  · refine ⟨fun z => absurd rfl z, fun _ => ?_⟩
    refine q_ne (ex B P) 0 (fun c => ⟨pk_in P 193 (by omega), ?_⟩) (fun c => ?_)
    · have hR1 : Run L tb (n + 1) (e, aB B P false, P + 1, w, 41) := ⟨(s1, B, P, w, bf), i, 41, e, v, hR, hT, by decide, by show ft 41 bf B P = 0; rw [ft_41, if_pos (by omega)], by rw [stp_41]⟩
      have eM1 : fb_ct (aB B P false) (P + 1) = fb_ct B P := by rw [fb_ct_succ, aB_ct (Nat.le_refl _), aB_P]; rfl
      have ed : iI (ex B P) - 1 = iI (ex (aB B P false) (P + 1)) := by rw [iI_s1, ex_f aB_P, aB_ex (Nat.le_refl _)]
      rw [hP, ed]
      refine m_readsOn hL b3 hb (fun i' kd' e' v' vv hTK hk2 hv => ?_) (fun i' e' v' t vv hTK => ?_)
      · refine hG _ _ i' kd' e' v' _ _ _ (by decide) hR1 hTK hk2 (fun z => absurd (show (41 : Nat) = 40 from z) (by decide)) ⟨?_, fun k hk => ?_, fun j hj => ?_⟩ rfl (Nat.le_refl _)
        · show upd rp P 0 192 = nI (fb_ct (aB B P false) (P + 1))
          rw [pk_un (by omega), eM1]; exact r1
        · have hk : k < P + 1 := hk
          show upd rp P 0 k = if aB B P false k then 1 else 0
          by_cases ek : k = P
          · rw [ek, pk_us, aB_P]; rfl
          · rw [pk_un ek, aB_n ek]; exact r2 k (show k < P by omega)
        · have hj : j < fb_ct (aB B P false) (P + 1) := hj
          rw [eM1] at hj
          show upd rp P 0 (128 + j) = w j
          have := ex_par B P
          rw [pk_un (by omega)]; exact r3 j hj
      · exact hF 1 i' _ _ _ _ _ _ _ ⟨n + 1, 2, e', v', hR1, hTK, by rw [ft_2], Or.inr (by decide)⟩ (by decide) (by decide)
    · unfold wX6_fails
      refine ⟨fun z => absurd rfl z, fun _ => ⟨pk_in P 193 (by omega), ?_⟩⟩
      refine m_readsOn_b (b := 2) (by decide) (by decide) ?_
      exact hF 2 i (s1, B, P, w, bf) _ _ _ _ _ _ ⟨n, 41, e, v, hR, hT, by show 2 = ft 41 bf B P; rw [ft_41, if_neg (by omega)], Or.inr (by decide)⟩ (by decide) (by decide)
