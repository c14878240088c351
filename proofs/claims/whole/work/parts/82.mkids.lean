/-! the reference's children -/
theorem ct_same {Q B : Nat → Bool} (hQ : ∀ j, Q j = true → B j = true) {a b : Nat} (h : fb_ct B a = fb_ct B b) : fb_ct Q a = fb_ct Q b := by
  have key : ∀ {a b : Nat}, a ≤ b → fb_ct B a = fb_ct B b → fb_ct Q a = fb_ct Q b := by
    intro a b hab h
    refine (ct_gap hab (fun j j1 j2 => ?_)).symm
    cases hq : Q j with
    | false => rfl
    | true =>
      have h1 := fb_ct_mono B (show j + 1 ≤ b from j2)
      have h2 := fb_ct_mono B j1
      rw [fb_ct_succ, if_pos (hQ j hq)] at h1
      omega
  rcases Nat.le_total a b with z | z
  · exact key z h
  · exact (key z h.symm).symm
theorem CQ_sub (B : Nat → Bool) (q : Nat) : ∀ j, CQ B q j = true → B j = true := fun j h => (CQ_open h).1
/-- from the node's own place to behind its last one, in nodes -/
theorem ct_from {Q B : Nat → Bool} {N v : Nat} (hQ : ∀ j, Q j = true → B j = true) (hv : v < fb_ct B N) : fb_ct Q (kp B N v + 1) = fb_ct Q (kp B N (v + 1)) := by
  obtain ⟨o1, o2, o3⟩ := kp_spec hv
  refine ct_same hQ ?_
  rw [kp_ct B N (v + 1) hv, fb_ct_succ, if_pos o2, o3]
theorem ct_to {Q B : Nat → Bool} {N v : Nat} (hT : Tr B N) (hQ : ∀ j, Q j = true → B j = true) (hv : v < fb_ct B N) : fb_ct Q (sh B N (kp B N v)) = fb_ct Q (kp B N (v + sz B N v)) := by
  obtain ⟨o1, o2, o3⟩ := kp_spec hv
  obtain ⟨z1, z2, z3, z4⟩ := sz_eq hT hv
  refine ct_same hQ ?_
  rw [kp_ct B N (v + sz B N v) z3, ← z4, fb_ct_succ, if_neg (by rw [sh_false hT o1 o2]; decide)]
  rfl
theorem cnt_sub {a b c : Nat} (h1 : a ≤ b) (h2 : b ≤ c) : a ≤ c := Nat.le_trans h1 h2
theorem m_childrenOf {st : Nat → Int32} {B : Nat → Bool} {N v : Nat} (hS : MB st B N) (hT : Tr B N) (hv : v < fb_ct B N) {post : Int32 → Prop} (h : post (nI (cn B N (kp B N v)))) : wX6_childrenOf st (nI v) post := by
  have hN := hT.1
  have hcN := fb_ct_le B N
  obtain ⟨o1, o2, o3⟩ := kp_spec hv
  obtain ⟨z1, z2, z3, z4⟩ := sz_eq hT hv
  have hb0 := ex_b B (kp B N v)
  have f1 := ct_from (CQ_sub B (kp B N v)) hv
  have f2 := ct_to hT (CQ_sub B (kp B N v)) hv
  unfold wX6_childrenOf
  rintro _ rfl
  rw [nI_1]
  obtain ⟨K, hK⟩ : ∃ K : Nat → Nat, ∀ w, K w = fb_ct (CQ B (kp B N v)) (kp B N w) := ⟨_, fun _ => rfl⟩
  obtain ⟨I, hI⟩ : ∃ I : Int32 → Int32 → Prop, ∀ a i, I a i ↔ ∃ w, v + 1 ≤ w ∧ w ≤ v + sz B N v ∧ i = nI w ∧ K (v + 1) ≤ K w ∧ a = nI (K w - K (v + 1)) := ⟨_, fun _ _ => Iff.rfl⟩
  obtain ⟨mu, hmu⟩ : ∃ mu : Int32 → Int32 → Nat, ∀ a i, mu a i = v + sz B N v - i.toNatClampNeg := ⟨_, fun _ _ => rfl⟩
  refine ⟨I, mu, (hI _ _).mpr ⟨v + 1, Nat.le_refl _, by omega, rfl, Nat.le_refl _, by rw [Nat.sub_self]; rfl⟩, ?_⟩
  intro a i hIk
  obtain ⟨w, w1, w2, rfl, w3, rfl⟩ := (hI a i).mp hIk
  clear hIk
  refine m_sizeOf hS hT hv ?_
  rw [nI_add]
  refine pk_le (v + sz B N v) w (fun c => ?_) (fun c => ?_)
  · have e : w = v + sz B N v := by omega
    unfold cn at h
    rw [f1, f2, ← hK, ← hK, ← e] at h
    exact h
  · refine m_depthOf hS hN (by omega) ?_
    refine m_depthOf hS hN hv ?_
    have hbw := ex_b B (kp B N w)
    have hwle := kp_le B N w
    obtain ⟨p1, p2, p3⟩ := kp_spec (S := B) (N := N) (k := w) (by omega)
    have hstep := ct_node (S := B) (Q := CQ B (kp B N v)) (N := N) (k := w) (by omega) (CQ_sub B _)
    rw [← hK, ← hK] at hstep
    rw [iI_p1]
    refine q_ne (ex B (kp B N w)) (ex B (kp B N v) + 1) (fun c2 => ?_) (fun c2 => ?_)
    · rintro _ rfl _ rfl
      rw [if_neg (by unfold CQ; rw [p2, decide_eq_false c2]; decide)] at hstep
      rw [nI_1, show (0 : Int32) = nI 0 from rfl, nI_add]
      refine ⟨(hI _ _).mpr ⟨w + 1, by omega, by omega, rfl, by omega, by congr 1; omega⟩, ?_⟩
      rw [hmu, hmu, nI_clamp (by omega), nI_clamp (by omega)]; omega
    · rintro _ rfl _ rfl
      rw [if_pos (by unfold CQ; rw [p2, decide_eq_true c2]; decide)] at hstep
      rw [nI_1, nI_1]
      refine ⟨(hI _ _).mpr ⟨w + 1, by omega, by omega, rfl, by omega, by congr 1; omega⟩, ?_⟩
      rw [hmu, hmu, nI_clamp (by omega), nI_clamp (by omega)]; omega
theorem m_childOf {st : Nat → Int32} {B : Nat → Bool} {N v i : Nat} (hS : MB st B N) (hT : Tr B N) (hv : v < fb_ct B N) (hi : i < 2147483648) {post : Int32 → Prop} (h1 : i < cn B N (kp B N v) → post (nI (fb_ct B (eg B N (kp B N v) i)))) (h0 : cn B N (kp B N v) ≤ i → post (-4)) : wX6_childOf st (nI v) (nI i) post := by
  have hN := hT.1
  have hcN := fb_ct_le B N
  obtain ⟨o1, o2, o3⟩ := kp_spec hv
  obtain ⟨z1, z2, z3, z4⟩ := sz_eq hT hv
  have hb0 := ex_b B (kp B N v)
  have f1 := ct_from (CQ_sub B (kp B N v)) hv
  have f2 := ct_to hT (CQ_sub B (kp B N v)) hv
  unfold wX6_childOf
  rintro _ rfl
  rw [nI_1]
  obtain ⟨K, hK⟩ : ∃ K : Nat → Nat, ∀ w, K w = fb_ct (CQ B (kp B N v)) (kp B N w) := ⟨_, fun _ => rfl⟩
  have hcn : cn B N (kp B N v) = K (v + sz B N v) - K (v + 1) := by unfold cn; rw [f1, f2, hK, hK]
  obtain ⟨I, hI⟩ : ∃ I : Int32 → Int32 → Prop, ∀ a x, I a x ↔ ∃ w, v + 1 ≤ w ∧ w ≤ v + sz B N v ∧ x = nI w ∧ K (v + 1) ≤ K w ∧ K w - K (v + 1) ≤ i ∧ a = nI (i - (K w - K (v + 1))) := ⟨_, fun _ _ => Iff.rfl⟩
  obtain ⟨mu, hmu⟩ : ∃ mu : Int32 → Int32 → Nat, ∀ a i, mu a i = v + sz B N v - i.toNatClampNeg := ⟨_, fun _ _ => rfl⟩
  refine ⟨I, mu, (hI _ _).mpr ⟨v + 1, Nat.le_refl _, by omega, rfl, Nat.le_refl _, by omega, by rw [Nat.sub_self]; rfl⟩, ?_⟩
  intro a x hIk
  obtain ⟨w, w1, w2, rfl, w3, w4, rfl⟩ := (hI a x).mp hIk
  clear hIk
  refine m_sizeOf hS hT hv ?_
  rw [nI_add]
  refine pk_le (v + sz B N v) w (fun c => ?_) (fun c => ?_)
  · have e : w = v + sz B N v := by omega
    refine h0 ?_
    rw [hcn, ← e]; omega
  · refine m_depthOf hS hN (by omega) ?_
    refine m_depthOf hS hN hv ?_
    have hbw := ex_b B (kp B N w)
    have hwle := kp_le B N w
    obtain ⟨p1, p2, p3⟩ := kp_spec (S := B) (N := N) (k := w) (by omega)
    have hstep := ct_node (S := B) (Q := CQ B (kp B N v)) (N := N) (k := w) (by omega) (CQ_sub B _)
    rw [← hK, ← hK] at hstep
    rw [iI_p1]
    refine q_ne (ex B (kp B N w)) (ex B (kp B N v) + 1) (fun c2 => ?_) (fun c2 => ?_)
    · rintro _ rfl
      rw [if_neg (by unfold CQ; rw [p2, decide_eq_false c2]; decide)] at hstep
      rw [nI_1]
      refine ⟨(hI _ _).mpr ⟨w + 1, by omega, by omega, rfl, by omega, by omega, by congr 1; omega⟩, ?_⟩
      rw [hmu, hmu, nI_clamp (by omega), nI_clamp (by omega)]; omega
    · have hq : CQ B (kp B N v) (kp B N w) = true := by unfold CQ; rw [p2, decide_eq_true c2]; decide
      rw [if_pos hq] at hstep
      refine pk_ne (i - (K w - K (v + 1))) 0 (fun c3 => ?_) (fun c3 => ?_)
      · rintro _ rfl _ rfl
        rw [nI_1, show nI (i - (K w - K (v + 1))) = nI (i - (K w - K (v + 1)) - 1 + 1) from by congr 1; omega, pk_m1]
        refine ⟨(hI _ _).mpr ⟨w + 1, by omega, by omega, rfl, by omega, by omega, by congr 1; omega⟩, ?_⟩
        rw [hmu, hmu, nI_clamp (by omega), nI_clamp (by omega)]; omega
      · have hlt : K w < K (v + sz B N v) := by
          have hm : kp B N w + 1 ≤ kp B N (v + sz B N v) := kp_lt (S := B) (N := N) c z3
          have := fb_ct_mono (CQ B (kp B N v)) hm
          rw [fb_ct_succ, if_pos hq, ← hK, ← hK] at this
          omega
        have hic : i < cn B N (kp B N v) := by rw [hcn]; omega
        have he : eg B N (kp B N v) i = kp B N w := by
          unfold eg
          rw [if_pos hic]
          refine kp_eq p1 hq ?_
          rw [f1, ← hK, ← hK]
          omega
        have := h1 hic
        rw [he, p3] at this
        exact this
