/-! the reference's order among children, leaves, the deepest, the meeting -/
noncomputable def od (B : Nat → Bool) (q' q : Nat) : Nat := fb_ct (CQ B q') q - fb_ct (CQ B q') (q' + 1)
theorem AN.lt {B : Nat → Bool} {q q' k : Nat} (h : AN B q (k + 1) q') : q' < q := by
  rcases Nat.eq_or_lt_of_le h.1 with e | e
  · have := h.2.1; rw [e] at this; omega
  · exact e
theorem AN.cq {B : Nat → Bool} {q q' : Nat} (h : AN B q 1 q') (hB : B q = true) : CQ B q' q = true := by
  unfold CQ
  rw [hB, decide_eq_true (by have := h.2.1; omega)]; rfl
theorem eg_od {B : Nat → Bool} {N q q' : Nat} (hT : Tr B N) (hq : q < N) (hB : B q = true) (h : AN B q 1 q') : od B q' q < cn B N q' ∧ eg B N q' (od B q' q) = q := by
  have hlt := h.lt
  have hcq := h.cq hB
  have hin := h.in hT hq hB
  have hs := sh_spec hT hq hB
  have h1 := fb_ct_mono (CQ B q') (show q' + 1 ≤ q from hlt)
  have h2 := fb_ct_mono (CQ B q') (show q + 1 ≤ sh B N q' by omega)
  rw [fb_ct_succ _ q, if_pos hcq] at h2
  have hc : od B q' q < cn B N q' := by unfold od cn; omega
  refine ⟨hc, ?_⟩
  unfold eg
  rw [if_pos hc]
  exact kp_eq hq hcq (by unfold od; omega)
theorem m_whichOf {st : Nat → Int32} {B : Nat → Bool} {N v : Nat} (hS : MB st B N) (hT : Tr B N) (hv : v < fb_ct B N) {post : Int32 → Prop} (h1 : ∀ q', AN B (kp B N v) 1 q' → post (nI (od B q' (kp B N v)))) (h0 : ex B (kp B N v) < 1 → post 0) : wX6_whichOf st (nI v) post := by
  have hN := hT.1
  have hcN := fb_ct_le B N
  obtain ⟨o1, o2, o3⟩ := kp_spec hv
  have hb0 := ex_b B (kp B N v)
  unfold wX6_whichOf
  refine m_upFrom (k := 1) hS hT hv (by omega) (fun q' hq' => ?_) (fun hz => ?_)
  · refine m_depthOf hS hN hv ?_
    rintro _ rfl
    rw [nI_1]
    have q'lt := hq'.lt
    have q'B := hq'.opn o2
    obtain ⟨k1, k2⟩ := kp_ct' (show q' < N by omega) q'B
    obtain ⟨u, hu⟩ : ∃ u, u = fb_ct B q' := ⟨_, rfl⟩
    rw [← hu] at k1 k2 ⊢
    have huv : u < v := by
      have := fb_ct_mono B (show q' + 1 ≤ kp B N v from q'lt)
      rw [fb_ct_succ, if_pos q'B, o3] at this
      omega
    have f1 := ct_from (CQ_sub B q') k2
    rw [k1] at f1
    obtain ⟨K, hK⟩ : ∃ K : Nat → Nat, ∀ w, K w = fb_ct (CQ B q') (kp B N w) := ⟨_, fun _ => rfl⟩
    obtain ⟨I, hI⟩ : ∃ I : Int32 → Int32 → Prop, ∀ a i, I a i ↔ ∃ w, u + 1 ≤ w ∧ w ≤ v ∧ i = nI w ∧ K (u + 1) ≤ K w ∧ a = nI (K w - K (u + 1)) := ⟨_, fun _ _ => Iff.rfl⟩
    obtain ⟨mu, hmu⟩ : ∃ mu : Int32 → Int32 → Nat, ∀ a i, mu a i = v - i.toNatClampNeg := ⟨_, fun _ _ => rfl⟩
    refine ⟨I, mu, (hI _ _).mpr ⟨u + 1, Nat.le_refl _, by omega, rfl, Nat.le_refl _, by rw [Nat.sub_self]; rfl⟩, ?_⟩
    intro a i hIk
    obtain ⟨w, w1, w2, rfl, w3, rfl⟩ := (hI a i).mp hIk
    clear hIk
    refine ⟨fun z => absurd z (m4_ne (by omega)), fun _ => ?_⟩
    refine pk_le v w (fun c => ?_) (fun c => ?_)
    · have e : w = v := by omega
      have := h1 q' hq'
      unfold od at this
      rw [f1, ← hK, ← hK, ← e] at this
      exact this
    · refine m_depthOf hS hN (by omega) ?_
      have hbw := ex_b B (kp B N w)
      have hwle := kp_le B N w
      obtain ⟨p1, p2, p3⟩ := kp_spec (S := B) (N := N) (k := w) (by omega)
      have hstep := ct_node (S := B) (Q := CQ B q') (N := N) (k := w) (by omega) (CQ_sub B _)
      rw [← hK, ← hK] at hstep
      have hd := hq'.2.1
      refine q_ne (ex B (kp B N w)) (ex B (kp B N v)) (fun c2 => ?_) (fun c2 => ?_)
      · rintro _ rfl _ rfl
        rw [if_neg (by unfold CQ; rw [p2, decide_eq_false (by omega)]; decide)] at hstep
        rw [nI_1, show (0 : Int32) = nI 0 from rfl, nI_add]
        refine ⟨(hI _ _).mpr ⟨w + 1, by omega, by omega, rfl, by omega, by congr 1; omega⟩, ?_⟩
        rw [hmu, hmu, nI_clamp (by omega), nI_clamp (by omega)]; omega
      · rintro _ rfl _ rfl
        rw [if_pos (by unfold CQ; rw [p2, decide_eq_true (by omega)]; decide)] at hstep
        rw [nI_1, nI_1]
        refine ⟨(hI _ _).mpr ⟨w + 1, by omega, by omega, rfl, by omega, by congr 1; omega⟩, ?_⟩
        rw [hmu, hmu, nI_clamp (by omega), nI_clamp (by omega)]; omega
  · refine m_depthOf hS hN hv ?_
    rintro _ rfl
    refine ⟨fun a _ => a = 0, fun _ _ => 0, rfl, ?_⟩
    rintro _ _ rfl
    exact ⟨fun _ => h0 hz, fun z => absurd rfl z⟩
theorem m_next {st : Nat → Int32} {B : Nat → Bool} {N v : Nat} (hS : MB st B N) (hT : Tr B N) (hv : v < fb_ct B N) {post : Int32 → Prop} (h1 : ∀ q', AN B (kp B N v) 1 q' → od B q' (kp B N v) + 1 < cn B N q' → post (nI (fb_ct B (eg B N q' (od B q' (kp B N v) + 1))))) (h2 : ∀ q', AN B (kp B N v) 1 q' → cn B N q' ≤ od B q' (kp B N v) + 1 → post (-4)) (h0 : ex B (kp B N v) < 1 → post (-4)) : wX6_nextOf st (nI v) 1 post := by
  have hN := hT.1
  have hcN := fb_ct_le B N
  obtain ⟨o1, o2, o3⟩ := kp_spec hv
  unfold wX6_nextOf
  refine m_upFrom (k := 1) hS hT hv (by omega) (fun q' hq' => ?_) (fun hz => ?_)
  · refine m_whichOf hS hT hv (fun q2 hq2 => ?_) (fun hz => ?_)
    · have e := hq2.one hq'
      subst e
      have q'lt := hq'.lt
      have q'B := hq'.opn o2
      obtain ⟨k1, k2⟩ := kp_ct' (show q2 < N by omega) q'B
      have hod : od B q2 (kp B N v) < 2147483647 := by
        unfold od
        have := fb_ct_le (CQ B q2) (kp B N v)
        omega
      rintro _ rfl
      rw [nI_1]
      refine ⟨fun z => absurd z (m4_ne (by omega)), fun _ => ⟨fun _ => ?_, fun z => absurd (nI_pos' (by omega)) z⟩⟩
      refine m_childOf hS hT k2 (by omega) (fun c => ?_) (fun c => ?_)
      · rw [k1] at c ⊢; exact h1 q2 hq2 c
      · rw [k1] at c; exact h2 q2 hq2 c
    · have := hq'.2.1
      have := hT.nn (show q' ≤ N by have := hq'.1; omega)
      omega
  · refine m_whichOf hS hT hv (fun q2 hq2 => ?_) (fun hz => ?_)
    · have := hq2.2.1
      have := hT.nn (show q2 ≤ N by have := hq2.1; omega)
      omega
    · rintro _ rfl
      exact ⟨fun _ => h0 hz, fun z => absurd rfl z⟩
theorem m_prev {st : Nat → Int32} {B : Nat → Bool} {N v : Nat} (hS : MB st B N) (hT : Tr B N) (hv : v < fb_ct B N) {post : Int32 → Prop} (h1 : ∀ q' j, AN B (kp B N v) 1 q' → od B q' (kp B N v) = j + 1 → post (nI (fb_ct B (eg B N q' j)))) (h2 : ∀ q', AN B (kp B N v) 1 q' → od B q' (kp B N v) = 0 → post (-4)) (h0 : ex B (kp B N v) < 1 → post (-4)) : wX6_nextOf st (nI v) (-1) post := by
  have hN := hT.1
  have hcN := fb_ct_le B N
  obtain ⟨o1, o2, o3⟩ := kp_spec hv
  unfold wX6_nextOf
  refine m_upFrom (k := 1) hS hT hv (by omega) (fun q' hq' => ?_) (fun hz => ?_)
  · refine m_whichOf hS hT hv (fun q2 hq2 => ?_) (fun hz => ?_)
    · have e := hq2.one hq'
      subst e
      have q'lt := hq'.lt
      have q'B := hq'.opn o2
      obtain ⟨k1, k2⟩ := kp_ct' (show q2 < N by omega) q'B
      have hod : od B q2 (kp B N v) < 2147483647 := by
        unfold od
        have := fb_ct_le (CQ B q2) (kp B N v)
        omega
      have hoc := eg_od hT o1 o2 hq2
      rintro _ rfl
      refine ⟨fun z => absurd z (m4_ne (by omega)), fun _ => ?_⟩
      rcases Nat.eq_zero_or_pos (od B q2 (kp B N v)) with z | z
      · rw [z]
        exact ⟨fun w => absurd w (by decide), fun _ => h2 q2 hq2 z⟩
      · obtain ⟨j, hj⟩ : ∃ j, od B q2 (kp B N v) = j + 1 := ⟨od B q2 (kp B N v) - 1, by omega⟩
        rw [hj, pk_m1]
        refine ⟨fun _ => ?_, fun z => absurd (nI_pos' (by omega)) z⟩
        refine m_childOf hS hT k2 (by omega) (fun c => ?_) (fun c => ?_)
        · rw [k1]; exact h1 q2 j hq2 hj
        · rw [k1] at c; omega
    · have := hq'.2.1
      have := hT.nn (show q' ≤ N by have := hq'.1; omega)
      omega
  · refine m_whichOf hS hT hv (fun q2 hq2 => ?_) (fun hz => ?_)
    · have := hq2.2.1
      have := hT.nn (show q2 ≤ N by have := hq2.1; omega)
      omega
    · rintro _ rfl
      exact ⟨fun _ => h0 hz, fun z => absurd rfl z⟩
theorem SG2_sub (B : Nat → Bool) (N : Nat) : ∀ j, SG B N 2 j = true → B j = true := fun j h => by
  rw [SG2] at h
  cases hb : B j with
  | true => rfl
  | false => rw [hb] at h; cases h
theorem sz_one {B : Nat → Bool} {N w : Nat} (hT : Tr B N) (hw : w < fb_ct B N) : sz B N w = 1 ↔ SG B N 2 (kp B N w) = true := by
  obtain ⟨o1, o2, o3⟩ := kp_spec hw
  obtain ⟨z1, z2, z3, z4⟩ := sz_eq hT hw
  have hs := sh_spec hT o1 o2
  rw [SG2, o2]
  constructor
  · intro h
    have e : sh B N (kp B N w) = kp B N w + 1 := by omega
    have := sh_false hT o1 o2
    rw [e] at this
    rw [this]; rfl
  · intro h
    have hb : B (kp B N w + 1) = false := by
      cases hb : B (kp B N w + 1) with
      | false => rfl
      | true => rw [hb] at h; cases h
    have e1 := ex_t o2
    have e2 := ex_f hb
    have e : sh B N (kp B N w) = kp B N w + 1 := sh_eq (by omega) (by omega) (by omega) (fun k k1 k2 => by rw [show k = kp B N w + 1 by omega]; omega)
    omega
theorem m_leavesOf {st : Nat → Int32} {B : Nat → Bool} {N v : Nat} (hS : MB st B N) (hT : Tr B N) (hv : v < fb_ct B N) {post : Int32 → Prop} (h : post (nI (fb_ct (SG B N 2) (sh B N (kp B N v)) - fb_ct (SG B N 2) (kp B N v)))) : wX6_leavesOf st (nI v) post := by
  have hN := hT.1
  have hcN := fb_ct_le B N
  obtain ⟨o1, o2, o3⟩ := kp_spec hv
  obtain ⟨z1, z2, z3, z4⟩ := sz_eq hT hv
  have f2 := ct_to hT (SG2_sub B N) hv
  unfold wX6_leavesOf
  obtain ⟨K, hK⟩ : ∃ K : Nat → Nat, ∀ w, K w = fb_ct (SG B N 2) (kp B N w) := ⟨_, fun _ => rfl⟩
  obtain ⟨I, hI⟩ : ∃ I : Int32 → Int32 → Prop, ∀ a i, I a i ↔ ∃ w, v ≤ w ∧ w ≤ v + sz B N v ∧ i = nI w ∧ K v ≤ K w ∧ a = nI (K w - K v) := ⟨_, fun _ _ => Iff.rfl⟩
  obtain ⟨mu, hmu⟩ : ∃ mu : Int32 → Int32 → Nat, ∀ a i, mu a i = v + sz B N v - i.toNatClampNeg := ⟨_, fun _ _ => rfl⟩
  refine ⟨I, mu, (hI _ _).mpr ⟨v, Nat.le_refl _, by omega, rfl, Nat.le_refl _, by rw [Nat.sub_self]; rfl⟩, ?_⟩
  intro a i hIk
  obtain ⟨w, w1, w2, rfl, w3, rfl⟩ := (hI a i).mp hIk
  clear hIk
  refine m_sizeOf hS hT hv ?_
  rw [nI_add]
  refine pk_le (v + sz B N v) w (fun c => ?_) (fun c => ?_)
  · have e : w = v + sz B N v := by omega
    rw [f2, ← hK, ← hK, ← e] at h
    exact h
  · refine m_sizeOf hS hT (by omega) ?_
    have hsz := sz_eq hT (show w < fb_ct B N by omega)
    have hstep := ct_node (S := B) (Q := SG B N 2) (N := N) (k := w) (by omega) (SG2_sub B N)
    rw [← hK, ← hK] at hstep
    have hone := sz_one hT (show w < fb_ct B N by omega)
    refine pk_ne (sz B N w) 1 (fun c2 => ?_) (fun c2 => ?_)
    · rintro _ rfl _ rfl
      rw [if_neg (fun z => c2 (hone.mpr z))] at hstep
      rw [nI_1, show (0 : Int32) = nI 0 from rfl, nI_add]
      refine ⟨(hI _ _).mpr ⟨w + 1, by omega, by omega, rfl, by omega, by congr 1; omega⟩, ?_⟩
      rw [hmu, hmu, nI_clamp (by omega), nI_clamp (by omega)]; omega
    · rintro _ rfl _ rfl
      rw [if_pos (hone.mp c2)] at hstep
      rw [nI_1, nI_1]
      refine ⟨(hI _ _).mpr ⟨w + 1, by omega, by omega, rfl, by omega, by congr 1; omega⟩, ?_⟩
      rw [hmu, hmu, nI_clamp (by omega), nI_clamp (by omega)]; omega
def IsDp (B : Nat → Bool) (N v e w : Nat) : Prop := v ≤ w ∧ (∀ u, v ≤ u → u < e → ex B (kp B N u) ≤ ex B (kp B N w)) ∧ ∀ u, v ≤ u → u < w → ex B (kp B N u) < ex B (kp B N w)
theorem m_deepestOf {st : Nat → Int32} {B : Nat → Bool} {N v : Nat} (hS : MB st B N) (hT : Tr B N) (hv : v < fb_ct B N) {post : Int32 → Prop} (h : ∀ w, w < v + sz B N v → IsDp B N v (v + sz B N v) w → post (nI w)) : wX6_deepestOf st (nI v) post := by
  have hN := hT.1
  have hcN := fb_ct_le B N
  obtain ⟨z1, z2, z3, z4⟩ := sz_eq hT hv
  unfold wX6_deepestOf
  obtain ⟨I, hI⟩ : ∃ I : Int32 → Int32 → Prop, ∀ a i, I a i ↔ ∃ b w, v ≤ w ∧ w ≤ v + sz B N v ∧ i = nI w ∧ b < v + sz B N v ∧ IsDp B N v w b ∧ a = nI b := ⟨_, fun _ _ => Iff.rfl⟩
  obtain ⟨mu, hmu⟩ : ∃ mu : Int32 → Int32 → Nat, ∀ a i, mu a i = v + sz B N v - i.toNatClampNeg := ⟨_, fun _ _ => rfl⟩
  refine ⟨I, mu, (hI _ _).mpr ⟨v, v, Nat.le_refl _, by omega, rfl, by omega, ⟨Nat.le_refl _, fun u u1 u2 => by omega, fun u u1 u2 => by omega⟩, rfl⟩, ?_⟩
  intro a i hIk
  obtain ⟨b, w, w1, w2, rfl, w3, ⟨w4, w5, w6⟩, rfl⟩ := (hI a i).mp hIk
  clear hIk
  refine m_sizeOf hS hT hv ?_
  rw [nI_add]
  refine pk_le (v + sz B N v) w (fun c => ?_) (fun c => ?_)
  · have e : w = v + sz B N v := by omega
    rw [e] at w5
    exact h b w3 ⟨w4, w5, w6⟩
  · refine m_depthOf hS hN (by omega) ?_
    refine m_depthOf hS hN (by omega) ?_
    have hbw := ex_b B (kp B N w)
    have hwle := kp_le B N w
    have hbb := ex_b B (kp B N b)
    have hble := kp_le B N b
    refine q_le (ex B (kp B N w)) (ex B (kp B N b)) (fun c2 => ?_) (fun c2 => ?_)
    · rintro _ rfl
      rw [nI_1]
      refine ⟨(hI _ _).mpr ⟨b, w + 1, by omega, by omega, rfl, w3, ⟨w4, fun u u1 u2 => ?_, w6⟩, rfl⟩, ?_⟩
      · rcases Nat.eq_or_lt_of_le (Nat.lt_succ_iff.mp u2) with e | e
        · rw [e]; exact c2
        · exact w5 u u1 e
      · rw [hmu, hmu, nI_clamp (by omega), nI_clamp (by omega)]; omega
    · rintro _ rfl
      rw [nI_1]
      refine ⟨(hI _ _).mpr ⟨w, w + 1, by omega, by omega, rfl, c, ⟨w1, fun u u1 u2 => ?_, fun u u1 u2 => ?_⟩, rfl⟩, ?_⟩
      · rcases Nat.eq_or_lt_of_le (Nat.lt_succ_iff.mp u2) with e | e
        · rw [e]; exact Int.le_refl _
        · have := w5 u u1 e; omega
      · have := w5 u u1 u2; omega
      · rw [hmu, hmu, nI_clamp (by omega), nI_clamp (by omega)]; omega
theorem m_fromBelow {st : Nat → Int32} {B : Nat → Bool} {N v : Nat} (hS : MB st B N) (hT : Tr B N) (hv : v < fb_ct B N) {post : Int32 → Prop} (h : post (nI (sh B N (kp B N v) - fb_ct B (sh B N (kp B N v))))) : wX6_fromBelow st (nI v) post := by
  have hN := hT.1
  obtain ⟨o1, o2, o3⟩ := kp_spec hv
  have hs := sh_spec hT o1 o2
  unfold wX6_fromBelow
  refine m_openOf hS hN hv ?_
  refine m_shutOf hS hT o1 o2 ?_
  refine m_opensAt hS (by omega) hN ?_
  rw [pk_sub (fb_ct_le _ _)]
  exact h
theorem m_isAbove {st : Nat → Int32} {B : Nat → Bool} {N u v : Nat} (hS : MB st B N) (hT : Tr B N) (hu : u < fb_ct B N) (hv : v < fb_ct B N) {post : Int32 → Prop} (h1 : u ≤ v → v < u + sz B N u → post 1) (h0 : ¬ (u ≤ v ∧ v < u + sz B N u) → post 0) : wX6_isAbove st (nI u) (nI v) post := by
  have hN := hT.1
  have hcN := fb_ct_le B N
  obtain ⟨z1, z2, z3, z4⟩ := sz_eq hT hu
  unfold wX6_isAbove
  refine pk_lt v u (fun c => h0 (by omega)) (fun c => ?_)
  refine m_sizeOf hS hT hu ?_
  rw [nI_add]
  exact pk_le (u + sz B N u) v (fun c2 => h0 (by omega)) (fun c2 => h1 c c2)
theorem IN_iff {B : Nat → Bool} {N a b : Nat} (hT : Tr B N) (ha : a < fb_ct B N) (hb : b < fb_ct B N) : (a ≤ b ∧ b < a + sz B N a) ↔ kp B N a ≤ kp B N b ∧ kp B N b < sh B N (kp B N a) := by
  obtain ⟨o1, o2, o3⟩ := kp_spec ha
  obtain ⟨p1, p2, p3⟩ := kp_spec hb
  obtain ⟨z1, z2, z3, z4⟩ := sz_eq hT ha
  have hf := sh_false hT o1 o2
  constructor
  · rintro ⟨h1, h2⟩
    refine ⟨?_, ?_⟩
    · rcases Nat.eq_or_lt_of_le h1 with e | e
      · rw [e]; exact Nat.le_refl _
      · exact Nat.le_of_lt (kp_lt e (Nat.le_of_lt hb))
    · rcases Nat.lt_trichotomy (kp B N b) (sh B N (kp B N a)) with z | z | z
      · exact z
      · rw [z, hf] at p2; cases p2
      · have := fb_ct_mono B (show sh B N (kp B N a) + 1 ≤ kp B N b from z); omega
  · rintro ⟨h1, h2⟩
    have h3 := fb_ct_mono B h1
    have h4 := fb_ct_mono B (show kp B N b + 1 ≤ sh B N (kp B N a) + 1 by omega)
    rw [fb_ct_succ _ (kp B N b), if_pos p2] at h4
    omega
/-- z is where the nodes at a and b, a ahead of b, meet -/
def IsMt (B : Nat → Bool) (a b z : Nat) : Prop := z ≤ a ∧ (∀ k, z < k → k ≤ b → ex B z < ex B k) ∧ ∃ k, a < k ∧ k ≤ b + 1 ∧ ex B k = ex B z + 1
theorem IsMt_ex {B : Nat → Bool} {N a b : Nat} (hT : Tr B N) (hab : a ≤ b) (hb : b < N) (hB : B b = true) : ∃ z, IsMt B a b z := by
  have hs := sh_spec hT hb hB
  obtain ⟨i, i1, i2, _⟩ := fb_low (fun k => ex B (a + 1 + k)) (n := b - a + 1) (by omega)
  have i2 : ∀ j, j < b - a + 1 → ex B (a + 1 + i) ≤ ex B (a + 1 + j) := i2
  have hp := hT.2.2 (a + 1 + i) (by omega) (by omega)
  have h0 := i2 0 (by omega)
  obtain ⟨z, z1, z2, z3, z4⟩ := ex_up (B := B) (a := 0) (b := a + 1) (d := ex B (a + 1 + i) - 1) (Nat.zero_le _) (by rw [ex_0]; omega) (by rw [Nat.add_zero] at h0; omega)
  rw [Nat.add_zero] at h0
  have hz : z ≤ a := by
    rcases Nat.eq_or_lt_of_le z2 with e | e
    · rw [e] at z3; omega
    · omega
  refine ⟨z, hz, fun k k1 k2 => ?_, a + 1 + i, by omega, by omega, by omega⟩
  rcases Nat.lt_or_ge k (a + 1) with w | w
  · rcases z4 k k1 (by omega) with y | y
    · omega
    · exact y.elim
  · have := i2 (k - (a + 1)) (by omega)
    rw [show a + 1 + (k - (a + 1)) = k by omega] at this
    omega
theorem m_meetOf {st : Nat → Int32} {B : Nat → Bool} {N u v z : Nat} (hS : MB st B N) (hT : Tr B N) (hu : u < fb_ct B N) (hv : v < fb_ct B N) (hz : IsMt B (min (kp B N u) (kp B N v)) (max (kp B N u) (kp B N v)) z) {post : Int32 → Prop} (h : post (nI (fb_ct B z))) : wX6_meetOf st (nI u) (nI v) post := by
  have hN := hT.1
  have hcN := fb_ct_le B N
  obtain ⟨o1, o2, o3⟩ := kp_spec hu
  obtain ⟨p1, p2, p3⟩ := kp_spec hv
  obtain ⟨y1, y2, k0, y3, y4, y5⟩ := hz
  have hzB : B z = true := by
    rcases Nat.lt_or_ge z (max (kp B N u) (kp B N v)) with w | w
    · have h1 := y2 (z + 1) (by omega) (by omega)
      cases hb : B z with
      | true => rfl
      | false => have := ex_f hb; omega
    · rw [show z = kp B N u by omega]; exact o2
  have hzN : z < N := by omega
  obtain ⟨c1, c2⟩ := kp_ct' hzN hzB
  unfold wX6_meetOf
  refine ⟨fun x => ∃ q, x = nI (fb_ct B q) ∧ z ≤ q ∧ q ≤ kp B N u ∧ B q = true ∧ ∀ k, q < k → k ≤ kp B N u → ex B q < ex B k, fun x => x.toNatClampNeg, ⟨kp B N u, by rw [o3], by omega, Nat.le_refl _, o2, fun k k1 k2 => by omega⟩, ?_⟩
  rintro x ⟨q, rfl, q1, q2, q3, q4⟩
  obtain ⟨d1, d2⟩ := kp_ct' (show q < N by omega) q3
  refine m_isAbove hS hT d2 hv (fun a1 a2 => ?_) (fun a => ?_)
  · obtain ⟨b1, b2⟩ := (IN_iff hT d2 hv).mp ⟨a1, a2⟩
    rw [d1] at b1 b2
    have hq := sh_spec hT (show q < N by omega) q3
    have e : q = z := by
      rcases Nat.eq_or_lt_of_le q1 with w | w
      · exact w.symm
      · have g1 := y2 q w (by omega)
        have g2 : ex B q < ex B k0 := by
          rcases Nat.lt_or_ge (max (kp B N u) (kp B N v)) k0 with w2 | w2
          · have ek : k0 = max (kp B N u) (kp B N v) + 1 := by omega
            have hm : B (max (kp B N u) (kp B N v)) = true := by
              rcases Nat.le_total (kp B N u) (kp B N v) with w3 | w3
              · rw [Nat.max_eq_right w3]; exact p2
              · rw [Nat.max_eq_left w3]; exact o2
            rw [ek, ex_t hm]
            rcases Nat.lt_or_ge q (max (kp B N u) (kp B N v)) with w4 | w4
            · rcases Nat.le_total (kp B N u) (kp B N v) with w3 | w3
              · rw [Nat.max_eq_right w3] at w4 ⊢
                have := hq.2.2.2 _ w4 (by omega); omega
              · rw [Nat.max_eq_left w3] at w4 ⊢
                have := q4 _ w4 (by omega); omega
            · rw [show max (kp B N u) (kp B N v) = q by omega]; omega
          · rcases Nat.le_total (kp B N u) (kp B N v) with w3 | w3
            · exact hq.2.2.2 _ (by omega) (by omega)
            · exact q4 _ (by omega) (by omega)
        omega
    refine ⟨fun _ => by rw [e]; exact h, fun w => absurd w (by decide)⟩
  · have hne : z < q := by
      rcases Nat.eq_or_lt_of_le q1 with w | w
      · refine absurd ?_ a
        refine (IN_iff hT d2 hv).mpr ?_
        rw [d1, ← w]
        refine ⟨by omega, ?_⟩
        have hs := sh_spec hT hzN hzB
        rcases Nat.lt_or_ge (kp B N v) (sh B N z) with w2 | w2
        · exact w2
        · have hf := sh_false hT hzN hzB
          rcases Nat.eq_or_lt_of_le w2 with w3 | w3
          · rw [w3, p2] at hf; cases hf
          · have := y2 (sh B N z + 1) (by omega) (by omega); omega
      · exact w
    have g1 := y2 q hne (by omega)
    have g0 := hT.nn (show z ≤ N by omega)
    refine ⟨fun w => absurd rfl w, fun _ => ?_⟩
    refine m_upFrom (k := 1) hS hT d2 (by omega) (fun q' hq' => ?_) (fun w => ?_)
    · rw [d1] at hq'
      have l1 := hq'.lt
      have l2 := hq'.2.1
      refine ⟨⟨q', rfl, ?_, by omega, hq'.opn q3, fun k k1 k2 => ?_⟩, ?_⟩
      · rcases Nat.lt_or_ge q' z with w | w
        · have := hq'.2.2 z w (by omega); omega
        · exact w
      · rcases Nat.lt_or_ge q k with w | w
        · have := q4 k w k2; omega
        · exact hq'.2.2 k k1 w
      · have := fb_ct_mono B (show q' + 1 ≤ q from l1)
        rw [fb_ct_succ, if_pos (hq'.opn q3)] at this
        dsimp only
        rw [nI_clamp (by omega), nI_clamp (by omega)]
        omega
    · rw [d1] at w; omega
