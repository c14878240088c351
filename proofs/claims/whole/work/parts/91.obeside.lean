/-! beside, below, weights: both sides -/
theorem m_besideOn {st : Nat → Int32} {B : Nat → Bool} {N v : Nat} (hS : MB st B N) (h192 : st 192 = nI (fb_ct B N)) (hT : Tr B N) (hv : v < fb_ct B N) {post : Int32 → Prop} (h : ∀ r, FI B N (ex B (kp B N v)) (v + 1) (fb_ct B N) r → post r) : wX6_beside st (nI v) 0 post := by
  have hN := hT.1
  have h2 := hT.two
  unfold wX6_beside
  refine m_node1 h192 (by omega) hv (t1a ?_)
  refine m_in_y (by decide) (by decide) (t1b (t0b ?_))
  rintro _ rfl
  rw [nI_1]
  refine ⟨fun x => ∃ u, x = nI u ∧ v + 1 ≤ u ∧ u ≤ fb_ct B N ∧ ∀ k, v + 1 ≤ k → k < u → ex B (kp B N k) ≠ ex B (kp B N v), fun x => fb_ct B N - x.toNatClampNeg, ⟨v + 1, rfl, Nat.le_refl _, hv, fun k k1 k2 => by omega⟩, ?_⟩
  rintro x ⟨u, rfl, u1, u2, u3⟩
  rcases Nat.lt_or_ge u (fb_ct B N) with c | c
  · refine m_node1 h192 (by omega) c (t1a ?_)
    refine m_depthOf hS hN c (m_depthOf hS hN hv ?_)
    have b1 := ex_b B (kp B N u)
    have b2 := ex_b B (kp B N v)
    have l1 := kp_le B N u
    have l2 := kp_le B N v
    refine q_eq (ex B (kp B N u)) (ex B (kp B N v)) (fun e => ?_) (fun e => ?_)
    · exact m_node1 h192 (by omega) c (t1a (h _ (Or.inl ⟨u, u1, c, e, u3, rfl⟩)))
    · rintro _ rfl
      rw [nI_1]
      refine ⟨⟨u + 1, rfl, by omega, c, fun k k1 k2 => ?_⟩, ?_⟩
      · rcases Nat.eq_or_lt_of_le (Nat.lt_succ_iff.mp k2) with y | y
        · rw [y]; exact e
        · exact u3 k k1 y
      · dsimp only; rw [nI_clamp (by omega), nI_clamp (by omega)]; omega
  · have hn : (nI u).toInt < 0 ∨ (fb_ct B N : Int) ≤ (nI u).toInt := by rw [nI_toInt (by omega)]; omega
    exact m_node_n h192 (by omega) hn (t0a (m_node_n h192 (by omega) hn (t0a (h _ (Or.inr ⟨fun k k1 k2 => u3 k k1 (by omega), rfl⟩)))))
theorem m_besideBack {st : Nat → Int32} {B : Nat → Bool} {N v : Nat} (hS : MB st B N) (h192 : st 192 = nI (fb_ct B N)) (hT : Tr B N) (hv : v < fb_ct B N) {post : Int32 → Prop} (h : ∀ r, LA B N (ex B (kp B N v)) v r → post r) : wX6_beside st (nI v) 1 post := by
  have hN := hT.1
  have h2 := hT.two
  unfold wX6_beside
  refine m_node1 h192 (by omega) hv (t1a ?_)
  refine m_in_y (by decide) (by decide) (t1b (t1b ?_))
  rintro _ rfl
  rw [nI_iI, iI_m1]
  refine ⟨fun x => ∃ u : Nat, x = iI ((u : Int) - 1) ∧ u ≤ v ∧ ∀ k, u ≤ k → k < v → ex B (kp B N k) ≠ ex B (kp B N v), fun x => (x.toInt + 1).toNat, ⟨v, rfl, Nat.le_refl _, fun k k1 k2 => by omega⟩, ?_⟩
  rintro x ⟨u, rfl, u1, u2⟩
  rcases Nat.eq_zero_or_pos u with c | c
  · have hn : (iI ((u : Int) - 1)).toInt < 0 ∨ (fb_ct B N : Int) ≤ (iI ((u : Int) - 1)).toInt := by rw [iI_toInt (by omega) (by omega)]; omega
    exact m_node_n h192 (by omega) hn (t0a (m_node_n h192 (by omega) hn (t0a (h _ (Or.inr ⟨fun k k2 => u2 k (by omega) k2, rfl⟩)))))
  · obtain ⟨j, rfl⟩ : ∃ j, u = j + 1 := ⟨u - 1, by omega⟩
    rw [show ((j + 1 : Nat) : Int) - 1 = (j : Int) by omega, ← nI_iI, ← nI_iI]
    refine m_node1 h192 (by omega) (by omega) (t1a ?_)
    refine m_depthOf hS hN (by omega) (m_depthOf hS hN hv ?_)
    have b1 := ex_b B (kp B N j)
    have b2 := ex_b B (kp B N v)
    have l1 := kp_le B N j
    have l2 := kp_le B N v
    refine q_eq (ex B (kp B N j)) (ex B (kp B N v)) (fun e => ?_) (fun e => ?_)
    · exact m_node1 h192 (by omega) (by omega) (t1a (h _ (Or.inl ⟨j, by omega, e, fun k k1 k2 => u2 k (by omega) k2, rfl⟩)))
    · rintro _ rfl
      rw [nI_iI, iI_m1]
      refine ⟨⟨j, rfl, by omega, fun k k1 k2 => ?_⟩, ?_⟩
      · rcases Nat.eq_or_lt_of_le k1 with y | y
        · rw [← y]; exact e
        · exact u2 k (by omega) k2
      · dsimp only; rw [iI_toInt (by omega) (by omega), iI_toInt (by omega) (by omega)]; omega
theorem sm_1 {B : Nat → Bool} {p : Nat} (hp : p ≤ 128) : ∀ e : Int, -128 ≤ e → e ≤ 128 → (e = (iI (ex B p) + 1).toInt ↔ e = ex B p + 1) := by
  intro e e1 e2
  rw [iI_p1, iI_t hp]
theorem in_more {B : Nat → Bool} {N v u : Nat} (hT : Tr B N) (hv : v < fb_ct B N) (h1 : v < u) (h2 : u < v + sz B N v) : ex B (kp B N v) < ex B (kp B N u) := by
  obtain ⟨o1, o2, o3⟩ := kp_spec hv
  obtain ⟨z1, z2, z3, z4⟩ := sz_eq hT hv
  obtain ⟨c1, c2⟩ := (IN_iff hT hv (show u < fb_ct B N by omega)).mp ⟨by omega, h2⟩
  have := kp_lt (S := B) (N := N) h1 (by omega)
  exact (sh_spec hT o1 o2).2.2.2 _ this (by omega)
theorem o_beside {low high : Int64} {N : Nat} {g lo hi st w : Nat → Int32} (hX : XT low high N g lo hi) (hM : MT st (bb low high) N w) {p s : Int32} {Q : Prop} (hQ : Q) : wX5_beside low high (nI N) g lo hi p s (fun r1 => wX6_beside st p s (fun r2 => r1 = r2 ∧ Q)) := by
  have hN := hX.1.1
  have h64 := hM.m64 hX.1
  unfold wX5_beside
  rcases node_or p (fb_ct (bb low high) N) with ⟨v, hv, rfl⟩ | c
  · obtain ⟨o1, o2, o3⟩ := kp_spec hv
    obtain ⟨z1, z2, z3, z4⟩ := sz_eq hX.1 hv
    have hs := sh_spec hX.1 o1 o2
    refine x_has_y hX hv (t1b ⟨?_, ?_, ?_⟩)
    · rintro rfl
      refine x_depthOf hX hv (x_closeOf hX hv ?_)
      rw [nI_1]
      refine x_firstOfDepth (d := ex (bb low high) (kp (bb low high) N v)) hX (by omega) (by omega) rfl (sm_1 (by omega)) (fun r hr => ?_)
      rw [z4] at hr
      refine m_besideOn hM.1 hM.2.1 hX.1 hv (fun r2 hr2 => ⟨FI.one (x := r) (y := r2) ?_ hr2, hQ⟩)
      rcases hr with ⟨f, f1, f2, f3, f4, rfl⟩ | ⟨f4, rfl⟩
      · refine Or.inl ⟨f, by omega, f2, f3, fun u u1 u2 => ?_, rfl⟩
        rcases Nat.lt_or_ge u (v + sz (bb low high) N v) with y | y
        · have := in_more hX.1 hv (by omega) y; omega
        · exact f4 u y u2
      · refine Or.inr ⟨fun u u1 u2 => ?_, rfl⟩
        rcases Nat.lt_or_ge u (v + sz (bb low high) N v) with y | y
        · have := in_more hX.1 hv (by omega) y; omega
        · exact f4 u y u2
    · rintro rfl
      refine x_depthOf hX hv (x_openOf hX hv ?_)
      refine x_lastOfDepth (d := ex (bb low high) (kp (bb low high) N v)) hX (by omega) (by omega) rfl (sm_1 (by omega)) (fun r hr => ?_)
      rw [o3] at hr
      exact m_besideBack hM.1 hM.2.1 hX.1 hv (fun r2 hr2 => ⟨hr.one hr2, hQ⟩)
    · intro n0 n1
      unfold wX6_beside
      refine m_node1 hM.2.1 h64 hv (t1a (m_in_n (fun z => ?_) (t0b ⟨rfl, hQ⟩)))
      have z : (0 : Int) ≤ s.toInt ∧ s.toInt ≤ 1 := z
      rcases upto s 1 with ⟨k, k1, rfl⟩ | c
      · have hk : k = 0 ∨ k = 1 := by omega
        rcases hk with rfl | rfl
        · exact n0 rfl
        · exact n1 rfl
      · omega
  · refine x_has_n hX c (t0b ?_)
    unfold wX6_beside
    exact m_node_n hM.2.1 h64 c (t0a ⟨rfl, hQ⟩)
theorem SG1_f {B : Nat → Bool} {N k : Nat} (h : SG B N 1 k = true) : B k = false := by
  rw [SG1] at h
  cases hb : B k with
  | false => rfl
  | true => rw [hb] at h; cases h
theorem o_below {low high : Int64} {N : Nat} {g lo hi st w : Nat → Int32} (hX : XT low high N g lo hi) (hM : MT st (bb low high) N w) {p : Int32} {Q : Prop} (hQ : Q) : wX5_below low high (nI N) g lo hi p (fun r1 => wX6_below st p (fun r2 => r1 = r2 ∧ Q)) := by
  have hN := hX.1.1
  have h2 := hX.1.two
  have h64 := hM.m64 hX.1
  unfold wX5_below
  rcases node_or p (fb_ct (bb low high) N) with ⟨i, hi', rfl⟩ | c
  · refine x_has_y hX hi' (t1b ?_)
    have hct := ct_shut (B := (bb low high)) (Nat.le_refl N)
    refine x_placeOfSign (w := 1) hN (by omega) (by omega) hX.2.1 (fun c => ?_) (fun c => by omega)
    obtain ⟨a1, a2, a3⟩ := kp_spec c
    obtain ⟨o, o1, o2, o3, o4, o5⟩ := pt_open hX.1 a1 (SG1_f a2)
    rw [← o4]
    refine x_nodeAtShut hX (by omega) o3 ?_
    obtain ⟨c1, c2⟩ := kp_ct' (show o < N by omega) o3
    obtain ⟨v0, hv0⟩ : ∃ v0, v0 = fb_ct (bb low high) o := ⟨_, rfl⟩
    rw [← hv0] at c1 c2 ⊢
    have hs0 : fb_ct (SG (bb low high) N 1) (sh (bb low high) N (kp (bb low high) N v0)) = i := by rw [c1, o4]; exact a3
    unfold wX6_below
    refine ⟨fun x => ∃ v, x = nI v ∧ v ≤ v0, fun x => v0 - x.toNatClampNeg, ⟨0, rfl, Nat.zero_le _⟩, ?_⟩
    rintro x ⟨v, rfl, v1⟩
    refine m_many hM.2.1 ?_
    refine pk_le (fb_ct (bb low high) N) v (fun z => by omega) (fun _ => ?_)
    refine m_node1 hM.2.1 h64 hi' (t1a ?_)
    have hvM : v < fb_ct (bb low high) N := by omega
    obtain ⟨p1, p2, p3⟩ := kp_spec hvM
    have hs := sh_spec hX.1 p1 p2
    refine m_fromBelow hM.1 hX.1 hvM ?_
    rw [← ct_shut (B := (bb low high)) (N := N) (p := sh (bb low high) N (kp (bb low high) N v)) (by omega)]
    have hle := fb_ct_le (SG (bb low high) N 1) (sh (bb low high) N (kp (bb low high) N v))
    refine pk_ne (fb_ct (SG (bb low high) N 1) (sh (bb low high) N (kp (bb low high) N v))) i (fun e => ?_) (fun e => ?_)
    · rintro _ rfl
      rw [nI_1]
      have : v ≠ v0 := fun z => by rw [z] at e; exact e hs0
      refine ⟨⟨v + 1, rfl, by omega⟩, ?_⟩
      dsimp only; rw [nI_clamp (by omega), nI_clamp (by omega)]; omega
    · have hf := sh_false hX.1 p1 p2
      have e1 : sh (bb low high) N (kp (bb low high) N v) = kp (SG (bb low high) N 1) N i := (kp_eq (by omega) (by rw [SG1, hf, decide_eq_true (show sh (bb low high) N (kp (bb low high) N v) < N by omega)]; rfl) e).symm
      have e2 := sh_inj hX.1 p1 (show o < N by omega) p2 o3 (by rw [e1, o4])
      rw [← c1] at e2
      have : v = v0 := by
        rcases Nat.lt_trichotomy v v0 with z | z | z
        · have := kp_lt (S := (bb low high)) (N := N) z (by omega); omega
        · exact z
        · omega
      rw [this]; exact ⟨rfl, hQ⟩
  · refine x_has_n hX c (t0b ?_)
    unfold wX6_below
    refine ⟨fun x => x = 0, fun x => 0, rfl, ?_⟩
    rintro x rfl
    refine m_many hM.2.1 ?_
    refine ⟨fun _ => ⟨rfl, hQ⟩, fun _ => ?_⟩
    exact m_node_n hM.2.1 h64 c (t0a ⟨rfl, hQ⟩)
theorem o_weight {low high : Int64} {N : Nat} {g lo hi st w : Nat → Int32} (hX : XT low high N g lo hi) (hM : MT st (bb low high) N w) {p : Int32} {Q : Prop} (hQ : Q) : wX5_weight (nI N) w p (fun r1 => wX6_weight st p (fun r2 => r1 = r2 ∧ Q)) := by
  have h64 := hM.m64 hX.1
  unfold wX5_weight
  rcases node_or p (fb_ct (bb low high) N) with ⟨v, hv, rfl⟩ | c
  · refine x_has_y hX hv (t1a ⟨pk_in v 64 (by omega), ?_⟩)
    rw [nI_clamp (by omega)]
    unfold wX6_weight
    refine m_node1 hM.2.1 h64 hv (t1a ?_)
    rw [show (128 : Int32) = nI 128 from rfl, nI_add]
    refine ⟨pk_in (128 + v) 579 (by omega), ?_, hQ⟩
    rw [nI_clamp (by omega), hM.2.2 v hv]
  · refine x_has_n hX c (t0a ?_)
    unfold wX6_weight
    exact m_node_n hM.2.1 h64 c (t0a ⟨rfl, hQ⟩)
def HV (w : Nat → Int32) (v e b : Nat) : Prop := v ≤ b ∧ b < e ∧ (∀ u, v ≤ u → u < e → (w u).toInt ≤ (w b).toInt) ∧ ∀ u, v ≤ u → u < b → (w u).toInt < (w b).toInt
theorem HV.one {w : Nat → Int32} {v e b c : Nat} (h : HV w v e b) (h' : HV w v e c) : b = c := by
  obtain ⟨a1, a2, a3, a4⟩ := h
  obtain ⟨b1, b2, b3, b4⟩ := h'
  rcases Nat.lt_trichotomy b c with z | z | z
  · have := b4 b a1 z; have := a3 c b1 b2; omega
  · exact z
  · have := a4 c b1 z; have := b3 b a1 a2; omega
theorem HV.step {w : Nat → Int32} {v e b : Nat} (h : HV w v e b) (h1 : (w e).toInt ≤ (w b).toInt) : HV w v (e + 1) b := by
  obtain ⟨a1, a2, a3, a4⟩ := h
  refine ⟨a1, by omega, fun u u1 u2 => ?_, a4⟩
  rcases Nat.eq_or_lt_of_le (Nat.lt_succ_iff.mp u2) with y | y
  · rw [y]; exact h1
  · exact a3 u u1 y
theorem HV.new {w : Nat → Int32} {v e b : Nat} (h : HV w v e b) (h1 : (w b).toInt < (w e).toInt) : HV w v (e + 1) e := by
  obtain ⟨a1, a2, a3, a4⟩ := h
  refine ⟨by omega, by omega, fun u u1 u2 => ?_, fun u u1 u2 => ?_⟩
  · rcases Nat.eq_or_lt_of_le (Nat.lt_succ_iff.mp u2) with y | y
    · rw [y]; exact Int.le_refl _
    · have := a3 u u1 y; omega
  · have := a3 u u1 u2; omega
theorem cap_64 {a : Nat} (h : a ≤ 64) : (if (64 : Int32) < nI a then (64 : Int32) else nI a) = nI a := by
  rw [if_neg]
  rw [show (64 : Int32) = nI 64 from rfl, nI_ltI (by omega) (by omega)]; omega
theorem o_heaviest {low high : Int64} {N : Nat} {g lo hi st w : Nat → Int32} (hX : XT low high N g lo hi) (hM : MT st (bb low high) N w) {p : Int32} {Q : Prop} (hQ : Q) : wX5_heaviest low high (nI N) g lo hi w p (fun r1 => wX6_heaviest st p (fun r2 => r1 = r2 ∧ Q)) := by
  have h64 := hM.m64 hX.1
  unfold wX5_heaviest
  rcases node_or p (fb_ct (bb low high) N) with ⟨v, hv, rfl⟩ | c
  · refine x_has_y hX hv (t1a ?_)
    obtain ⟨z1, z2, z3, z4⟩ := sz_eq hX.1 hv
    unfold wX4_heaviestOf
    refine x_nodesOf hX hv ?_
    rw [nI_add, cap_64 (by omega)]
    rintro _ rfl
    rintro _ rfl
    rw [nI_1]
    refine ⟨fun x y => ∃ b u, x = nI b ∧ y = nI u ∧ u ≤ v + sz (bb low high) N v ∧ v + 1 ≤ u ∧ HV w v u b, fun _ y => v + sz (bb low high) N v - y.toNatClampNeg, ⟨v, v + 1, rfl, rfl, by omega, by omega, ⟨by omega, by omega, fun u u1 u2 => by rw [show u = v by omega]; exact Int.le_refl _, fun u u1 u2 => by omega⟩⟩, ?_⟩
    rintro x y ⟨b, u, rfl, rfl, u1, u2, hb⟩
    refine pk_le (v + sz (bb low high) N v) u (fun c => ?_) (fun c => ?_)
    · rw [show u = v + sz (bb low high) N v by omega] at hb
      unfold wX6_heaviest
      refine m_node1 hM.2.1 h64 hv (t1b ?_)
      refine ⟨fun x y => ∃ b u, x = nI b ∧ y = nI u ∧ u ≤ v + sz (bb low high) N v ∧ v ≤ u ∧ ((u = v ∧ b = v) ∨ HV w v u b), fun _ y => v + sz (bb low high) N v - y.toNatClampNeg, ⟨v, v, rfl, rfl, by omega, by omega, Or.inl ⟨rfl, rfl⟩⟩, ?_⟩
      rintro x y ⟨b2, u2, rfl, rfl, u3, u4, hb2⟩
      refine m_sizeOf hM.1 hX.1 hv ?_
      rw [nI_add]
      have b2v : b2 < v + sz (bb low high) N v := by
        rcases hb2 with ⟨e1, e2⟩ | e
        · omega
        · have := e.2.1; omega
      refine pk_le (v + sz (bb low high) N v) u2 (fun c => ?_) (fun c => ?_)
      · rcases hb2 with ⟨e1, e2⟩ | e
        · omega
        · rw [show u2 = v + sz (bb low high) N v by omega] at e
          rw [hb.one e]; exact ⟨rfl, hQ⟩
      · rw [show (128 : Int32) = nI 128 from rfl, nI_add, nI_add]
        refine ⟨pk_in (128 + u2) 579 (by omega), pk_in (128 + b2) 579 (by omega), ?_⟩
        rw [nI_clamp (by omega), nI_clamp (by omega), hM.2.2 u2 (by omega), hM.2.2 b2 (by omega), Int32.le_iff_toInt_le]
        refine ⟨fun l => ?_, fun l => ?_⟩
        · rintro _ rfl
          rw [nI_1]
          refine ⟨⟨b2, u2 + 1, rfl, rfl, by omega, by omega, Or.inr ?_⟩, ?_⟩
          · rcases hb2 with ⟨e1, e2⟩ | e
            · rw [e1, e2]
              exact ⟨by omega, by omega, fun u u1 u2 => by rw [show u = v by omega]; exact Int.le_refl _, fun u u1 u2 => by omega⟩
            · exact e.step l
          · dsimp only; rw [nI_clamp (by omega), nI_clamp (by omega)]; omega
        · rintro _ rfl
          rw [nI_1]
          refine ⟨⟨u2, u2 + 1, rfl, rfl, by omega, by omega, Or.inr ?_⟩, ?_⟩
          · rcases hb2 with ⟨e1, e2⟩ | e
            · rw [e1, e2] at l; omega
            · exact e.new (by omega)
          · dsimp only; rw [nI_clamp (by omega), nI_clamp (by omega)]; omega
    · have hbl := hb.2.1
      refine ⟨pk_in u 64 (by omega), pk_in b 64 (by omega), ?_⟩
      rw [nI_clamp (by omega), nI_clamp (by omega), Int32.le_iff_toInt_le]
      refine ⟨fun l => ?_, fun l => ?_⟩
      · rintro _ rfl
        rw [nI_1]
        refine ⟨⟨b, u + 1, rfl, rfl, by omega, by omega, hb.step l⟩, ?_⟩
        dsimp only; rw [nI_clamp (by omega), nI_clamp (by omega)]; omega
      · rintro _ rfl
        rw [nI_1]
        refine ⟨⟨u, u + 1, rfl, rfl, by omega, by omega, hb.new (by omega)⟩, ?_⟩
        dsimp only; rw [nI_clamp (by omega), nI_clamp (by omega)]; omega
  · refine x_has_n hX c (t0a ?_)
    unfold wX6_heaviest
    exact m_node_n hM.2.1 h64 c (t0b ⟨rfl, hQ⟩)
