/-! the invariant of the run, and every case of the law by it -/
def t7 (t : TS) : U7 := (t.1, t.2.1, t.2.2.1, t.2.2.2.1, t.2.2.2.2.1, t.2.2.2.2.2.1, t.2.2.2.2.2.2.1)
def IV (T I0 I1 : U7) (kf by_ : Nat → Int32) (ln fl : Int32) (S0 S1 S2 S3 : SS) (tn tp mf mt : Int32) (st ta ik la le : Nat → Int32) (mc : Nat → Int64) : Prop := RR T st ∧ kf 0 = ik 0 ∧ kf 1 = ik 1 ∧ (¬ kf 0 = 0 → RR I0 (fun i => st (193 * 0 + 193 + i))) ∧ (¬ kf 1 = 0 → RR I1 (fun i => st (193 * 1 + 193 + i))) ∧ TP ln by_ tp ta ∧ fl = mf ∧ SH S0.2.1 S0.2.2 S0.1 la le mc 0 ∧ SH S1.2.1 S1.2.2 S1.1 la le mc 1 ∧ SH S2.2.1 S2.2.2 S2.1 la le mc 2 ∧ SH S3.2.1 S3.2.2 S3.1 la le mc 3 ∧ tn = mt
def JV (x : XS) (m : MS) : Prop := IV (t7 x.1) (t7 x.2.2.1) (t7 x.2.2.2.1) x.2.2.2.2.1 x.2.2.2.2.2.1.1 x.2.2.2.2.2.1.2.1 x.2.2.2.2.2.1.2.2.2.2.2 x.2.2.2.2.2.2.1 x.2.2.2.2.2.2.2.1 x.2.2.2.2.2.2.2.2.1 x.2.2.2.2.2.2.2.2.2.1 x.2.2.2.2.2.2.2.2.2.2 m.1 m.2.1 m.2.2.2.2.2.2.2.2.1 m.2.2.2.2.2.2.2.2.2.1 m.2.2.2.2.2.2.2.2.2.2.2.1 m.2.2.2.2.2.2.2.2.2.2.2.2.2.2.1 m.2.2.2.2.2.2.2.2.2.2.2.2.2.2.2.1 m.2.2.2.2.2.2.2.2.2.2.2.2.2.2.2.2.1 m.2.2.2.2.2.2.2.2.2.2.2.2.2.2.2.2.2
theorem IV.tree {T T' I0 I1 : U7} {kf by_ : Nat → Int32} {ln fl : Int32} {S0 S1 S2 S3 : SS} {tn tp mf mt : Int32} {st st' ta ik la le : Nat → Int32} {mc : Nat → Int64} (h : IV T I0 I1 kf by_ ln fl S0 S1 S2 S3 tn tp mf mt st ta ik la le mc) (hr : RR T' st') (hf : ∀ k, 193 ≤ k → st' k = st k) : IV T' I0 I1 kf by_ ln fl S0 S1 S2 S3 tn tp mf mt st' ta ik la le mc := by
  obtain ⟨a1, a2, a3, a4, a5, a6⟩ := h
  refine ⟨hr, a2, a3, fun z => (a4 z).cong (fun k hk => hf _ (by omega)), fun z => (a5 z).cong (fun k hk => hf _ (by omega)), a6⟩
theorem IV.keep0 {T I0 I0' I1 : U7} {kf by_ : Nat → Int32} {ln fl : Int32} {S0 S1 S2 S3 : SS} {tn tp mf mt : Int32} {st st' ta ik la le : Nat → Int32} {mc : Nat → Int64} (h : IV T I0 I1 kf by_ ln fl S0 S1 S2 S3 tn tp mf mt st ta ik la le mc) (hr : RR I0' (fun i => st' (193 * 0 + 193 + i))) (hf : ∀ j, j < 193 * 0 + 193 ∨ 193 * 0 + 386 ≤ j → st' j = st j) : IV T I0' I1 (upd kf 0 (vp_nar .boolean 1)) by_ ln fl S0 S1 S2 S3 tn tp mf mt st' ta (upd ik 0 (vp_nar .boolean 1)) la le mc := by
  obtain ⟨a1, a2, a3, a4, a5, a6⟩ := h
  refine ⟨a1.cong (fun k hk => hf k (by omega)), by rw [pk_us, pk_us], by rw [pk_un (by omega), pk_un (by omega)]; exact a3, fun _ => hr, fun z => ?_, a6⟩
  rw [pk_un (by omega)] at z
  exact (a5 z).cong (fun k hk => hf _ (by omega))
theorem IV.keep1 {T I0 I1 I1' : U7} {kf by_ : Nat → Int32} {ln fl : Int32} {S0 S1 S2 S3 : SS} {tn tp mf mt : Int32} {st st' ta ik la le : Nat → Int32} {mc : Nat → Int64} (h : IV T I0 I1 kf by_ ln fl S0 S1 S2 S3 tn tp mf mt st ta ik la le mc) (hr : RR I1' (fun i => st' (193 * 1 + 193 + i))) (hf : ∀ j, j < 193 * 1 + 193 ∨ 193 * 1 + 386 ≤ j → st' j = st j) : IV T I0 I1' (upd kf 1 (vp_nar .boolean 1)) by_ ln fl S0 S1 S2 S3 tn tp mf mt st' ta (upd ik 1 (vp_nar .boolean 1)) la le mc := by
  obtain ⟨a1, a2, a3, a4, a5, a6⟩ := h
  refine ⟨a1.cong (fun k hk => hf k (by omega)), by rw [pk_un (by omega), pk_un (by omega)]; exact a2, by rw [pk_us, pk_us], fun z => ?_, fun _ => hr, a6⟩
  rw [pk_un (by omega)] at z
  exact (a4 z).cong (fun k hk => hf _ (by omega))
theorem IV.sh0 {T I0 I1 : U7} {kf by_ : Nat → Int32} {ln fl : Int32} {S0 S1 S2 S3 S0' : SS} {tn tn' tp mf mt : Int32} {st ta ik la le la' le' : Nat → Int32} {mc mc' : Nat → Int64} (h : IV T I0 I1 kf by_ ln fl S0 S1 S2 S3 tn tp mf mt st ta ik la le mc) (hs : SH S0'.2.1 S0'.2.2 S0'.1 la' le' mc' 0) (hf : SF 0 la le la' le' mc mc') {mt' : Int32} (ht : tn' = mt') : IV T I0 I1 kf by_ ln fl S0' S1 S2 S3 tn' tp mf mt' st ta ik la' le' mc' := by
  obtain ⟨a1, a2, a3, a4, a5, a6, a7, b0, b1, b2, b3, b4⟩ := h
  exact ⟨a1, a2, a3, a4, a5, a6, a7, hs, b1.frame hf (by omega), b2.frame hf (by omega), b3.frame hf (by omega), ht⟩
theorem IV.sh1 {T I0 I1 : U7} {kf by_ : Nat → Int32} {ln fl : Int32} {S0 S1 S2 S3 S1' : SS} {tn tn' tp mf mt : Int32} {st ta ik la le la' le' : Nat → Int32} {mc mc' : Nat → Int64} (h : IV T I0 I1 kf by_ ln fl S0 S1 S2 S3 tn tp mf mt st ta ik la le mc) (hs : SH S1'.2.1 S1'.2.2 S1'.1 la' le' mc' 1) (hf : SF 1 la le la' le' mc mc') {mt' : Int32} (ht : tn' = mt') : IV T I0 I1 kf by_ ln fl S0 S1' S2 S3 tn' tp mf mt' st ta ik la' le' mc' := by
  obtain ⟨a1, a2, a3, a4, a5, a6, a7, b0, b1, b2, b3, b4⟩ := h
  exact ⟨a1, a2, a3, a4, a5, a6, a7, b0.frame hf (by omega), hs, b2.frame hf (by omega), b3.frame hf (by omega), ht⟩
theorem IV.sh2 {T I0 I1 : U7} {kf by_ : Nat → Int32} {ln fl : Int32} {S0 S1 S2 S3 S2' : SS} {tn tn' tp mf mt : Int32} {st ta ik la le la' le' : Nat → Int32} {mc mc' : Nat → Int64} (h : IV T I0 I1 kf by_ ln fl S0 S1 S2 S3 tn tp mf mt st ta ik la le mc) (hs : SH S2'.2.1 S2'.2.2 S2'.1 la' le' mc' 2) (hf : SF 2 la le la' le' mc mc') {mt' : Int32} (ht : tn' = mt') : IV T I0 I1 kf by_ ln fl S0 S1 S2' S3 tn' tp mf mt' st ta ik la' le' mc' := by
  obtain ⟨a1, a2, a3, a4, a5, a6, a7, b0, b1, b2, b3, b4⟩ := h
  exact ⟨a1, a2, a3, a4, a5, a6, a7, b0.frame hf (by omega), b1.frame hf (by omega), hs, b3.frame hf (by omega), ht⟩
theorem IV.sh3 {T I0 I1 : U7} {kf by_ : Nat → Int32} {ln fl : Int32} {S0 S1 S2 S3 S3' : SS} {tn tn' tp mf mt : Int32} {st ta ik la le la' le' : Nat → Int32} {mc mc' : Nat → Int64} (h : IV T I0 I1 kf by_ ln fl S0 S1 S2 S3 tn tp mf mt st ta ik la le mc) (hs : SH S3'.2.1 S3'.2.2 S3'.1 la' le' mc' 3) (hf : SF 3 la le la' le' mc mc') {mt' : Int32} (ht : tn' = mt') : IV T I0 I1 kf by_ ln fl S0 S1 S2 S3' tn' tp mf mt' st ta ik la' le' mc' := by
  obtain ⟨a1, a2, a3, a4, a5, a6, a7, b0, b1, b2, b3, b4⟩ := h
  exact ⟨a1, a2, a3, a4, a5, a6, a7, b0.frame hf (by omega), b1.frame hf (by omega), b2.frame hf (by omega), hs, ht⟩
theorem h_0 {x : XS} {m : MS} {a1 a2 a3 a4 : Int32} (hJ : JV x m) : op_0 JV x m a1 a2 a3 a4 := by
  obtain ⟨⟨low, high, pl, g, lo, hi, w, car⟩, ⟨dl, dh, dp, dg, dlo, dhi, dw, dcar⟩, ⟨l0, h0, p0, g0, lo0, hi0, w0, car0⟩, ⟨l1, h1, p1, g1, lo1, hi1, w1, car1⟩, kf, ⟨by_, ln, at0, st0, num, fl⟩, ⟨c0, k0, n0⟩, ⟨c1, k1, n1⟩, ⟨c2, k2, n2⟩, ⟨c3, k3, n3⟩, tn⟩ := x
  obtain ⟨tp, mf, br, ba, sp, hr, tk, va, mt, st, rp, ta, cutr, cutw, ik, la, le, mc⟩ := m
  have hK := hJ
  obtain ⟨⟨N, eN, hX, hM⟩, e0, e1, I0, I1, hTP, hfl, S0, S1, S2, S3, htn⟩ := hK
  have eN : pl = nI N := eN
  subst eN
  have hfl : fl = mf := hfl
  subst hfl
  have htn : tn = mt := htn
  subst htn
  have hX : XT low high N g lo hi := hX
  have hM : MT st (bb low high) N w := hM
  have hTP : TP ln by_ tp ta := hTP
  have S0 : SH k0 n0 c0 la le mc 0 := S0
  have S1 : SH k1 n1 c1 la le mc 1 := S1
  have S2 : SH k2 n2 c2 la le mc 2 := S2
  have S3 : SH k3 n3 c3 la le mc 3 := S3
  have e0 : kf 0 = ik 0 := e0
  have e1 : kf 1 = ik 1 := e1
  unfold op_0
  exact o_feed hTP (fun a b c d h => ⟨hJ.1, hJ.2.1, hJ.2.2.1, hJ.2.2.2.1, hJ.2.2.2.2.1, h, hJ.2.2.2.2.2.2⟩)
theorem h_1 {x : XS} {m : MS} {a1 a2 a3 a4 : Int32} (hJ : JV x m) : op_1 JV x m a1 a2 a3 a4 := by
  obtain ⟨⟨low, high, pl, g, lo, hi, w, car⟩, ⟨dl, dh, dp, dg, dlo, dhi, dw, dcar⟩, ⟨l0, h0, p0, g0, lo0, hi0, w0, car0⟩, ⟨l1, h1, p1, g1, lo1, hi1, w1, car1⟩, kf, ⟨by_, ln, at0, st0, num, fl⟩, ⟨c0, k0, n0⟩, ⟨c1, k1, n1⟩, ⟨c2, k2, n2⟩, ⟨c3, k3, n3⟩, tn⟩ := x
  obtain ⟨tp, mf, br, ba, sp, hr, tk, va, mt, st, rp, ta, cutr, cutw, ik, la, le, mc⟩ := m
  have hK := hJ
  obtain ⟨⟨N, eN, hX, hM⟩, e0, e1, I0, I1, hTP, hfl, S0, S1, S2, S3, htn⟩ := hK
  have eN : pl = nI N := eN
  subst eN
  have hfl : fl = mf := hfl
  subst hfl
  have htn : tn = mt := htn
  subst htn
  have hX : XT low high N g lo hi := hX
  have hM : MT st (bb low high) N w := hM
  have hTP : TP ln by_ tp ta := hTP
  have S0 : SH k0 n0 c0 la le mc 0 := S0
  have S1 : SH k1 n1 c1 la le mc 1 := S1
  have S2 : SH k2 n2 c2 la le mc 2 := S2
  have S3 : SH k3 n3 c3 la le mc 3 := S3
  have e0 : kf 0 = ik 0 := e0
  have e1 : kf 1 = ik 1 := e1
  unfold op_1
  exact o_end hTP (fun a c h => ⟨hJ.1, hJ.2.1, hJ.2.2.1, hJ.2.2.2.1, hJ.2.2.2.2.1, h, hJ.2.2.2.2.2.2⟩)
theorem h_2 {x : XS} {m : MS} {a1 a2 a3 a4 : Int32} (hJ : JV x m) : op_2 JV x m a1 a2 a3 a4 := by
  obtain ⟨⟨low, high, pl, g, lo, hi, w, car⟩, ⟨dl, dh, dp, dg, dlo, dhi, dw, dcar⟩, ⟨l0, h0, p0, g0, lo0, hi0, w0, car0⟩, ⟨l1, h1, p1, g1, lo1, hi1, w1, car1⟩, kf, ⟨by_, ln, at0, st0, num, fl⟩, ⟨c0, k0, n0⟩, ⟨c1, k1, n1⟩, ⟨c2, k2, n2⟩, ⟨c3, k3, n3⟩, tn⟩ := x
  obtain ⟨tp, mf, br, ba, sp, hr, tk, va, mt, st, rp, ta, cutr, cutw, ik, la, le, mc⟩ := m
  have hK := hJ
  obtain ⟨⟨N, eN, hX, hM⟩, e0, e1, I0, I1, hTP, hfl, S0, S1, S2, S3, htn⟩ := hK
  have eN : pl = nI N := eN
  subst eN
  have hfl : fl = mf := hfl
  subst hfl
  have htn : tn = mt := htn
  subst htn
  have hX : XT low high N g lo hi := hX
  have hM : MT st (bb low high) N w := hM
  have hTP : TP ln by_ tp ta := hTP
  have S0 : SH k0 n0 c0 la le mc 0 := S0
  have S1 : SH k1 n1 c1 la le mc 1 := S1
  have S2 : SH k2 n2 c2 la le mc 2 := S2
  have S3 : SH k3 n3 c3 la le mc 3 := S3
  have e0 : kf 0 = ik 0 := e0
  have e1 : kf 1 = ik 1 := e1
  unfold op_2
  have tp0 : TP (0 : Int32) by_ (0 : Int32) ta := ⟨0, by omega, rfl, rfl, fun i hi => absurd hi (Nat.not_lt_zero _)⟩
  exact o_text hTP (fun a b c d e f g a' b' c' d' e' f' g' kf' x1 x2 x3 c3 c4 c5 c6 c7 c8 st' rp' ik' r q0 q1 q2 q3 => ⟨r, q0.trans q2.symm, q1.trans q3.symm, fun z => absurd q0 z, fun z => absurd q1 z, tp0, rfl, S0, S1, S2, S3, rfl⟩) (fun a' b' c' d' e' f' g' x1 x2 x3 fl c3 c4 c5 c6 c7 c8 rp' => ⟨⟨N, rfl, hX, hM⟩, e0, e1, I0, I1, tp0, rfl, S0, S1, S2, S3, rfl⟩)
theorem h_3 {x : XS} {m : MS} {a1 a2 a3 a4 : Int32} (hJ : JV x m) : op_3 JV x m a1 a2 a3 a4 := by
  obtain ⟨⟨low, high, pl, g, lo, hi, w, car⟩, ⟨dl, dh, dp, dg, dlo, dhi, dw, dcar⟩, ⟨l0, h0, p0, g0, lo0, hi0, w0, car0⟩, ⟨l1, h1, p1, g1, lo1, hi1, w1, car1⟩, kf, ⟨by_, ln, at0, st0, num, fl⟩, ⟨c0, k0, n0⟩, ⟨c1, k1, n1⟩, ⟨c2, k2, n2⟩, ⟨c3, k3, n3⟩, tn⟩ := x
  obtain ⟨tp, mf, br, ba, sp, hr, tk, va, mt, st, rp, ta, cutr, cutw, ik, la, le, mc⟩ := m
  have hK := hJ
  obtain ⟨⟨N, eN, hX, hM⟩, e0, e1, I0, I1, hTP, hfl, S0, S1, S2, S3, htn⟩ := hK
  have eN : pl = nI N := eN
  subst eN
  have hfl : fl = mf := hfl
  subst hfl
  have htn : tn = mt := htn
  subst htn
  have hX : XT low high N g lo hi := hX
  have hM : MT st (bb low high) N w := hM
  have hTP : TP ln by_ tp ta := hTP
  have S0 : SH k0 n0 c0 la le mc 0 := S0
  have S1 : SH k1 n1 c1 la le mc 1 := S1
  have S2 : SH k2 n2 c2 la le mc 2 := S2
  have S3 : SH k3 n3 c3 la le mc 3 := S3
  have e0 : kf 0 = ik 0 := e0
  have e1 : kf 1 = ik 1 := e1
  unfold op_3
  exact ⟨rfl, hJ⟩
theorem h_4 {x : XS} {m : MS} {a1 a2 a3 a4 : Int32} (hJ : JV x m) : op_4 JV x m a1 a2 a3 a4 := by
  obtain ⟨⟨low, high, pl, g, lo, hi, w, car⟩, ⟨dl, dh, dp, dg, dlo, dhi, dw, dcar⟩, ⟨l0, h0, p0, g0, lo0, hi0, w0, car0⟩, ⟨l1, h1, p1, g1, lo1, hi1, w1, car1⟩, kf, ⟨by_, ln, at0, st0, num, fl⟩, ⟨c0, k0, n0⟩, ⟨c1, k1, n1⟩, ⟨c2, k2, n2⟩, ⟨c3, k3, n3⟩, tn⟩ := x
  obtain ⟨tp, mf, br, ba, sp, hr, tk, va, mt, st, rp, ta, cutr, cutw, ik, la, le, mc⟩ := m
  have hK := hJ
  obtain ⟨⟨N, eN, hX, hM⟩, e0, e1, I0, I1, hTP, hfl, S0, S1, S2, S3, htn⟩ := hK
  have eN : pl = nI N := eN
  subst eN
  have hfl : fl = mf := hfl
  subst hfl
  have htn : tn = mt := htn
  subst htn
  have hX : XT low high N g lo hi := hX
  have hM : MT st (bb low high) N w := hM
  have hTP : TP ln by_ tp ta := hTP
  have S0 : SH k0 n0 c0 la le mc 0 := S0
  have S1 : SH k1 n1 c1 la le mc 1 := S1
  have S2 : SH k2 n2 c2 la le mc 2 := S2
  have S3 : SH k3 n3 c3 la le mc 3 := S3
  have e0 : kf 0 = ik 0 := e0
  have e1 : kf 1 = ik 1 := e1
  unfold op_4
  exact o_size hX hM hJ
theorem h_5 {x : XS} {m : MS} {a1 a2 a3 a4 : Int32} (hJ : JV x m) : op_5 JV x m a1 a2 a3 a4 := by
  obtain ⟨⟨low, high, pl, g, lo, hi, w, car⟩, ⟨dl, dh, dp, dg, dlo, dhi, dw, dcar⟩, ⟨l0, h0, p0, g0, lo0, hi0, w0, car0⟩, ⟨l1, h1, p1, g1, lo1, hi1, w1, car1⟩, kf, ⟨by_, ln, at0, st0, num, fl⟩, ⟨c0, k0, n0⟩, ⟨c1, k1, n1⟩, ⟨c2, k2, n2⟩, ⟨c3, k3, n3⟩, tn⟩ := x
  obtain ⟨tp, mf, br, ba, sp, hr, tk, va, mt, st, rp, ta, cutr, cutw, ik, la, le, mc⟩ := m
  have hK := hJ
  obtain ⟨⟨N, eN, hX, hM⟩, e0, e1, I0, I1, hTP, hfl, S0, S1, S2, S3, htn⟩ := hK
  have eN : pl = nI N := eN
  subst eN
  have hfl : fl = mf := hfl
  subst hfl
  have htn : tn = mt := htn
  subst htn
  have hX : XT low high N g lo hi := hX
  have hM : MT st (bb low high) N w := hM
  have hTP : TP ln by_ tp ta := hTP
  have S0 : SH k0 n0 c0 la le mc 0 := S0
  have S1 : SH k1 n1 c1 la le mc 1 := S1
  have S2 : SH k2 n2 c2 la le mc 2 := S2
  have S3 : SH k3 n3 c3 la le mc 3 := S3
  have e0 : kf 0 = ik 0 := e0
  have e1 : kf 1 = ik 1 := e1
  unfold op_5
  exact o_bit hX hM hJ
theorem h_6 {x : XS} {m : MS} {a1 a2 a3 a4 : Int32} (hJ : JV x m) : op_6 JV x m a1 a2 a3 a4 := by
  obtain ⟨⟨low, high, pl, g, lo, hi, w, car⟩, ⟨dl, dh, dp, dg, dlo, dhi, dw, dcar⟩, ⟨l0, h0, p0, g0, lo0, hi0, w0, car0⟩, ⟨l1, h1, p1, g1, lo1, hi1, w1, car1⟩, kf, ⟨by_, ln, at0, st0, num, fl⟩, ⟨c0, k0, n0⟩, ⟨c1, k1, n1⟩, ⟨c2, k2, n2⟩, ⟨c3, k3, n3⟩, tn⟩ := x
  obtain ⟨tp, mf, br, ba, sp, hr, tk, va, mt, st, rp, ta, cutr, cutw, ik, la, le, mc⟩ := m
  have hK := hJ
  obtain ⟨⟨N, eN, hX, hM⟩, e0, e1, I0, I1, hTP, hfl, S0, S1, S2, S3, htn⟩ := hK
  have eN : pl = nI N := eN
  subst eN
  have hfl : fl = mf := hfl
  subst hfl
  have htn : tn = mt := htn
  subst htn
  have hX : XT low high N g lo hi := hX
  have hM : MT st (bb low high) N w := hM
  have hTP : TP ln by_ tp ta := hTP
  have S0 : SH k0 n0 c0 la le mc 0 := S0
  have S1 : SH k1 n1 c1 la le mc 1 := S1
  have S2 : SH k2 n2 c2 la le mc 2 := S2
  have S3 : SH k3 n3 c3 la le mc 3 := S3
  have e0 : kf 0 = ik 0 := e0
  have e1 : kf 1 = ik 1 := e1
  unfold op_6
  exact o_excess hX hM hJ
theorem h_7 {x : XS} {m : MS} {a1 a2 a3 a4 : Int32} (hJ : JV x m) : op_7 JV x m a1 a2 a3 a4 := by
  obtain ⟨⟨low, high, pl, g, lo, hi, w, car⟩, ⟨dl, dh, dp, dg, dlo, dhi, dw, dcar⟩, ⟨l0, h0, p0, g0, lo0, hi0, w0, car0⟩, ⟨l1, h1, p1, g1, lo1, hi1, w1, car1⟩, kf, ⟨by_, ln, at0, st0, num, fl⟩, ⟨c0, k0, n0⟩, ⟨c1, k1, n1⟩, ⟨c2, k2, n2⟩, ⟨c3, k3, n3⟩, tn⟩ := x
  obtain ⟨tp, mf, br, ba, sp, hr, tk, va, mt, st, rp, ta, cutr, cutw, ik, la, le, mc⟩ := m
  have hK := hJ
  obtain ⟨⟨N, eN, hX, hM⟩, e0, e1, I0, I1, hTP, hfl, S0, S1, S2, S3, htn⟩ := hK
  have eN : pl = nI N := eN
  subst eN
  have hfl : fl = mf := hfl
  subst hfl
  have htn : tn = mt := htn
  subst htn
  have hX : XT low high N g lo hi := hX
  have hM : MT st (bb low high) N w := hM
  have hTP : TP ln by_ tp ta := hTP
  have S0 : SH k0 n0 c0 la le mc 0 := S0
  have S1 : SH k1 n1 c1 la le mc 1 := S1
  have S2 : SH k2 n2 c2 la le mc 2 := S2
  have S3 : SH k3 n3 c3 la le mc 3 := S3
  have e0 : kf 0 = ik 0 := e0
  have e1 : kf 1 = ik 1 := e1
  unfold op_7
  exact o_rank hX hM hJ
theorem h_8 {x : XS} {m : MS} {a1 a2 a3 a4 : Int32} (hJ : JV x m) : op_8 JV x m a1 a2 a3 a4 := by
  obtain ⟨⟨low, high, pl, g, lo, hi, w, car⟩, ⟨dl, dh, dp, dg, dlo, dhi, dw, dcar⟩, ⟨l0, h0, p0, g0, lo0, hi0, w0, car0⟩, ⟨l1, h1, p1, g1, lo1, hi1, w1, car1⟩, kf, ⟨by_, ln, at0, st0, num, fl⟩, ⟨c0, k0, n0⟩, ⟨c1, k1, n1⟩, ⟨c2, k2, n2⟩, ⟨c3, k3, n3⟩, tn⟩ := x
  obtain ⟨tp, mf, br, ba, sp, hr, tk, va, mt, st, rp, ta, cutr, cutw, ik, la, le, mc⟩ := m
  have hK := hJ
  obtain ⟨⟨N, eN, hX, hM⟩, e0, e1, I0, I1, hTP, hfl, S0, S1, S2, S3, htn⟩ := hK
  have eN : pl = nI N := eN
  subst eN
  have hfl : fl = mf := hfl
  subst hfl
  have htn : tn = mt := htn
  subst htn
  have hX : XT low high N g lo hi := hX
  have hM : MT st (bb low high) N w := hM
  have hTP : TP ln by_ tp ta := hTP
  have S0 : SH k0 n0 c0 la le mc 0 := S0
  have S1 : SH k1 n1 c1 la le mc 1 := S1
  have S2 : SH k2 n2 c2 la le mc 2 := S2
  have S3 : SH k3 n3 c3 la le mc 3 := S3
  have e0 : kf 0 = ik 0 := e0
  have e1 : kf 1 = ik 1 := e1
  unfold op_8
  exact o_select hX hM hJ
theorem h_9 {x : XS} {m : MS} {a1 a2 a3 a4 : Int32} (hJ : JV x m) : op_9 JV x m a1 a2 a3 a4 := by
  obtain ⟨⟨low, high, pl, g, lo, hi, w, car⟩, ⟨dl, dh, dp, dg, dlo, dhi, dw, dcar⟩, ⟨l0, h0, p0, g0, lo0, hi0, w0, car0⟩, ⟨l1, h1, p1, g1, lo1, hi1, w1, car1⟩, kf, ⟨by_, ln, at0, st0, num, fl⟩, ⟨c0, k0, n0⟩, ⟨c1, k1, n1⟩, ⟨c2, k2, n2⟩, ⟨c3, k3, n3⟩, tn⟩ := x
  obtain ⟨tp, mf, br, ba, sp, hr, tk, va, mt, st, rp, ta, cutr, cutw, ik, la, le, mc⟩ := m
  have hK := hJ
  obtain ⟨⟨N, eN, hX, hM⟩, e0, e1, I0, I1, hTP, hfl, S0, S1, S2, S3, htn⟩ := hK
  have eN : pl = nI N := eN
  subst eN
  have hfl : fl = mf := hfl
  subst hfl
  have htn : tn = mt := htn
  subst htn
  have hX : XT low high N g lo hi := hX
  have hM : MT st (bb low high) N w := hM
  have hTP : TP ln by_ tp ta := hTP
  have S0 : SH k0 n0 c0 la le mc 0 := S0
  have S1 : SH k1 n1 c1 la le mc 1 := S1
  have S2 : SH k2 n2 c2 la le mc 2 := S2
  have S3 : SH k3 n3 c3 la le mc 3 := S3
  have e0 : kf 0 = ik 0 := e0
  have e1 : kf 1 = ik 1 := e1
  unfold op_9
  exact o_forward hX hM hJ
theorem h_10 {x : XS} {m : MS} {a1 a2 a3 a4 : Int32} (hJ : JV x m) : op_10 JV x m a1 a2 a3 a4 := by
  obtain ⟨⟨low, high, pl, g, lo, hi, w, car⟩, ⟨dl, dh, dp, dg, dlo, dhi, dw, dcar⟩, ⟨l0, h0, p0, g0, lo0, hi0, w0, car0⟩, ⟨l1, h1, p1, g1, lo1, hi1, w1, car1⟩, kf, ⟨by_, ln, at0, st0, num, fl⟩, ⟨c0, k0, n0⟩, ⟨c1, k1, n1⟩, ⟨c2, k2, n2⟩, ⟨c3, k3, n3⟩, tn⟩ := x
  obtain ⟨tp, mf, br, ba, sp, hr, tk, va, mt, st, rp, ta, cutr, cutw, ik, la, le, mc⟩ := m
  have hK := hJ
  obtain ⟨⟨N, eN, hX, hM⟩, e0, e1, I0, I1, hTP, hfl, S0, S1, S2, S3, htn⟩ := hK
  have eN : pl = nI N := eN
  subst eN
  have hfl : fl = mf := hfl
  subst hfl
  have htn : tn = mt := htn
  subst htn
  have hX : XT low high N g lo hi := hX
  have hM : MT st (bb low high) N w := hM
  have hTP : TP ln by_ tp ta := hTP
  have S0 : SH k0 n0 c0 la le mc 0 := S0
  have S1 : SH k1 n1 c1 la le mc 1 := S1
  have S2 : SH k2 n2 c2 la le mc 2 := S2
  have S3 : SH k3 n3 c3 la le mc 3 := S3
  have e0 : kf 0 = ik 0 := e0
  have e1 : kf 1 = ik 1 := e1
  unfold op_10
  exact o_backward hX hM hJ
theorem h_11 {x : XS} {m : MS} {a1 a2 a3 a4 : Int32} (hJ : JV x m) : op_11 JV x m a1 a2 a3 a4 := by
  obtain ⟨⟨low, high, pl, g, lo, hi, w, car⟩, ⟨dl, dh, dp, dg, dlo, dhi, dw, dcar⟩, ⟨l0, h0, p0, g0, lo0, hi0, w0, car0⟩, ⟨l1, h1, p1, g1, lo1, hi1, w1, car1⟩, kf, ⟨by_, ln, at0, st0, num, fl⟩, ⟨c0, k0, n0⟩, ⟨c1, k1, n1⟩, ⟨c2, k2, n2⟩, ⟨c3, k3, n3⟩, tn⟩ := x
  obtain ⟨tp, mf, br, ba, sp, hr, tk, va, mt, st, rp, ta, cutr, cutw, ik, la, le, mc⟩ := m
  have hK := hJ
  obtain ⟨⟨N, eN, hX, hM⟩, e0, e1, I0, I1, hTP, hfl, S0, S1, S2, S3, htn⟩ := hK
  have eN : pl = nI N := eN
  subst eN
  have hfl : fl = mf := hfl
  subst hfl
  have htn : tn = mt := htn
  subst htn
  have hX : XT low high N g lo hi := hX
  have hM : MT st (bb low high) N w := hM
  have hTP : TP ln by_ tp ta := hTP
  have S0 : SH k0 n0 c0 la le mc 0 := S0
  have S1 : SH k1 n1 c1 la le mc 1 := S1
  have S2 : SH k2 n2 c2 la le mc 2 := S2
  have S3 : SH k3 n3 c3 la le mc 3 := S3
  have e0 : kf 0 = ik 0 := e0
  have e1 : kf 1 = ik 1 := e1
  unfold op_11
  exact o_match hX hM hJ
theorem h_12 {x : XS} {m : MS} {a1 a2 a3 a4 : Int32} (hJ : JV x m) : op_12 JV x m a1 a2 a3 a4 := by
  obtain ⟨⟨low, high, pl, g, lo, hi, w, car⟩, ⟨dl, dh, dp, dg, dlo, dhi, dw, dcar⟩, ⟨l0, h0, p0, g0, lo0, hi0, w0, car0⟩, ⟨l1, h1, p1, g1, lo1, hi1, w1, car1⟩, kf, ⟨by_, ln, at0, st0, num, fl⟩, ⟨c0, k0, n0⟩, ⟨c1, k1, n1⟩, ⟨c2, k2, n2⟩, ⟨c3, k3, n3⟩, tn⟩ := x
  obtain ⟨tp, mf, br, ba, sp, hr, tk, va, mt, st, rp, ta, cutr, cutw, ik, la, le, mc⟩ := m
  have hK := hJ
  obtain ⟨⟨N, eN, hX, hM⟩, e0, e1, I0, I1, hTP, hfl, S0, S1, S2, S3, htn⟩ := hK
  have eN : pl = nI N := eN
  subst eN
  have hfl : fl = mf := hfl
  subst hfl
  have htn : tn = mt := htn
  subst htn
  have hX : XT low high N g lo hi := hX
  have hM : MT st (bb low high) N w := hM
  have hTP : TP ln by_ tp ta := hTP
  have S0 : SH k0 n0 c0 la le mc 0 := S0
  have S1 : SH k1 n1 c1 la le mc 1 := S1
  have S2 : SH k2 n2 c2 la le mc 2 := S2
  have S3 : SH k3 n3 c3 la le mc 3 := S3
  have e0 : kf 0 = ik 0 := e0
  have e1 : kf 1 = ik 1 := e1
  unfold op_12
  exact o_least hX hM hJ
theorem h_13 {x : XS} {m : MS} {a1 a2 a3 a4 : Int32} (hJ : JV x m) : op_13 JV x m a1 a2 a3 a4 := by
  obtain ⟨⟨low, high, pl, g, lo, hi, w, car⟩, ⟨dl, dh, dp, dg, dlo, dhi, dw, dcar⟩, ⟨l0, h0, p0, g0, lo0, hi0, w0, car0⟩, ⟨l1, h1, p1, g1, lo1, hi1, w1, car1⟩, kf, ⟨by_, ln, at0, st0, num, fl⟩, ⟨c0, k0, n0⟩, ⟨c1, k1, n1⟩, ⟨c2, k2, n2⟩, ⟨c3, k3, n3⟩, tn⟩ := x
  obtain ⟨tp, mf, br, ba, sp, hr, tk, va, mt, st, rp, ta, cutr, cutw, ik, la, le, mc⟩ := m
  have hK := hJ
  obtain ⟨⟨N, eN, hX, hM⟩, e0, e1, I0, I1, hTP, hfl, S0, S1, S2, S3, htn⟩ := hK
  have eN : pl = nI N := eN
  subst eN
  have hfl : fl = mf := hfl
  subst hfl
  have htn : tn = mt := htn
  subst htn
  have hX : XT low high N g lo hi := hX
  have hM : MT st (bb low high) N w := hM
  have hTP : TP ln by_ tp ta := hTP
  have S0 : SH k0 n0 c0 la le mc 0 := S0
  have S1 : SH k1 n1 c1 la le mc 1 := S1
  have S2 : SH k2 n2 c2 la le mc 2 := S2
  have S3 : SH k3 n3 c3 la le mc 3 := S3
  have e0 : kf 0 = ik 0 := e0
  have e1 : kf 1 = ik 1 := e1
  unfold op_13
  exact o_block hX hM hJ
theorem h_14 {x : XS} {m : MS} {a1 a2 a3 a4 : Int32} (hJ : JV x m) : op_14 JV x m a1 a2 a3 a4 := by
  obtain ⟨⟨low, high, pl, g, lo, hi, w, car⟩, ⟨dl, dh, dp, dg, dlo, dhi, dw, dcar⟩, ⟨l0, h0, p0, g0, lo0, hi0, w0, car0⟩, ⟨l1, h1, p1, g1, lo1, hi1, w1, car1⟩, kf, ⟨by_, ln, at0, st0, num, fl⟩, ⟨c0, k0, n0⟩, ⟨c1, k1, n1⟩, ⟨c2, k2, n2⟩, ⟨c3, k3, n3⟩, tn⟩ := x
  obtain ⟨tp, mf, br, ba, sp, hr, tk, va, mt, st, rp, ta, cutr, cutw, ik, la, le, mc⟩ := m
  have hK := hJ
  obtain ⟨⟨N, eN, hX, hM⟩, e0, e1, I0, I1, hTP, hfl, S0, S1, S2, S3, htn⟩ := hK
  have eN : pl = nI N := eN
  subst eN
  have hfl : fl = mf := hfl
  subst hfl
  have htn : tn = mt := htn
  subst htn
  have hX : XT low high N g lo hi := hX
  have hM : MT st (bb low high) N w := hM
  have hTP : TP ln by_ tp ta := hTP
  have S0 : SH k0 n0 c0 la le mc 0 := S0
  have S1 : SH k1 n1 c1 la le mc 1 := S1
  have S2 : SH k2 n2 c2 la le mc 2 := S2
  have S3 : SH k3 n3 c3 la le mc 3 := S3
  have e0 : kf 0 = ik 0 := e0
  have e1 : kf 1 = ik 1 := e1
  unfold op_14
  exact o_node hX hM hJ
theorem h_15 {x : XS} {m : MS} {a1 a2 a3 a4 : Int32} (hJ : JV x m) : op_15 JV x m a1 a2 a3 a4 := by
  obtain ⟨⟨low, high, pl, g, lo, hi, w, car⟩, ⟨dl, dh, dp, dg, dlo, dhi, dw, dcar⟩, ⟨l0, h0, p0, g0, lo0, hi0, w0, car0⟩, ⟨l1, h1, p1, g1, lo1, hi1, w1, car1⟩, kf, ⟨by_, ln, at0, st0, num, fl⟩, ⟨c0, k0, n0⟩, ⟨c1, k1, n1⟩, ⟨c2, k2, n2⟩, ⟨c3, k3, n3⟩, tn⟩ := x
  obtain ⟨tp, mf, br, ba, sp, hr, tk, va, mt, st, rp, ta, cutr, cutw, ik, la, le, mc⟩ := m
  have hK := hJ
  obtain ⟨⟨N, eN, hX, hM⟩, e0, e1, I0, I1, hTP, hfl, S0, S1, S2, S3, htn⟩ := hK
  have eN : pl = nI N := eN
  subst eN
  have hfl : fl = mf := hfl
  subst hfl
  have htn : tn = mt := htn
  subst htn
  have hX : XT low high N g lo hi := hX
  have hM : MT st (bb low high) N w := hM
  have hTP : TP ln by_ tp ta := hTP
  have S0 : SH k0 n0 c0 la le mc 0 := S0
  have S1 : SH k1 n1 c1 la le mc 1 := S1
  have S2 : SH k2 n2 c2 la le mc 2 := S2
  have S3 : SH k3 n3 c3 la le mc 3 := S3
  have e0 : kf 0 = ik 0 := e0
  have e1 : kf 1 = ik 1 := e1
  unfold op_15
  exact o_child hX hM hJ
theorem h_16 {x : XS} {m : MS} {a1 a2 a3 a4 : Int32} (hJ : JV x m) : op_16 JV x m a1 a2 a3 a4 := by
  obtain ⟨⟨low, high, pl, g, lo, hi, w, car⟩, ⟨dl, dh, dp, dg, dlo, dhi, dw, dcar⟩, ⟨l0, h0, p0, g0, lo0, hi0, w0, car0⟩, ⟨l1, h1, p1, g1, lo1, hi1, w1, car1⟩, kf, ⟨by_, ln, at0, st0, num, fl⟩, ⟨c0, k0, n0⟩, ⟨c1, k1, n1⟩, ⟨c2, k2, n2⟩, ⟨c3, k3, n3⟩, tn⟩ := x
  obtain ⟨tp, mf, br, ba, sp, hr, tk, va, mt, st, rp, ta, cutr, cutw, ik, la, le, mc⟩ := m
  have hK := hJ
  obtain ⟨⟨N, eN, hX, hM⟩, e0, e1, I0, I1, hTP, hfl, S0, S1, S2, S3, htn⟩ := hK
  have eN : pl = nI N := eN
  subst eN
  have hfl : fl = mf := hfl
  subst hfl
  have htn : tn = mt := htn
  subst htn
  have hX : XT low high N g lo hi := hX
  have hM : MT st (bb low high) N w := hM
  have hTP : TP ln by_ tp ta := hTP
  have S0 : SH k0 n0 c0 la le mc 0 := S0
  have S1 : SH k1 n1 c1 la le mc 1 := S1
  have S2 : SH k2 n2 c2 la le mc 2 := S2
  have S3 : SH k3 n3 c3 la le mc 3 := S3
  have e0 : kf 0 = ik 0 := e0
  have e1 : kf 1 = ik 1 := e1
  unfold op_16
  exact o_below hX hM hJ
theorem h_17 {x : XS} {m : MS} {a1 a2 a3 a4 : Int32} (hJ : JV x m) : op_17 JV x m a1 a2 a3 a4 := by
  obtain ⟨⟨low, high, pl, g, lo, hi, w, car⟩, ⟨dl, dh, dp, dg, dlo, dhi, dw, dcar⟩, ⟨l0, h0, p0, g0, lo0, hi0, w0, car0⟩, ⟨l1, h1, p1, g1, lo1, hi1, w1, car1⟩, kf, ⟨by_, ln, at0, st0, num, fl⟩, ⟨c0, k0, n0⟩, ⟨c1, k1, n1⟩, ⟨c2, k2, n2⟩, ⟨c3, k3, n3⟩, tn⟩ := x
  obtain ⟨tp, mf, br, ba, sp, hr, tk, va, mt, st, rp, ta, cutr, cutw, ik, la, le, mc⟩ := m
  have hK := hJ
  obtain ⟨⟨N, eN, hX, hM⟩, e0, e1, I0, I1, hTP, hfl, S0, S1, S2, S3, htn⟩ := hK
  have eN : pl = nI N := eN
  subst eN
  have hfl : fl = mf := hfl
  subst hfl
  have htn : tn = mt := htn
  subst htn
  have hX : XT low high N g lo hi := hX
  have hM : MT st (bb low high) N w := hM
  have hTP : TP ln by_ tp ta := hTP
  have S0 : SH k0 n0 c0 la le mc 0 := S0
  have S1 : SH k1 n1 c1 la le mc 1 := S1
  have S2 : SH k2 n2 c2 la le mc 2 := S2
  have S3 : SH k3 n3 c3 la le mc 3 := S3
  have e0 : kf 0 = ik 0 := e0
  have e1 : kf 1 = ik 1 := e1
  unfold op_17
  exact o_up hX hM hJ
theorem h_18 {x : XS} {m : MS} {a1 a2 a3 a4 : Int32} (hJ : JV x m) : op_18 JV x m a1 a2 a3 a4 := by
  obtain ⟨⟨low, high, pl, g, lo, hi, w, car⟩, ⟨dl, dh, dp, dg, dlo, dhi, dw, dcar⟩, ⟨l0, h0, p0, g0, lo0, hi0, w0, car0⟩, ⟨l1, h1, p1, g1, lo1, hi1, w1, car1⟩, kf, ⟨by_, ln, at0, st0, num, fl⟩, ⟨c0, k0, n0⟩, ⟨c1, k1, n1⟩, ⟨c2, k2, n2⟩, ⟨c3, k3, n3⟩, tn⟩ := x
  obtain ⟨tp, mf, br, ba, sp, hr, tk, va, mt, st, rp, ta, cutr, cutw, ik, la, le, mc⟩ := m
  have hK := hJ
  obtain ⟨⟨N, eN, hX, hM⟩, e0, e1, I0, I1, hTP, hfl, S0, S1, S2, S3, htn⟩ := hK
  have eN : pl = nI N := eN
  subst eN
  have hfl : fl = mf := hfl
  subst hfl
  have htn : tn = mt := htn
  subst htn
  have hX : XT low high N g lo hi := hX
  have hM : MT st (bb low high) N w := hM
  have hTP : TP ln by_ tp ta := hTP
  have S0 : SH k0 n0 c0 la le mc 0 := S0
  have S1 : SH k1 n1 c1 la le mc 1 := S1
  have S2 : SH k2 n2 c2 la le mc 2 := S2
  have S3 : SH k3 n3 c3 la le mc 3 := S3
  have e0 : kf 0 = ik 0 := e0
  have e1 : kf 1 = ik 1 := e1
  unfold op_18
  exact o_meet hX hM hJ
theorem h_19 {x : XS} {m : MS} {a1 a2 a3 a4 : Int32} (hJ : JV x m) : op_19 JV x m a1 a2 a3 a4 := by
  obtain ⟨⟨low, high, pl, g, lo, hi, w, car⟩, ⟨dl, dh, dp, dg, dlo, dhi, dw, dcar⟩, ⟨l0, h0, p0, g0, lo0, hi0, w0, car0⟩, ⟨l1, h1, p1, g1, lo1, hi1, w1, car1⟩, kf, ⟨by_, ln, at0, st0, num, fl⟩, ⟨c0, k0, n0⟩, ⟨c1, k1, n1⟩, ⟨c2, k2, n2⟩, ⟨c3, k3, n3⟩, tn⟩ := x
  obtain ⟨tp, mf, br, ba, sp, hr, tk, va, mt, st, rp, ta, cutr, cutw, ik, la, le, mc⟩ := m
  have hK := hJ
  obtain ⟨⟨N, eN, hX, hM⟩, e0, e1, I0, I1, hTP, hfl, S0, S1, S2, S3, htn⟩ := hK
  have eN : pl = nI N := eN
  subst eN
  have hfl : fl = mf := hfl
  subst hfl
  have htn : tn = mt := htn
  subst htn
  have hX : XT low high N g lo hi := hX
  have hM : MT st (bb low high) N w := hM
  have hTP : TP ln by_ tp ta := hTP
  have S0 : SH k0 n0 c0 la le mc 0 := S0
  have S1 : SH k1 n1 c1 la le mc 1 := S1
  have S2 : SH k2 n2 c2 la le mc 2 := S2
  have S3 : SH k3 n3 c3 la le mc 3 := S3
  have e0 : kf 0 = ik 0 := e0
  have e1 : kf 1 = ik 1 := e1
  unfold op_19
  exact o_way hX hM hJ
theorem h_20 {x : XS} {m : MS} {a1 a2 a3 a4 : Int32} (hJ : JV x m) : op_20 JV x m a1 a2 a3 a4 := by
  obtain ⟨⟨low, high, pl, g, lo, hi, w, car⟩, ⟨dl, dh, dp, dg, dlo, dhi, dw, dcar⟩, ⟨l0, h0, p0, g0, lo0, hi0, w0, car0⟩, ⟨l1, h1, p1, g1, lo1, hi1, w1, car1⟩, kf, ⟨by_, ln, at0, st0, num, fl⟩, ⟨c0, k0, n0⟩, ⟨c1, k1, n1⟩, ⟨c2, k2, n2⟩, ⟨c3, k3, n3⟩, tn⟩ := x
  obtain ⟨tp, mf, br, ba, sp, hr, tk, va, mt, st, rp, ta, cutr, cutw, ik, la, le, mc⟩ := m
  have hK := hJ
  obtain ⟨⟨N, eN, hX, hM⟩, e0, e1, I0, I1, hTP, hfl, S0, S1, S2, S3, htn⟩ := hK
  have eN : pl = nI N := eN
  subst eN
  have hfl : fl = mf := hfl
  subst hfl
  have htn : tn = mt := htn
  subst htn
  have hX : XT low high N g lo hi := hX
  have hM : MT st (bb low high) N w := hM
  have hTP : TP ln by_ tp ta := hTP
  have S0 : SH k0 n0 c0 la le mc 0 := S0
  have S1 : SH k1 n1 c1 la le mc 1 := S1
  have S2 : SH k2 n2 c2 la le mc 2 := S2
  have S3 : SH k3 n3 c3 la le mc 3 := S3
  have e0 : kf 0 = ik 0 := e0
  have e1 : kf 1 = ik 1 := e1
  unfold op_20
  exact o_level hX hM hJ
theorem h_21 {x : XS} {m : MS} {a1 a2 a3 a4 : Int32} (hJ : JV x m) : op_21 JV x m a1 a2 a3 a4 := by
  obtain ⟨⟨low, high, pl, g, lo, hi, w, car⟩, ⟨dl, dh, dp, dg, dlo, dhi, dw, dcar⟩, ⟨l0, h0, p0, g0, lo0, hi0, w0, car0⟩, ⟨l1, h1, p1, g1, lo1, hi1, w1, car1⟩, kf, ⟨by_, ln, at0, st0, num, fl⟩, ⟨c0, k0, n0⟩, ⟨c1, k1, n1⟩, ⟨c2, k2, n2⟩, ⟨c3, k3, n3⟩, tn⟩ := x
  obtain ⟨tp, mf, br, ba, sp, hr, tk, va, mt, st, rp, ta, cutr, cutw, ik, la, le, mc⟩ := m
  have hK := hJ
  obtain ⟨⟨N, eN, hX, hM⟩, e0, e1, I0, I1, hTP, hfl, S0, S1, S2, S3, htn⟩ := hK
  have eN : pl = nI N := eN
  subst eN
  have hfl : fl = mf := hfl
  subst hfl
  have htn : tn = mt := htn
  subst htn
  have hX : XT low high N g lo hi := hX
  have hM : MT st (bb low high) N w := hM
  have hTP : TP ln by_ tp ta := hTP
  have S0 : SH k0 n0 c0 la le mc 0 := S0
  have S1 : SH k1 n1 c1 la le mc 1 := S1
  have S2 : SH k2 n2 c2 la le mc 2 := S2
  have S3 : SH k3 n3 c3 la le mc 3 := S3
  have e0 : kf 0 = ik 0 := e0
  have e1 : kf 1 = ik 1 := e1
  unfold op_21
  exact o_beside hX hM hJ
theorem h_22 {x : XS} {m : MS} {a1 a2 a3 a4 : Int32} (hJ : JV x m) : op_22 JV x m a1 a2 a3 a4 := by
  obtain ⟨⟨low, high, pl, g, lo, hi, w, car⟩, ⟨dl, dh, dp, dg, dlo, dhi, dw, dcar⟩, ⟨l0, h0, p0, g0, lo0, hi0, w0, car0⟩, ⟨l1, h1, p1, g1, lo1, hi1, w1, car1⟩, kf, ⟨by_, ln, at0, st0, num, fl⟩, ⟨c0, k0, n0⟩, ⟨c1, k1, n1⟩, ⟨c2, k2, n2⟩, ⟨c3, k3, n3⟩, tn⟩ := x
  obtain ⟨tp, mf, br, ba, sp, hr, tk, va, mt, st, rp, ta, cutr, cutw, ik, la, le, mc⟩ := m
  have hK := hJ
  obtain ⟨⟨N, eN, hX, hM⟩, e0, e1, I0, I1, hTP, hfl, S0, S1, S2, S3, htn⟩ := hK
  have eN : pl = nI N := eN
  subst eN
  have hfl : fl = mf := hfl
  subst hfl
  have htn : tn = mt := htn
  subst htn
  have hX : XT low high N g lo hi := hX
  have hM : MT st (bb low high) N w := hM
  have hTP : TP ln by_ tp ta := hTP
  have S0 : SH k0 n0 c0 la le mc 0 := S0
  have S1 : SH k1 n1 c1 la le mc 1 := S1
  have S2 : SH k2 n2 c2 la le mc 2 := S2
  have S3 : SH k3 n3 c3 la le mc 3 := S3
  have e0 : kf 0 = ik 0 := e0
  have e1 : kf 1 = ik 1 := e1
  unfold op_22
  exact o_deepest hX hM hJ
theorem h_23 {x : XS} {m : MS} {a1 a2 a3 a4 : Int32} (hJ : JV x m) : op_23 JV x m a1 a2 a3 a4 := by
  obtain ⟨⟨low, high, pl, g, lo, hi, w, car⟩, ⟨dl, dh, dp, dg, dlo, dhi, dw, dcar⟩, ⟨l0, h0, p0, g0, lo0, hi0, w0, car0⟩, ⟨l1, h1, p1, g1, lo1, hi1, w1, car1⟩, kf, ⟨by_, ln, at0, st0, num, fl⟩, ⟨c0, k0, n0⟩, ⟨c1, k1, n1⟩, ⟨c2, k2, n2⟩, ⟨c3, k3, n3⟩, tn⟩ := x
  obtain ⟨tp, mf, br, ba, sp, hr, tk, va, mt, st, rp, ta, cutr, cutw, ik, la, le, mc⟩ := m
  have hK := hJ
  obtain ⟨⟨N, eN, hX, hM⟩, e0, e1, I0, I1, hTP, hfl, S0, S1, S2, S3, htn⟩ := hK
  have eN : pl = nI N := eN
  subst eN
  have hfl : fl = mf := hfl
  subst hfl
  have htn : tn = mt := htn
  subst htn
  have hX : XT low high N g lo hi := hX
  have hM : MT st (bb low high) N w := hM
  have hTP : TP ln by_ tp ta := hTP
  have S0 : SH k0 n0 c0 la le mc 0 := S0
  have S1 : SH k1 n1 c1 la le mc 1 := S1
  have S2 : SH k2 n2 c2 la le mc 2 := S2
  have S3 : SH k3 n3 c3 la le mc 3 := S3
  have e0 : kf 0 = ik 0 := e0
  have e1 : kf 1 = ik 1 := e1
  unfold op_23
  exact o_alike hX hM hJ
theorem h_24 {x : XS} {m : MS} {a1 a2 a3 a4 : Int32} (hJ : JV x m) : op_24 JV x m a1 a2 a3 a4 := by
  obtain ⟨⟨low, high, pl, g, lo, hi, w, car⟩, ⟨dl, dh, dp, dg, dlo, dhi, dw, dcar⟩, ⟨l0, h0, p0, g0, lo0, hi0, w0, car0⟩, ⟨l1, h1, p1, g1, lo1, hi1, w1, car1⟩, kf, ⟨by_, ln, at0, st0, num, fl⟩, ⟨c0, k0, n0⟩, ⟨c1, k1, n1⟩, ⟨c2, k2, n2⟩, ⟨c3, k3, n3⟩, tn⟩ := x
  obtain ⟨tp, mf, br, ba, sp, hr, tk, va, mt, st, rp, ta, cutr, cutw, ik, la, le, mc⟩ := m
  have hK := hJ
  obtain ⟨⟨N, eN, hX, hM⟩, e0, e1, I0, I1, hTP, hfl, S0, S1, S2, S3, htn⟩ := hK
  have eN : pl = nI N := eN
  subst eN
  have hfl : fl = mf := hfl
  subst hfl
  have htn : tn = mt := htn
  subst htn
  have hX : XT low high N g lo hi := hX
  have hM : MT st (bb low high) N w := hM
  have hTP : TP ln by_ tp ta := hTP
  have S0 : SH k0 n0 c0 la le mc 0 := S0
  have S1 : SH k1 n1 c1 la le mc 1 := S1
  have S2 : SH k2 n2 c2 la le mc 2 := S2
  have S3 : SH k3 n3 c3 la le mc 3 := S3
  have e0 : kf 0 = ik 0 := e0
  have e1 : kf 1 = ik 1 := e1
  unfold op_24
  exact o_weight hX hM hJ
theorem h_25 {x : XS} {m : MS} {a1 a2 a3 a4 : Int32} (hJ : JV x m) : op_25 JV x m a1 a2 a3 a4 := by
  obtain ⟨⟨low, high, pl, g, lo, hi, w, car⟩, ⟨dl, dh, dp, dg, dlo, dhi, dw, dcar⟩, ⟨l0, h0, p0, g0, lo0, hi0, w0, car0⟩, ⟨l1, h1, p1, g1, lo1, hi1, w1, car1⟩, kf, ⟨by_, ln, at0, st0, num, fl⟩, ⟨c0, k0, n0⟩, ⟨c1, k1, n1⟩, ⟨c2, k2, n2⟩, ⟨c3, k3, n3⟩, tn⟩ := x
  obtain ⟨tp, mf, br, ba, sp, hr, tk, va, mt, st, rp, ta, cutr, cutw, ik, la, le, mc⟩ := m
  have hK := hJ
  obtain ⟨⟨N, eN, hX, hM⟩, e0, e1, I0, I1, hTP, hfl, S0, S1, S2, S3, htn⟩ := hK
  have eN : pl = nI N := eN
  subst eN
  have hfl : fl = mf := hfl
  subst hfl
  have htn : tn = mt := htn
  subst htn
  have hX : XT low high N g lo hi := hX
  have hM : MT st (bb low high) N w := hM
  have hTP : TP ln by_ tp ta := hTP
  have S0 : SH k0 n0 c0 la le mc 0 := S0
  have S1 : SH k1 n1 c1 la le mc 1 := S1
  have S2 : SH k2 n2 c2 la le mc 2 := S2
  have S3 : SH k3 n3 c3 la le mc 3 := S3
  have e0 : kf 0 = ik 0 := e0
  have e1 : kf 1 = ik 1 := e1
  unfold op_25
  exact o_set hX hM (fun w' st' h hf => IV.tree hJ ⟨N, rfl, hX, h⟩ hf)
theorem h_26 {x : XS} {m : MS} {a1 a2 a3 a4 : Int32} (hJ : JV x m) : op_26 JV x m a1 a2 a3 a4 := by
  obtain ⟨⟨low, high, pl, g, lo, hi, w, car⟩, ⟨dl, dh, dp, dg, dlo, dhi, dw, dcar⟩, ⟨l0, h0, p0, g0, lo0, hi0, w0, car0⟩, ⟨l1, h1, p1, g1, lo1, hi1, w1, car1⟩, kf, ⟨by_, ln, at0, st0, num, fl⟩, ⟨c0, k0, n0⟩, ⟨c1, k1, n1⟩, ⟨c2, k2, n2⟩, ⟨c3, k3, n3⟩, tn⟩ := x
  obtain ⟨tp, mf, br, ba, sp, hr, tk, va, mt, st, rp, ta, cutr, cutw, ik, la, le, mc⟩ := m
  have hK := hJ
  obtain ⟨⟨N, eN, hX, hM⟩, e0, e1, I0, I1, hTP, hfl, S0, S1, S2, S3, htn⟩ := hK
  have eN : pl = nI N := eN
  subst eN
  have hfl : fl = mf := hfl
  subst hfl
  have htn : tn = mt := htn
  subst htn
  have hX : XT low high N g lo hi := hX
  have hM : MT st (bb low high) N w := hM
  have hTP : TP ln by_ tp ta := hTP
  have S0 : SH k0 n0 c0 la le mc 0 := S0
  have S1 : SH k1 n1 c1 la le mc 1 := S1
  have S2 : SH k2 n2 c2 la le mc 2 := S2
  have S3 : SH k3 n3 c3 la le mc 3 := S3
  have e0 : kf 0 = ik 0 := e0
  have e1 : kf 1 = ik 1 := e1
  unfold op_26
  exact o_sum hX hM hJ
theorem h_27 {x : XS} {m : MS} {a1 a2 a3 a4 : Int32} (hJ : JV x m) : op_27 JV x m a1 a2 a3 a4 := by
  obtain ⟨⟨low, high, pl, g, lo, hi, w, car⟩, ⟨dl, dh, dp, dg, dlo, dhi, dw, dcar⟩, ⟨l0, h0, p0, g0, lo0, hi0, w0, car0⟩, ⟨l1, h1, p1, g1, lo1, hi1, w1, car1⟩, kf, ⟨by_, ln, at0, st0, num, fl⟩, ⟨c0, k0, n0⟩, ⟨c1, k1, n1⟩, ⟨c2, k2, n2⟩, ⟨c3, k3, n3⟩, tn⟩ := x
  obtain ⟨tp, mf, br, ba, sp, hr, tk, va, mt, st, rp, ta, cutr, cutw, ik, la, le, mc⟩ := m
  have hK := hJ
  obtain ⟨⟨N, eN, hX, hM⟩, e0, e1, I0, I1, hTP, hfl, S0, S1, S2, S3, htn⟩ := hK
  have eN : pl = nI N := eN
  subst eN
  have hfl : fl = mf := hfl
  subst hfl
  have htn : tn = mt := htn
  subst htn
  have hX : XT low high N g lo hi := hX
  have hM : MT st (bb low high) N w := hM
  have hTP : TP ln by_ tp ta := hTP
  have S0 : SH k0 n0 c0 la le mc 0 := S0
  have S1 : SH k1 n1 c1 la le mc 1 := S1
  have S2 : SH k2 n2 c2 la le mc 2 := S2
  have S3 : SH k3 n3 c3 la le mc 3 := S3
  have e0 : kf 0 = ik 0 := e0
  have e1 : kf 1 = ik 1 := e1
  unfold op_27
  exact o_heaviest hX hM hJ
theorem h_28 {x : XS} {m : MS} {a1 a2 a3 a4 : Int32} (hJ : JV x m) : op_28 JV x m a1 a2 a3 a4 := by
  obtain ⟨⟨low, high, pl, g, lo, hi, w, car⟩, ⟨dl, dh, dp, dg, dlo, dhi, dw, dcar⟩, ⟨l0, h0, p0, g0, lo0, hi0, w0, car0⟩, ⟨l1, h1, p1, g1, lo1, hi1, w1, car1⟩, kf, ⟨by_, ln, at0, st0, num, fl⟩, ⟨c0, k0, n0⟩, ⟨c1, k1, n1⟩, ⟨c2, k2, n2⟩, ⟨c3, k3, n3⟩, tn⟩ := x
  obtain ⟨tp, mf, br, ba, sp, hr, tk, va, mt, st, rp, ta, cutr, cutw, ik, la, le, mc⟩ := m
  have hK := hJ
  obtain ⟨⟨N, eN, hX, hM⟩, e0, e1, I0, I1, hTP, hfl, S0, S1, S2, S3, htn⟩ := hK
  have eN : pl = nI N := eN
  subst eN
  have hfl : fl = mf := hfl
  subst hfl
  have htn : tn = mt := htn
  subst htn
  have hX : XT low high N g lo hi := hX
  have hM : MT st (bb low high) N w := hM
  have hTP : TP ln by_ tp ta := hTP
  have S0 : SH k0 n0 c0 la le mc 0 := S0
  have S1 : SH k1 n1 c1 la le mc 1 := S1
  have S2 : SH k2 n2 c2 la le mc 2 := S2
  have S3 : SH k3 n3 c3 la le mc 3 := S3
  have e0 : kf 0 = ik 0 := e0
  have e1 : kf 1 = ik 1 := e1
  unfold op_28
  exact o_plant hX hM (fun u st' r hf => IV.tree hJ r hf)
theorem h_29 {x : XS} {m : MS} {a1 a2 a3 a4 : Int32} (hJ : JV x m) : op_29 JV x m a1 a2 a3 a4 := by
  obtain ⟨⟨low, high, pl, g, lo, hi, w, car⟩, ⟨dl, dh, dp, dg, dlo, dhi, dw, dcar⟩, ⟨l0, h0, p0, g0, lo0, hi0, w0, car0⟩, ⟨l1, h1, p1, g1, lo1, hi1, w1, car1⟩, kf, ⟨by_, ln, at0, st0, num, fl⟩, ⟨c0, k0, n0⟩, ⟨c1, k1, n1⟩, ⟨c2, k2, n2⟩, ⟨c3, k3, n3⟩, tn⟩ := x
  obtain ⟨tp, mf, br, ba, sp, hr, tk, va, mt, st, rp, ta, cutr, cutw, ik, la, le, mc⟩ := m
  have hK := hJ
  obtain ⟨⟨N, eN, hX, hM⟩, e0, e1, I0, I1, hTP, hfl, S0, S1, S2, S3, htn⟩ := hK
  have eN : pl = nI N := eN
  subst eN
  have hfl : fl = mf := hfl
  subst hfl
  have htn : tn = mt := htn
  subst htn
  have hX : XT low high N g lo hi := hX
  have hM : MT st (bb low high) N w := hM
  have hTP : TP ln by_ tp ta := hTP
  have S0 : SH k0 n0 c0 la le mc 0 := S0
  have S1 : SH k1 n1 c1 la le mc 1 := S1
  have S2 : SH k2 n2 c2 la le mc 2 := S2
  have S3 : SH k3 n3 c3 la le mc 3 := S3
  have e0 : kf 0 = ik 0 := e0
  have e1 : kf 1 = ik 1 := e1
  unfold op_29
  exact o_leaf hX hM (fun u st' r hf => IV.tree hJ r hf)
theorem h_30 {x : XS} {m : MS} {a1 a2 a3 a4 : Int32} (hJ : JV x m) : op_30 JV x m a1 a2 a3 a4 := by
  obtain ⟨⟨low, high, pl, g, lo, hi, w, car⟩, ⟨dl, dh, dp, dg, dlo, dhi, dw, dcar⟩, ⟨l0, h0, p0, g0, lo0, hi0, w0, car0⟩, ⟨l1, h1, p1, g1, lo1, hi1, w1, car1⟩, kf, ⟨by_, ln, at0, st0, num, fl⟩, ⟨c0, k0, n0⟩, ⟨c1, k1, n1⟩, ⟨c2, k2, n2⟩, ⟨c3, k3, n3⟩, tn⟩ := x
  obtain ⟨tp, mf, br, ba, sp, hr, tk, va, mt, st, rp, ta, cutr, cutw, ik, la, le, mc⟩ := m
  have hK := hJ
  obtain ⟨⟨N, eN, hX, hM⟩, e0, e1, I0, I1, hTP, hfl, S0, S1, S2, S3, htn⟩ := hK
  have eN : pl = nI N := eN
  subst eN
  have hfl : fl = mf := hfl
  subst hfl
  have htn : tn = mt := htn
  subst htn
  have hX : XT low high N g lo hi := hX
  have hM : MT st (bb low high) N w := hM
  have hTP : TP ln by_ tp ta := hTP
  have S0 : SH k0 n0 c0 la le mc 0 := S0
  have S1 : SH k1 n1 c1 la le mc 1 := S1
  have S2 : SH k2 n2 c2 la le mc 2 := S2
  have S3 : SH k3 n3 c3 la le mc 3 := S3
  have e0 : kf 0 = ik 0 := e0
  have e1 : kf 1 = ik 1 := e1
  unfold op_30
  exact o_prune hX hM (fun u st' r hf => IV.tree hJ r hf)
theorem h_31 {x : XS} {m : MS} {a1 a2 a3 a4 : Int32} (hJ : JV x m) : op_31 JV x m a1 a2 a3 a4 := by
  obtain ⟨⟨low, high, pl, g, lo, hi, w, car⟩, ⟨dl, dh, dp, dg, dlo, dhi, dw, dcar⟩, ⟨l0, h0, p0, g0, lo0, hi0, w0, car0⟩, ⟨l1, h1, p1, g1, lo1, hi1, w1, car1⟩, kf, ⟨by_, ln, at0, st0, num, fl⟩, ⟨c0, k0, n0⟩, ⟨c1, k1, n1⟩, ⟨c2, k2, n2⟩, ⟨c3, k3, n3⟩, tn⟩ := x
  obtain ⟨tp, mf, br, ba, sp, hr, tk, va, mt, st, rp, ta, cutr, cutw, ik, la, le, mc⟩ := m
  have hK := hJ
  obtain ⟨⟨N, eN, hX, hM⟩, e0, e1, I0, I1, hTP, hfl, S0, S1, S2, S3, htn⟩ := hK
  have eN : pl = nI N := eN
  subst eN
  have hfl : fl = mf := hfl
  subst hfl
  have htn : tn = mt := htn
  subst htn
  have hX : XT low high N g lo hi := hX
  have hM : MT st (bb low high) N w := hM
  have hTP : TP ln by_ tp ta := hTP
  have S0 : SH k0 n0 c0 la le mc 0 := S0
  have S1 : SH k1 n1 c1 la le mc 1 := S1
  have S2 : SH k2 n2 c2 la le mc 2 := S2
  have S3 : SH k3 n3 c3 la le mc 3 := S3
  have e0 : kf 0 = ik 0 := e0
  have e1 : kf 1 = ik 1 := e1
  unfold op_31
  exact o_fell hX hM (fun u st' r hf => IV.tree hJ r hf)
theorem h_32 {x : XS} {m : MS} {a1 a2 a3 a4 : Int32} (hJ : JV x m) : op_32 JV x m a1 a2 a3 a4 := by
  obtain ⟨⟨low, high, pl, g, lo, hi, w, car⟩, ⟨dl, dh, dp, dg, dlo, dhi, dw, dcar⟩, ⟨l0, h0, p0, g0, lo0, hi0, w0, car0⟩, ⟨l1, h1, p1, g1, lo1, hi1, w1, car1⟩, kf, ⟨by_, ln, at0, st0, num, fl⟩, ⟨c0, k0, n0⟩, ⟨c1, k1, n1⟩, ⟨c2, k2, n2⟩, ⟨c3, k3, n3⟩, tn⟩ := x
  obtain ⟨tp, mf, br, ba, sp, hr, tk, va, mt, st, rp, ta, cutr, cutw, ik, la, le, mc⟩ := m
  have hK := hJ
  obtain ⟨⟨N, eN, hX, hM⟩, e0, e1, I0, I1, hTP, hfl, S0, S1, S2, S3, htn⟩ := hK
  have eN : pl = nI N := eN
  subst eN
  have hfl : fl = mf := hfl
  subst hfl
  have htn : tn = mt := htn
  subst htn
  have hX : XT low high N g lo hi := hX
  have hM : MT st (bb low high) N w := hM
  have hTP : TP ln by_ tp ta := hTP
  have S0 : SH k0 n0 c0 la le mc 0 := S0
  have S1 : SH k1 n1 c1 la le mc 1 := S1
  have S2 : SH k2 n2 c2 la le mc 2 := S2
  have S3 : SH k3 n3 c3 la le mc 3 := S3
  have e0 : kf 0 = ik 0 := e0
  have e1 : kf 1 = ik 1 := e1
  unfold op_32
  exact o_wrap hX hM (fun u st' r hf => IV.tree hJ r hf)
theorem h_33 {x : XS} {m : MS} {a1 a2 a3 a4 : Int32} (hJ : JV x m) : op_33 JV x m a1 a2 a3 a4 := by
  obtain ⟨⟨low, high, pl, g, lo, hi, w, car⟩, ⟨dl, dh, dp, dg, dlo, dhi, dw, dcar⟩, ⟨l0, h0, p0, g0, lo0, hi0, w0, car0⟩, ⟨l1, h1, p1, g1, lo1, hi1, w1, car1⟩, kf, ⟨by_, ln, at0, st0, num, fl⟩, ⟨c0, k0, n0⟩, ⟨c1, k1, n1⟩, ⟨c2, k2, n2⟩, ⟨c3, k3, n3⟩, tn⟩ := x
  obtain ⟨tp, mf, br, ba, sp, hr, tk, va, mt, st, rp, ta, cutr, cutw, ik, la, le, mc⟩ := m
  have hK := hJ
  obtain ⟨⟨N, eN, hX, hM⟩, e0, e1, I0, I1, hTP, hfl, S0, S1, S2, S3, htn⟩ := hK
  have eN : pl = nI N := eN
  subst eN
  have hfl : fl = mf := hfl
  subst hfl
  have htn : tn = mt := htn
  subst htn
  have hX : XT low high N g lo hi := hX
  have hM : MT st (bb low high) N w := hM
  have hTP : TP ln by_ tp ta := hTP
  have S0 : SH k0 n0 c0 la le mc 0 := S0
  have S1 : SH k1 n1 c1 la le mc 1 := S1
  have S2 : SH k2 n2 c2 la le mc 2 := S2
  have S3 : SH k3 n3 c3 la le mc 3 := S3
  have e0 : kf 0 = ik 0 := e0
  have e1 : kf 1 = ik 1 := e1
  unfold op_33
  exact o_melt hX hM (fun u st' r hf => IV.tree hJ r hf)
theorem h_34 {x : XS} {m : MS} {a1 a2 a3 a4 : Int32} (hJ : JV x m) : op_34 JV x m a1 a2 a3 a4 := by
  obtain ⟨⟨low, high, pl, g, lo, hi, w, car⟩, ⟨dl, dh, dp, dg, dlo, dhi, dw, dcar⟩, ⟨l0, h0, p0, g0, lo0, hi0, w0, car0⟩, ⟨l1, h1, p1, g1, lo1, hi1, w1, car1⟩, kf, ⟨by_, ln, at0, st0, num, fl⟩, ⟨c0, k0, n0⟩, ⟨c1, k1, n1⟩, ⟨c2, k2, n2⟩, ⟨c3, k3, n3⟩, tn⟩ := x
  obtain ⟨tp, mf, br, ba, sp, hr, tk, va, mt, st, rp, ta, cutr, cutw, ik, la, le, mc⟩ := m
  have hK := hJ
  obtain ⟨⟨N, eN, hX, hM⟩, e0, e1, I0, I1, hTP, hfl, S0, S1, S2, S3, htn⟩ := hK
  have eN : pl = nI N := eN
  subst eN
  have hfl : fl = mf := hfl
  subst hfl
  have htn : tn = mt := htn
  subst htn
  have hX : XT low high N g lo hi := hX
  have hM : MT st (bb low high) N w := hM
  have hTP : TP ln by_ tp ta := hTP
  have S0 : SH k0 n0 c0 la le mc 0 := S0
  have S1 : SH k1 n1 c1 la le mc 1 := S1
  have S2 : SH k2 n2 c2 la le mc 2 := S2
  have S3 : SH k3 n3 c3 la le mc 3 := S3
  have e0 : kf 0 = ik 0 := e0
  have e1 : kf 1 = ik 1 := e1
  unfold op_34
  exact o_graft hX hM (fun a b c d e f g h st' cr' cw' r hf => IV.tree hJ r hf)
theorem h_35 {x : XS} {m : MS} {a1 a2 a3 a4 : Int32} (hJ : JV x m) : op_35 JV x m a1 a2 a3 a4 := by
  obtain ⟨⟨low, high, pl, g, lo, hi, w, car⟩, ⟨dl, dh, dp, dg, dlo, dhi, dw, dcar⟩, ⟨l0, h0, p0, g0, lo0, hi0, w0, car0⟩, ⟨l1, h1, p1, g1, lo1, hi1, w1, car1⟩, kf, ⟨by_, ln, at0, st0, num, fl⟩, ⟨c0, k0, n0⟩, ⟨c1, k1, n1⟩, ⟨c2, k2, n2⟩, ⟨c3, k3, n3⟩, tn⟩ := x
  obtain ⟨tp, mf, br, ba, sp, hr, tk, va, mt, st, rp, ta, cutr, cutw, ik, la, le, mc⟩ := m
  have hK := hJ
  obtain ⟨⟨N, eN, hX, hM⟩, e0, e1, I0, I1, hTP, hfl, S0, S1, S2, S3, htn⟩ := hK
  have eN : pl = nI N := eN
  subst eN
  have hfl : fl = mf := hfl
  subst hfl
  have htn : tn = mt := htn
  subst htn
  have hX : XT low high N g lo hi := hX
  have hM : MT st (bb low high) N w := hM
  have hTP : TP ln by_ tp ta := hTP
  have S0 : SH k0 n0 c0 la le mc 0 := S0
  have S1 : SH k1 n1 c1 la le mc 1 := S1
  have S2 : SH k2 n2 c2 la le mc 2 := S2
  have S3 : SH k3 n3 c3 la le mc 3 := S3
  have e0 : kf 0 = ik 0 := e0
  have e1 : kf 1 = ik 1 := e1
  unfold op_35
  exact o_grow hX hM (fun u st' r hf => IV.tree hJ r hf)
theorem h_36 {x : XS} {m : MS} {a1 a2 a3 a4 : Int32} (hJ : JV x m) : op_36 JV x m a1 a2 a3 a4 := by
  obtain ⟨⟨low, high, pl, g, lo, hi, w, car⟩, ⟨dl, dh, dp, dg, dlo, dhi, dw, dcar⟩, ⟨l0, h0, p0, g0, lo0, hi0, w0, car0⟩, ⟨l1, h1, p1, g1, lo1, hi1, w1, car1⟩, kf, ⟨by_, ln, at0, st0, num, fl⟩, ⟨c0, k0, n0⟩, ⟨c1, k1, n1⟩, ⟨c2, k2, n2⟩, ⟨c3, k3, n3⟩, tn⟩ := x
  obtain ⟨tp, mf, br, ba, sp, hr, tk, va, mt, st, rp, ta, cutr, cutw, ik, la, le, mc⟩ := m
  have hK := hJ
  obtain ⟨⟨N, eN, hX, hM⟩, e0, e1, I0, I1, hTP, hfl, S0, S1, S2, S3, htn⟩ := hK
  have eN : pl = nI N := eN
  subst eN
  have hfl : fl = mf := hfl
  subst hfl
  have htn : tn = mt := htn
  subst htn
  have hX : XT low high N g lo hi := hX
  have hM : MT st (bb low high) N w := hM
  have hTP : TP ln by_ tp ta := hTP
  have S0 : SH k0 n0 c0 la le mc 0 := S0
  have S1 : SH k1 n1 c1 la le mc 1 := S1
  have S2 : SH k2 n2 c2 la le mc 2 := S2
  have S3 : SH k3 n3 c3 la le mc 3 := S3
  have e0 : kf 0 = ik 0 := e0
  have e1 : kf 1 = ik 1 := e1
  unfold op_36
  refine ⟨?_, ?_, ?_⟩
  · rintro rfl
    exact o_keep_y (k := 0) hX hM (by omega) e0 (fun a b c d e f w' st' r hf => IV.keep0 hJ r hf)
  · rintro rfl
    exact o_keep_y (k := 1) hX hM (by omega) e1 (fun a b c d e f w' st' r hf => IV.keep1 hJ r hf)
  · intro z0 z1
    exact o_keep_n z0 z1 hJ
theorem h_37 {x : XS} {m : MS} {a1 a2 a3 a4 : Int32} (hJ : JV x m) : op_37 JV x m a1 a2 a3 a4 := by
  obtain ⟨⟨low, high, pl, g, lo, hi, w, car⟩, ⟨dl, dh, dp, dg, dlo, dhi, dw, dcar⟩, ⟨l0, h0, p0, g0, lo0, hi0, w0, car0⟩, ⟨l1, h1, p1, g1, lo1, hi1, w1, car1⟩, kf, ⟨by_, ln, at0, st0, num, fl⟩, ⟨c0, k0, n0⟩, ⟨c1, k1, n1⟩, ⟨c2, k2, n2⟩, ⟨c3, k3, n3⟩, tn⟩ := x
  obtain ⟨tp, mf, br, ba, sp, hr, tk, va, mt, st, rp, ta, cutr, cutw, ik, la, le, mc⟩ := m
  have hK := hJ
  obtain ⟨⟨N, eN, hX, hM⟩, e0, e1, I0, I1, hTP, hfl, S0, S1, S2, S3, htn⟩ := hK
  have eN : pl = nI N := eN
  subst eN
  have hfl : fl = mf := hfl
  subst hfl
  have htn : tn = mt := htn
  subst htn
  have hX : XT low high N g lo hi := hX
  have hM : MT st (bb low high) N w := hM
  have hTP : TP ln by_ tp ta := hTP
  have S0 : SH k0 n0 c0 la le mc 0 := S0
  have S1 : SH k1 n1 c1 la le mc 1 := S1
  have S2 : SH k2 n2 c2 la le mc 2 := S2
  have S3 : SH k3 n3 c3 la le mc 3 := S3
  have e0 : kf 0 = ik 0 := e0
  have e1 : kf 1 = ik 1 := e1
  unfold op_37
  refine ⟨?_, ?_, ?_⟩
  · rintro rfl
    exact o_back_y (k := 0) hX hM (by omega) e0 I0 (fun u st' r hf => IV.tree hJ r hf)
  · rintro rfl
    exact o_back_y (k := 1) hX hM (by omega) e1 I1 (fun u st' r hf => IV.tree hJ r hf)
  · intro z0 z1
    exact o_back_n z0 z1 hJ
theorem h_38 {x : XS} {m : MS} {a1 a2 a3 a4 : Int32} (hJ : JV x m) : op_38 JV x m a1 a2 a3 a4 := by
  obtain ⟨⟨low, high, pl, g, lo, hi, w, car⟩, ⟨dl, dh, dp, dg, dlo, dhi, dw, dcar⟩, ⟨l0, h0, p0, g0, lo0, hi0, w0, car0⟩, ⟨l1, h1, p1, g1, lo1, hi1, w1, car1⟩, kf, ⟨by_, ln, at0, st0, num, fl⟩, ⟨c0, k0, n0⟩, ⟨c1, k1, n1⟩, ⟨c2, k2, n2⟩, ⟨c3, k3, n3⟩, tn⟩ := x
  obtain ⟨tp, mf, br, ba, sp, hr, tk, va, mt, st, rp, ta, cutr, cutw, ik, la, le, mc⟩ := m
  have hK := hJ
  obtain ⟨⟨N, eN, hX, hM⟩, e0, e1, I0, I1, hTP, hfl, S0, S1, S2, S3, htn⟩ := hK
  have eN : pl = nI N := eN
  subst eN
  have hfl : fl = mf := hfl
  subst hfl
  have htn : tn = mt := htn
  subst htn
  have hX : XT low high N g lo hi := hX
  have hM : MT st (bb low high) N w := hM
  have hTP : TP ln by_ tp ta := hTP
  have S0 : SH k0 n0 c0 la le mc 0 := S0
  have S1 : SH k1 n1 c1 la le mc 1 := S1
  have S2 : SH k2 n2 c2 la le mc 2 := S2
  have S3 : SH k3 n3 c3 la le mc 3 := S3
  have e0 : kf 0 = ik 0 := e0
  have e1 : kf 1 = ik 1 := e1
  unfold op_38
  refine ⟨?_, ?_, ?_, ?_, ?_⟩
  · rintro rfl
    exact o_sheet_y (k := 0) (by omega) S0 (fun a b c la' le' mc' hs hf => IV.sh0 hJ hs hf rfl)
  · rintro rfl
    exact o_sheet_y (k := 1) (by omega) S1 (fun a b c la' le' mc' hs hf => IV.sh1 hJ hs hf rfl)
  · rintro rfl
    exact o_sheet_y (k := 2) (by omega) S2 (fun a b c la' le' mc' hs hf => IV.sh2 hJ hs hf rfl)
  · rintro rfl
    exact o_sheet_y (k := 3) (by omega) S3 (fun a b c la' le' mc' hs hf => IV.sh3 hJ hs hf rfl)
  · intro z0 z1 z2 z3
    exact o_sheet_n (n03 z0 z1 z2 z3) hJ
theorem h_39 {x : XS} {m : MS} {a1 a2 a3 a4 : Int32} (hJ : JV x m) : op_39 JV x m a1 a2 a3 a4 := by
  obtain ⟨⟨low, high, pl, g, lo, hi, w, car⟩, ⟨dl, dh, dp, dg, dlo, dhi, dw, dcar⟩, ⟨l0, h0, p0, g0, lo0, hi0, w0, car0⟩, ⟨l1, h1, p1, g1, lo1, hi1, w1, car1⟩, kf, ⟨by_, ln, at0, st0, num, fl⟩, ⟨c0, k0, n0⟩, ⟨c1, k1, n1⟩, ⟨c2, k2, n2⟩, ⟨c3, k3, n3⟩, tn⟩ := x
  obtain ⟨tp, mf, br, ba, sp, hr, tk, va, mt, st, rp, ta, cutr, cutw, ik, la, le, mc⟩ := m
  have hK := hJ
  obtain ⟨⟨N, eN, hX, hM⟩, e0, e1, I0, I1, hTP, hfl, S0, S1, S2, S3, htn⟩ := hK
  have eN : pl = nI N := eN
  subst eN
  have hfl : fl = mf := hfl
  subst hfl
  have htn : tn = mt := htn
  subst htn
  have hX : XT low high N g lo hi := hX
  have hM : MT st (bb low high) N w := hM
  have hTP : TP ln by_ tp ta := hTP
  have S0 : SH k0 n0 c0 la le mc 0 := S0
  have S1 : SH k1 n1 c1 la le mc 1 := S1
  have S2 : SH k2 n2 c2 la le mc 2 := S2
  have S3 : SH k3 n3 c3 la le mc 3 := S3
  have e0 : kf 0 = ik 0 := e0
  have e1 : kf 1 = ik 1 := e1
  unfold op_39
  refine ⟨?_, ?_, ?_, ?_, ?_⟩
  · rintro rfl
    exact o_lay_y (k := 0) (by omega) S0 (fun c mc' hs hf => IV.sh0 hJ hs hf rfl)
  · rintro rfl
    exact o_lay_y (k := 1) (by omega) S1 (fun c mc' hs hf => IV.sh1 hJ hs hf rfl)
  · rintro rfl
    exact o_lay_y (k := 2) (by omega) S2 (fun c mc' hs hf => IV.sh2 hJ hs hf rfl)
  · rintro rfl
    exact o_lay_y (k := 3) (by omega) S3 (fun c mc' hs hf => IV.sh3 hJ hs hf rfl)
  · intro z0 z1 z2 z3
    exact o_lay_n (n03 z0 z1 z2 z3) hJ
theorem h_40 {x : XS} {m : MS} {a1 a2 a3 a4 : Int32} (hJ : JV x m) : op_40 JV x m a1 a2 a3 a4 := by
  obtain ⟨⟨low, high, pl, g, lo, hi, w, car⟩, ⟨dl, dh, dp, dg, dlo, dhi, dw, dcar⟩, ⟨l0, h0, p0, g0, lo0, hi0, w0, car0⟩, ⟨l1, h1, p1, g1, lo1, hi1, w1, car1⟩, kf, ⟨by_, ln, at0, st0, num, fl⟩, ⟨c0, k0, n0⟩, ⟨c1, k1, n1⟩, ⟨c2, k2, n2⟩, ⟨c3, k3, n3⟩, tn⟩ := x
  obtain ⟨tp, mf, br, ba, sp, hr, tk, va, mt, st, rp, ta, cutr, cutw, ik, la, le, mc⟩ := m
  have hK := hJ
  obtain ⟨⟨N, eN, hX, hM⟩, e0, e1, I0, I1, hTP, hfl, S0, S1, S2, S3, htn⟩ := hK
  have eN : pl = nI N := eN
  subst eN
  have hfl : fl = mf := hfl
  subst hfl
  have htn : tn = mt := htn
  subst htn
  have hX : XT low high N g lo hi := hX
  have hM : MT st (bb low high) N w := hM
  have hTP : TP ln by_ tp ta := hTP
  have S0 : SH k0 n0 c0 la le mc 0 := S0
  have S1 : SH k1 n1 c1 la le mc 1 := S1
  have S2 : SH k2 n2 c2 la le mc 2 := S2
  have S3 : SH k3 n3 c3 la le mc 3 := S3
  have e0 : kf 0 = ik 0 := e0
  have e1 : kf 1 = ik 1 := e1
  unfold op_40
  refine ⟨?_, ?_, ?_, ?_, ?_⟩
  · rintro rfl
    exact o_look_y (k := 0) (by omega) S0 hJ
  · rintro rfl
    exact o_look_y (k := 1) (by omega) S1 hJ
  · rintro rfl
    exact o_look_y (k := 2) (by omega) S2 hJ
  · rintro rfl
    exact o_look_y (k := 3) (by omega) S3 hJ
  · intro z0 z1 z2 z3
    exact o_look_n (n03 z0 z1 z2 z3) hJ
theorem h_41 {x : XS} {m : MS} {a1 a2 a3 a4 : Int32} (hJ : JV x m) : op_41 JV x m a1 a2 a3 a4 := by
  obtain ⟨⟨low, high, pl, g, lo, hi, w, car⟩, ⟨dl, dh, dp, dg, dlo, dhi, dw, dcar⟩, ⟨l0, h0, p0, g0, lo0, hi0, w0, car0⟩, ⟨l1, h1, p1, g1, lo1, hi1, w1, car1⟩, kf, ⟨by_, ln, at0, st0, num, fl⟩, ⟨c0, k0, n0⟩, ⟨c1, k1, n1⟩, ⟨c2, k2, n2⟩, ⟨c3, k3, n3⟩, tn⟩ := x
  obtain ⟨tp, mf, br, ba, sp, hr, tk, va, mt, st, rp, ta, cutr, cutw, ik, la, le, mc⟩ := m
  have hK := hJ
  obtain ⟨⟨N, eN, hX, hM⟩, e0, e1, I0, I1, hTP, hfl, S0, S1, S2, S3, htn⟩ := hK
  have eN : pl = nI N := eN
  subst eN
  have hfl : fl = mf := hfl
  subst hfl
  have htn : tn = mt := htn
  subst htn
  have hX : XT low high N g lo hi := hX
  have hM : MT st (bb low high) N w := hM
  have hTP : TP ln by_ tp ta := hTP
  have S0 : SH k0 n0 c0 la le mc 0 := S0
  have S1 : SH k1 n1 c1 la le mc 1 := S1
  have S2 : SH k2 n2 c2 la le mc 2 := S2
  have S3 : SH k3 n3 c3 la le mc 3 := S3
  have e0 : kf 0 = ik 0 := e0
  have e1 : kf 1 = ik 1 := e1
  unfold op_41
  refine ⟨?_, ?_, ?_, ?_, ?_⟩
  · rintro rfl
    exact o_read_y (k := 0) hX hM (by omega) S0 (fun a b c d e f g a' b' c' d' e' f' g' st' rp' r hf => IV.tree hJ r hf)
  · rintro rfl
    exact o_read_y (k := 1) hX hM (by omega) S1 (fun a b c d e f g a' b' c' d' e' f' g' st' rp' r hf => IV.tree hJ r hf)
  · rintro rfl
    exact o_read_y (k := 2) hX hM (by omega) S2 (fun a b c d e f g a' b' c' d' e' f' g' st' rp' r hf => IV.tree hJ r hf)
  · rintro rfl
    exact o_read_y (k := 3) hX hM (by omega) S3 (fun a b c d e f g a' b' c' d' e' f' g' st' rp' r hf => IV.tree hJ r hf)
  · intro z0 z1 z2 z3
    exact o_read_n (n03 z0 z1 z2 z3) hJ
theorem h_42 {x : XS} {m : MS} {a1 a2 a3 a4 : Int32} (hJ : JV x m) : op_42 JV x m a1 a2 a3 a4 := by
  obtain ⟨⟨low, high, pl, g, lo, hi, w, car⟩, ⟨dl, dh, dp, dg, dlo, dhi, dw, dcar⟩, ⟨l0, h0, p0, g0, lo0, hi0, w0, car0⟩, ⟨l1, h1, p1, g1, lo1, hi1, w1, car1⟩, kf, ⟨by_, ln, at0, st0, num, fl⟩, ⟨c0, k0, n0⟩, ⟨c1, k1, n1⟩, ⟨c2, k2, n2⟩, ⟨c3, k3, n3⟩, tn⟩ := x
  obtain ⟨tp, mf, br, ba, sp, hr, tk, va, mt, st, rp, ta, cutr, cutw, ik, la, le, mc⟩ := m
  have hK := hJ
  obtain ⟨⟨N, eN, hX, hM⟩, e0, e1, I0, I1, hTP, hfl, S0, S1, S2, S3, htn⟩ := hK
  have eN : pl = nI N := eN
  subst eN
  have hfl : fl = mf := hfl
  subst hfl
  have htn : tn = mt := htn
  subst htn
  have hX : XT low high N g lo hi := hX
  have hM : MT st (bb low high) N w := hM
  have hTP : TP ln by_ tp ta := hTP
  have S0 : SH k0 n0 c0 la le mc 0 := S0
  have S1 : SH k1 n1 c1 la le mc 1 := S1
  have S2 : SH k2 n2 c2 la le mc 2 := S2
  have S3 : SH k3 n3 c3 la le mc 3 := S3
  have e0 : kf 0 = ik 0 := e0
  have e1 : kf 1 = ik 1 := e1
  unfold op_42
  refine ⟨?_, ?_, ?_, ?_, ?_⟩
  · rintro rfl
    exact o_stow_y (k := 0) hX hM (by omega) S0 (fun t c mc' hs hf => IV.sh0 hJ hs hf rfl)
  · rintro rfl
    exact o_stow_y (k := 1) hX hM (by omega) S1 (fun t c mc' hs hf => IV.sh1 hJ hs hf rfl)
  · rintro rfl
    exact o_stow_y (k := 2) hX hM (by omega) S2 (fun t c mc' hs hf => IV.sh2 hJ hs hf rfl)
  · rintro rfl
    exact o_stow_y (k := 3) hX hM (by omega) S3 (fun t c mc' hs hf => IV.sh3 hJ hs hf rfl)
  · intro z0 z1 z2 z3
    exact o_stow_n (n03 z0 z1 z2 z3) hJ
theorem h_43 {x : XS} {m : MS} {a1 a2 a3 a4 : Int32} (hJ : JV x m) : op_43 JV x m a1 a2 a3 a4 := by
  obtain ⟨⟨low, high, pl, g, lo, hi, w, car⟩, ⟨dl, dh, dp, dg, dlo, dhi, dw, dcar⟩, ⟨l0, h0, p0, g0, lo0, hi0, w0, car0⟩, ⟨l1, h1, p1, g1, lo1, hi1, w1, car1⟩, kf, ⟨by_, ln, at0, st0, num, fl⟩, ⟨c0, k0, n0⟩, ⟨c1, k1, n1⟩, ⟨c2, k2, n2⟩, ⟨c3, k3, n3⟩, tn⟩ := x
  obtain ⟨tp, mf, br, ba, sp, hr, tk, va, mt, st, rp, ta, cutr, cutw, ik, la, le, mc⟩ := m
  have hK := hJ
  obtain ⟨⟨N, eN, hX, hM⟩, e0, e1, I0, I1, hTP, hfl, S0, S1, S2, S3, htn⟩ := hK
  have eN : pl = nI N := eN
  subst eN
  have hfl : fl = mf := hfl
  subst hfl
  have htn : tn = mt := htn
  subst htn
  have hX : XT low high N g lo hi := hX
  have hM : MT st (bb low high) N w := hM
  have hTP : TP ln by_ tp ta := hTP
  have S0 : SH k0 n0 c0 la le mc 0 := S0
  have S1 : SH k1 n1 c1 la le mc 1 := S1
  have S2 : SH k2 n2 c2 la le mc 2 := S2
  have S3 : SH k3 n3 c3 la le mc 3 := S3
  have e0 : kf 0 = ik 0 := e0
  have e1 : kf 1 = ik 1 := e1
  unfold op_43
  exact ⟨rfl, hJ⟩
theorem h_44 {x : XS} {m : MS} {a1 a2 a3 a4 : Int32} (hJ : JV x m) : op_44 JV x m a1 a2 a3 a4 := by
  obtain ⟨⟨low, high, pl, g, lo, hi, w, car⟩, ⟨dl, dh, dp, dg, dlo, dhi, dw, dcar⟩, ⟨l0, h0, p0, g0, lo0, hi0, w0, car0⟩, ⟨l1, h1, p1, g1, lo1, hi1, w1, car1⟩, kf, ⟨by_, ln, at0, st0, num, fl⟩, ⟨c0, k0, n0⟩, ⟨c1, k1, n1⟩, ⟨c2, k2, n2⟩, ⟨c3, k3, n3⟩, tn⟩ := x
  obtain ⟨tp, mf, br, ba, sp, hr, tk, va, mt, st, rp, ta, cutr, cutw, ik, la, le, mc⟩ := m
  have hK := hJ
  obtain ⟨⟨N, eN, hX, hM⟩, e0, e1, I0, I1, hTP, hfl, S0, S1, S2, S3, htn⟩ := hK
  have eN : pl = nI N := eN
  subst eN
  have hfl : fl = mf := hfl
  subst hfl
  have htn : tn = mt := htn
  subst htn
  have hX : XT low high N g lo hi := hX
  have hM : MT st (bb low high) N w := hM
  have hTP : TP ln by_ tp ta := hTP
  have S0 : SH k0 n0 c0 la le mc 0 := S0
  have S1 : SH k1 n1 c1 la le mc 1 := S1
  have S2 : SH k2 n2 c2 la le mc 2 := S2
  have S3 : SH k3 n3 c3 la le mc 3 := S3
  have e0 : kf 0 = ik 0 := e0
  have e1 : kf 1 = ik 1 := e1
  unfold op_44
  obtain ⟨n, n1, rfl, rfl, hb⟩ := hTP
  exact o_count hX hM e0 e1 S0 hJ
theorem hops_all (x : XS) (m : MS) (a1 a2 a3 a4 : Int32) (h : JV x m) : ops JV x m a1 a2 a3 a4 := ⟨h_0 h, h_1 h, h_2 h, h_3 h, h_4 h, h_5 h, h_6 h, h_7 h, h_8 h, h_9 h, h_10 h, h_11 h, h_12 h, h_13 h, h_14 h, h_15 h, h_16 h, h_17 h, h_18 h, h_19 h, h_20 h, h_21 h, h_22 h, h_23 h, h_24 h, h_25 h, h_26 h, h_27 h, h_28 h, h_29 h, h_30 h, h_31 h, h_32 h, h_33 h, h_34 h, h_35 h, h_36 h, h_37 h, h_38 h, h_39 h, h_40 h, h_41 h, h_42 h, h_43 h, h_44 h⟩
