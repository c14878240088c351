/-! sheets: sheet, lay, look -/
theorem lp_fillL0 {f0 : Nat → Int64} {n D : Nat} {c0 : Int64} (ha : n ≤ D) (hD : D < 2147483648) {P : (Nat → Int64) → Prop} (h : ∀ f : Nat → Int64, (∀ k, f k = if k < n then c0 else f0 k) → P f) : ∃ (I : Int32 → (Nat → Int64) → Prop) (mu : Int32 → (Nat → Int64) → Nat), I 0 f0 ∧ ∀ (x : Int32) (f : Nat → Int64), I x f → ((nI n ≤ x → P f) ∧ (¬ nI n ≤ x → (vp_in x D ∧ (∀ z : Int32, z = x + 1 → (I z (vp_updL f x.toNatClampNeg c0) ∧ mu z (vp_updL f x.toNatClampNeg c0) < mu x f))))) := by
  refine ⟨fun x f => ∃ j, x = nI j ∧ j ≤ n ∧ ∀ k, f k = if k < j then c0 else f0 k, fun x _ => n - x.toNatClampNeg, ⟨0, rfl, Nat.zero_le _, fun k => by rw [if_neg (by omega)]⟩, ?_⟩
  rintro x f ⟨j, rfl, j1, hf⟩
  refine pk_le n j (fun c => h f ?_) (fun c => ?_)
  · rw [show n = j by omega]; exact hf
  · refine ⟨pk_in j D (by omega), ?_⟩
    rintro _ rfl
    rw [nI_1, nI_clamp (by omega)]
    refine ⟨⟨j + 1, rfl, c, fun k => ?_⟩, ?_⟩
    · by_cases e : k = j
      · rw [e, pk_uLs, if_pos (by omega)]
      · rw [pk_uLn e, hf k]
        by_cases e2 : k < j
        · rw [if_pos e2, if_pos (by omega)]
        · rw [if_neg e2, if_neg (by omega)]
    · dsimp only
      rw [nI_clamp (by omega), nI_clamp (by omega)]; omega
theorem lp_fill0 {f0 : Nat → Int32} {n D : Nat} {c0 : Int32} (ha : n ≤ D) (hD : D < 2147483648) {P : (Nat → Int32) → Prop} (h : ∀ f : Nat → Int32, (∀ k, f k = if k < n then c0 else f0 k) → P f) : ∃ (I : Int32 → (Nat → Int32) → Prop) (mu : Int32 → (Nat → Int32) → Nat), I 0 f0 ∧ ∀ (x : Int32) (f : Nat → Int32), I x f → ((nI n ≤ x → P f) ∧ (¬ nI n ≤ x → (vp_in x D ∧ (∀ z : Int32, z = x + 1 → (I z (upd f x.toNatClampNeg c0) ∧ mu z (upd f x.toNatClampNeg c0) < mu x f))))) := by
  refine ⟨fun x f => ∃ j, x = nI j ∧ j ≤ n ∧ ∀ k, f k = if k < j then c0 else f0 k, fun x _ => n - x.toNatClampNeg, ⟨0, rfl, Nat.zero_le _, fun k => by rw [if_neg (by omega)]⟩, ?_⟩
  rintro x f ⟨j, rfl, j1, hf⟩
  refine pk_le n j (fun c => h f ?_) (fun c => ?_)
  · rw [show n = j by omega]; exact hf
  · refine ⟨pk_in j D (by omega), ?_⟩
    rintro _ rfl
    rw [nI_1, nI_clamp (by omega)]
    refine ⟨⟨j + 1, rfl, c, fun k => ?_⟩, ?_⟩
    · by_cases e : k = j
      · rw [e, pk_us, if_pos (by omega)]
      · rw [pk_un e, hf k]
        by_cases e2 : k < j
        · rw [if_pos e2, if_pos (by omega)]
        · rw [if_neg e2, if_neg (by omega)]
    · dsimp only
      rw [nI_clamp (by omega), nI_clamp (by omega)]; omega
def SH (kd ln : Int32) (ce : Nat → Int64) (la le : Nat → Int32) (mc : Nat → Int64) (k : Nat) : Prop := (∃ n, n ≤ 40 ∧ ln = nI n ∧ le k = nI n ∧ ((kd = -1 ∧ la k = -4 ∧ n = 0) ∨ ∃ l, l < 3 ∧ kd = nI l ∧ la k = nI l)) ∧ ∀ i, i < 40 → ce i = mc (40 * k + i)
def SF (k : Nat) (la le la' le' : Nat → Int32) (mc mc' : Nat → Int64) : Prop := (∀ j, j ≠ k → la' j = la j ∧ le' j = le j) ∧ ∀ i, i < 40 * k ∨ 40 * k + 40 ≤ i → mc' i = mc i
theorem SF.rfl' {k : Nat} {la le : Nat → Int32} {mc : Nat → Int64} : SF k la le la le mc mc := ⟨fun _ _ => ⟨rfl, rfl⟩, fun _ _ => rfl⟩
theorem SH.frame {kd ln : Int32} {ce mc mc' : Nat → Int64} {la le la' le' : Nat → Int32} {j k : Nat} (h : SH kd ln ce la le mc j) (hf : SF k la le la' le' mc mc') (hjk : j ≠ k) : SH kd ln ce la' le' mc' j := by
  obtain ⟨⟨n, n1, n2, n3, n4⟩, hc⟩ := h
  obtain ⟨e1, e2⟩ := hf.1 j hjk
  refine ⟨⟨n, n1, n2, by rw [e2, n3], ?_⟩, fun i hi => ?_⟩
  · rw [e1]; exact n4
  · rw [hc i hi, hf.2 _ (by omega)]
theorem x_sheet_y {k : Nat} (hk : k < 4) {post : Int32 → Prop} (h : post 1) : wX5_isSheet (nI k) post := by
  unfold wX5_isSheet
  exact x_within (fun _ _ => ⟨nzb1, h⟩) (fun z => by rw [nI_toInt (by omega), show (0 : Int32).toInt = 0 from rfl, show (3 : Int32).toInt = 3 from rfl] at z; omega)
theorem n03 {p : Int32} (h0 : ¬ p = 0) (h1 : ¬ p = 1) (h2 : ¬ p = 2) (h3 : ¬ p = 3) : ¬ ((0 : Int) ≤ p.toInt ∧ p.toInt ≤ 3) := by
  rintro ⟨a, b⟩
  rcases upto p 3 with ⟨j, j1, rfl⟩ | y
  · rcases (show j = 0 ∨ j = 1 ∨ j = 2 ∨ j = 3 by omega) with rfl | rfl | rfl | rfl
    · exact h0 rfl
    · exact h1 rfl
    · exact h2 rfl
    · exact h3 rfl
  · omega
theorem x_sheet_n {p : Int32} (h : ¬ ((0 : Int) ≤ p.toInt ∧ p.toInt ≤ 3)) {post : Int32 → Prop} (h0 : post 0) : wX5_isSheet p post := by
  unfold wX5_isSheet
  exact x_within (fun z1 z2 => absurd ⟨z1, z2⟩ h) (fun _ => ⟨nzb0, h0⟩)
theorem lane_or (p : Int32) : (∃ l, l < 3 ∧ p = nI l) ∨ ¬ ((0 : Int) ≤ p.toInt ∧ p.toInt ≤ 2) := by
  rcases upto p 2 with ⟨j, j1, e⟩ | y
  · exact Or.inl ⟨j, by omega, e⟩
  · exact Or.inr (by omega)
theorem x_lane_y {l : Nat} (hl : l < 3) {post : Int32 → Prop} (h : post 1) : wX5_isLane (nI l) post := by
  unfold wX5_isLane
  exact x_within (fun _ _ => ⟨nzb1, h⟩) (fun z => by rw [nI_toInt (by omega), show (0 : Int32).toInt = 0 from rfl, show (2 : Int32).toInt = 2 from rfl] at z; omega)
theorem x_lane_n {p : Int32} (h : ¬ ((0 : Int) ≤ p.toInt ∧ p.toInt ≤ 2)) {post : Int32 → Prop} (h0 : post 0) : wX5_isLane p post := by
  unfold wX5_isLane
  exact x_within (fun z1 z2 => absurd ⟨z1, z2⟩ h) (fun _ => ⟨nzb0, h0⟩)
theorem m_in3 {k : Nat} (hk : k < 4) {post : Int32 → Prop} (h : post 1) : wX6_in ((nI k).toInt64) (0 : Int64) (3 : Int64) post := m_in_y (by rw [nI_toInt (by omega)]; show (0 : Int) ≤ _; omega) (by rw [nI_toInt (by omega)]; show _ ≤ (3 : Int); omega) h
theorem m_in2 {k : Nat} (hk : k < 3) {post : Int32 → Prop} (h : post 1) : wX6_in ((nI k).toInt64) (0 : Int64) (2 : Int64) post := m_in_y (by rw [nI_toInt (by omega)]; show (0 : Int) ≤ _; omega) (by rw [nI_toInt (by omega)]; show _ ≤ (2 : Int); omega) h
theorem o_sheet_y {kd ln : Int32} {ce mc : Nat → Int64} {la le : Nat → Int32} {k : Nat} (hk : k < 4) (hS : SH kd ln ce la le mc k) {p2 p3 : Int32} {Q : (Int32 × Int32 × (Nat → Int64)) → ((Nat → Int32) × (Nat → Int32) × (Nat → Int64)) → Prop} (hQ : ∀ a b c la' le' mc', SH a b c la' le' mc' k → SF k la le la' le' mc mc' → Q (a, b, c) (la', le', mc')) : wX5_sheet kd ln ce (nI k) p2 p3 (fun r1 u1 => wX6_sheet la le mc (nI k) p2 p3 (fun r2 u2 => r1 = r2 ∧ Q u1 u2)) := by
  have hQ0 := hQ _ _ _ _ _ _ hS SF.rfl'
  have hin : vp_in (nI k) 4 := pk_in k 4 hk
  unfold wX5_sheet
  refine x_sheet_y hk (t1a ?_)
  rcases lane_or p2 with ⟨l, hl, rfl⟩ | c
  · refine x_lane_y hl (t1a ⟨fun c40 => ⟨fun c0 => ⟨hin, ?_⟩, fun c0 => ?_⟩, fun c40 => ?_⟩)
    · obtain ⟨n, n1, rfl⟩ : ∃ n, n ≤ 40 ∧ p3 = nI n := by
        rw [Int32.le_iff_toInt_le] at c40 c0
        have c40 : p3.toInt ≤ 40 := c40
        have c0 : (0 : Int) ≤ p3.toInt := c0
        rcases upto p3 40 with ⟨j, j1, e⟩ | y
        · exact ⟨j, j1, e⟩
        · omega
      unfold wX2_renew
      rw [show (40 : Int32) = nI 40 from rfl]
      refine lp_fillL0 (by omega) (by omega) (fun f hf => ?_)
      unfold wX6_sheet
      refine m_in3 hk (t1a (m_in2 hl (t1a ⟨fun _ => ⟨fun _ => ⟨hin, hin, ?_⟩, fun z => absurd c0 z⟩, fun z => absurd c40 z⟩)))
      rw [show (40 : Int32) = nI 40 from rfl, pk_mul, nI_clamp (by omega)]
      refine lp_fillL (by omega) (by omega) (fun f2 hf2 => ⟨rfl, hQ _ _ _ _ _ _ ⟨⟨n, n1, rfl, pk_us, Or.inr ⟨l, hl, rfl, pk_us⟩⟩, fun i hi => ?_⟩ ⟨fun j hj => ⟨pk_un hj, pk_un hj⟩, fun i hi => ?_⟩⟩)
      · show f i = _
        rw [hf i, if_pos hi, hf2 _, if_pos (by omega)]
      · rw [hf2 i, if_neg (by omega)]
    · unfold wX6_sheet
      exact m_in3 hk (t1a (m_in2 hl (t1a ⟨fun _ => ⟨fun z => absurd z c0, fun _ => ⟨rfl, hQ0⟩⟩, fun z => absurd c40 z⟩)))
    · unfold wX6_sheet
      exact m_in3 hk (t1a (m_in2 hl (t1a ⟨fun z => absurd z c40, fun _ => ⟨rfl, hQ0⟩⟩)))
  · refine x_lane_n c (t0a ?_)
    unfold wX6_sheet
    exact m_in3 hk (t1a (m_in_n (show ¬ (Int64.toInt 0 ≤ p2.toInt ∧ p2.toInt ≤ Int64.toInt 2) from c) (t0a ⟨rfl, hQ0⟩)))
theorem o_sheet_n {kd ln p p2 p3 : Int32} {ce mc : Nat → Int64} {la le : Nat → Int32} (hn : ¬ ((0 : Int) ≤ p.toInt ∧ p.toInt ≤ 3)) {Q : (Int32 × Int32 × (Nat → Int64)) → ((Nat → Int32) × (Nat → Int32) × (Nat → Int64)) → Prop} (hQ : Q (kd, ln, ce) (la, le, mc)) : wX5_sheet kd ln ce p p2 p3 (fun r1 u1 => wX6_sheet la le mc p p2 p3 (fun r2 u2 => r1 = r2 ∧ Q u1 u2)) := by
  unfold wX5_sheet
  refine x_sheet_n hn (t0a ?_)
  unfold wX6_sheet
  exact m_in_n (show ¬ (Int64.toInt 0 ≤ p.toInt ∧ p.toInt ≤ Int64.toInt 3) from hn) (t0a ⟨rfl, hQ⟩)
def na (kd : Int32) (v : Int64) : Int64 := if kd = 0 then v.toInt32.toInt8.toInt32.toInt64 else if kd = 1 then v.toInt32.toInt64 else v
theorem lb_shr (x : Int64) {n k : Nat} (hn : n < 64) (hk : k < 64) : lb (zlshr x (nI n)) k = if n + k < 64 then lb x (n + k) else lb x 63 := by
  unfold lb zlshr
  rw [wb_c n hn, Int64.toBitVec_shiftRight, wb_tb, wb_sm n hn, BitVec.sshiftRight_eq', BitVec.getLsbD_sshiftRight, BitVec.toNat_ofNat, Nat.mod_eq_of_lt (show n < 2 ^ 64 by omega), decide_eq_false (show ¬ 64 ≤ k by omega), BitVec.msb_eq_getLsbD_last]
  rfl
theorem na_0 (v : Int64) : zlshr (zlshl v (56 : Int32)) (56 : Int32) = v.toInt32.toInt8.toInt32.toInt64 := by
  refine lb_ext (fun k hk => ?_)
  rw [show (56 : Int32) = nI 56 from rfl, lb_shr _ (by omega) hk]
  have e : ∀ k, k < 64 → lb v.toInt32.toInt8.toInt32.toInt64 k = if k < 8 then lb v k else lb v 7 := by
    intro k hk
    unfold lb
    rw [Int32.toBitVec_toInt64, Int8.toBitVec_toInt32, Int32.toBitVec_toInt8, Int64.toBitVec_toInt32]
    simp only [BitVec.getLsbD_signExtend, BitVec.msb_eq_getLsbD_last]
    by_cases c : k < 8
    · simp [c, hk, show k < 32 by omega]
    · by_cases c2 : k < 32 <;> simp [c, hk, c2]
  rw [e k hk]
  by_cases c : 56 + k < 64
  · rw [if_pos c, if_pos (by omega), lb_shl _ (by omega) c, decide_eq_true (show 56 ≤ 56 + k by omega), Bool.true_and, show 56 + k - 56 = k by omega]
  · rw [if_neg c, if_neg (by omega), lb_shl _ (by omega) (by omega)]
    rfl
theorem na_1 (v : Int64) : zlshr (zlshl v (32 : Int32)) (32 : Int32) = v.toInt32.toInt64 := by
  refine lb_ext (fun k hk => ?_)
  rw [show (32 : Int32) = nI 32 from rfl, lb_shr _ (by omega) hk]
  have e : ∀ k, k < 64 → lb v.toInt32.toInt64 k = if k < 32 then lb v k else lb v 31 := by
    intro k hk
    unfold lb
    rw [Int32.toBitVec_toInt64, Int64.toBitVec_toInt32]
    simp only [BitVec.getLsbD_signExtend, BitVec.msb_eq_getLsbD_last]
    by_cases c : k < 32
    · simp [c, hk]
    · simp [c, hk]
  rw [e k hk]
  by_cases c : 32 + k < 64
  · rw [if_pos c, if_pos (by omega), lb_shl _ (by omega) c, decide_eq_true (show 32 ≤ 32 + k by omega), Bool.true_and, show 32 + k - 32 = k by omega]
  · rw [if_neg c, if_neg (by omega), lb_shl _ (by omega) (by omega)]
    rfl
theorem m_narrowed {l : Int32} {v : Int64} {post : Int64 → Prop} (h : post (na l v)) : wX6_narrowed l v post := by
  unfold wX6_narrowed
  unfold na at h
  refine ⟨fun c => ⟨fun c1 => ?_, fun c1 => ?_⟩, fun c => ?_⟩
  · rw [if_neg c, if_neg c1] at h; exact h
  · rw [if_neg c, if_pos c1] at h; rw [na_1]; exact h
  · rw [if_pos c] at h; rw [na_0]; exact h
theorem x_put {kd : Int32} {ce : Nat → Int64} {v : Int64} {i : Nat} (hi : i < 40) {post : (Nat → Int64) → Prop} (h : post (vp_updL ce i (na kd v))) : wX2_put kd ce (nI i) v post := by
  unfold wX2_put
  unfold na at h
  rw [nI_clamp (by omega)]
  refine ⟨fun c => ⟨fun c1 => ⟨pk_in i 40 hi, ?_⟩, fun c1 => ?_⟩, fun c => ?_⟩
  · rw [if_neg c, if_neg c1] at h; exact h
  · rintro _ rfl
    rw [if_neg c, if_pos c1] at h
    exact ⟨pk_in i 40 hi, h⟩
  · rintro _ rfl
    rw [if_pos c] at h
    exact ⟨pk_in i 40 hi, h⟩
theorem x_hasCell_y {n i : Nat} (hn : n ≤ 40) (hi : i < n) {post : Int32 → Prop} (h : post 1) : wX2_hasCell (nI n) (nI i) post := by
  unfold wX2_hasCell
  exact ⟨fun z => absurd z (nI_pos (by omega)), fun _ => pk_le n i (fun z => by omega) (fun _ => h)⟩
theorem x_hasCell_n {n : Nat} {p : Int32} (hn : n ≤ 40) (hp : p.toInt < 0 ∨ (n : Int) ≤ p.toInt) {post : Int32 → Prop} (h : post 0) : wX2_hasCell (nI n) p post := by
  unfold wX2_hasCell
  refine ⟨fun _ => h, fun c => ⟨fun _ => h, fun c2 => ?_⟩⟩
  rw [neg_iff] at c
  rw [Int32.le_iff_toInt_le, nI_toInt (by omega)] at c2
  omega
theorem x_isNothing_y {post : Int32 → Prop} (h : post 1) : wX2_isNothing (-1) post := ⟨fun z => absurd rfl z, fun _ => h⟩
theorem lane_ne {l : Nat} (hl : l < 3) : ¬ nI l = (-1 : Int32) ∧ ¬ nI l = (-4 : Int32) := by
  rcases (show l = 0 ∨ l = 1 ∨ l = 2 by omega) with rfl | rfl | rfl <;> exact ⟨by decide, by decide⟩
theorem x_isNothing_n {l : Nat} (hl : l < 3) {post : Int32 → Prop} (h : post 0) : wX2_isNothing (nI l) post := ⟨fun _ => h, fun z => absurd z (lane_ne hl).1⟩
theorem SH.put {kd ln : Int32} {ce mc : Nat → Int64} {la le : Nat → Int32} {k i : Nat} {v : Int64} (hS : SH kd ln ce la le mc k) : SH kd ln (vp_updL ce i v) la le (vp_updL mc (40 * k + i) v) k := by
  refine ⟨hS.1, fun j hj => ?_⟩
  by_cases e : j = i
  · rw [e, pk_uLs, pk_uLs]
  · rw [pk_uLn e, pk_uLn (by omega)]; exact hS.2 j hj
theorem o_lay_y {kd ln : Int32} {ce mc : Nat → Int64} {la le : Nat → Int32} {k : Nat} (hk : k < 4) (hS : SH kd ln ce la le mc k) {p2 : Int32} {v : Int64} {Q : (Nat → Int64) → (Nat → Int64) → Prop} (hQ : ∀ c mc', SH kd ln c la le mc' k → SF k la le la le mc mc' → Q c mc') : wX5_lay kd ln ce (nI k) p2 v (fun r1 u1 => wX6_lay la le mc (nI k) p2 v (fun r2 u2 => r1 = r2 ∧ Q u1 u2)) := by
  have hQ0 := hQ _ _ hS SF.rfl'
  have hin : vp_in (nI k) 4 := pk_in k 4 hk
  have hc : (nI k).toNatClampNeg = k := nI_clamp (by omega)
  obtain ⟨⟨n, n1, rfl, n3, n4⟩, hce⟩ := hS
  have hS : SH kd (nI n) ce la le mc k := ⟨⟨n, n1, rfl, n3, n4⟩, hce⟩
  unfold wX5_lay
  refine x_sheet_y hk (t1b ⟨hin, ?_⟩)
  rcases n4 with ⟨rfl, e2, e3⟩ | ⟨l, hl, rfl, e2⟩
  · refine x_isNothing_y (t1a ?_)
    unfold wX6_lay
    refine m_in3 hk (t1b ⟨hin, ?_⟩)
    rw [hc, e2]
    exact ⟨fun z => absurd rfl z, fun _ => ⟨rfl, hQ0⟩⟩
  · refine x_isNothing_n hl (t0a ⟨hin, ?_⟩)
    rcases node_or p2 n with ⟨i, hi, rfl⟩ | c
    · refine x_hasCell_y n1 hi (t1b ⟨hin, x_put (by omega) ?_⟩)
      unfold wX6_lay
      refine m_in3 hk (t1b ⟨hin, ?_⟩)
      rw [hc, e2, n3]
      refine ⟨fun _ => ⟨hin, ?_⟩, fun z => absurd z (lane_ne hl).2⟩
      refine m_in_y (by rw [nI_toInt (by omega)]; show (0 : Int) ≤ _; omega) (by rw [pl1 (by omega), nI_toInt (by omega)]; omega) (t1b ⟨hin, m_narrowed ?_⟩)
      rw [show (40 : Int32) = nI 40 from rfl, pk_mul, nI_add, nI_clamp (by omega)]
      refine ⟨pk_in (40 * k + i) 160 (by omega), rfl, hQ _ _ hS.put ⟨fun _ _ => ⟨rfl, rfl⟩, fun j hj => pk_uLn (by omega)⟩⟩
    · refine x_hasCell_n n1 c (t0b ?_)
      unfold wX6_lay
      refine m_in3 hk (t1b ⟨hin, ?_⟩)
      rw [hc, e2, n3]
      refine ⟨fun _ => ⟨hin, ?_⟩, fun z => absurd z (lane_ne hl).2⟩
      exact m_in_n (by rw [pl1 (by omega)]; show ¬ ((0 : Int) ≤ _ ∧ _); omega) (t0b ⟨rfl, hQ0⟩)
theorem o_lay_n {kd ln p p2 : Int32} {v : Int64} {ce mc : Nat → Int64} {la le : Nat → Int32} (hn : ¬ ((0 : Int) ≤ p.toInt ∧ p.toInt ≤ 3)) {Q : (Nat → Int64) → (Nat → Int64) → Prop} (hQ : Q ce mc) : wX5_lay kd ln ce p p2 v (fun r1 u1 => wX6_lay la le mc p p2 v (fun r2 u2 => r1 = r2 ∧ Q u1 u2)) := by
  unfold wX5_lay
  refine x_sheet_n hn (t0b ?_)
  unfold wX6_lay
  exact m_in_n (show ¬ (Int64.toInt 0 ≤ p.toInt ∧ p.toInt ≤ Int64.toInt 3) from hn) (t0b ⟨rfl, hQ⟩)
theorem o_look_y {kd ln : Int32} {ce mc : Nat → Int64} {la le : Nat → Int32} {k : Nat} (hk : k < 4) (hS : SH kd ln ce la le mc k) {p2 : Int32} {Q : Prop} (hQ : Q) : wX5_look ln ce (nI k) p2 (fun r1 => wX6_look la le mc (nI k) p2 (fun r2 => r1 = r2 ∧ Q)) := by
  have hin : vp_in (nI k) 4 := pk_in k 4 hk
  have hc : (nI k).toNatClampNeg = k := nI_clamp (by omega)
  obtain ⟨⟨n, n1, rfl, n3, n4⟩, hce⟩ := hS
  unfold wX5_look
  refine x_sheet_y hk (t1a ⟨hin, ?_⟩)
  rcases n4 with ⟨rfl, e2, e3⟩ | ⟨l, hl, rfl, e2⟩
  · subst e3
    refine x_hasCell_n (by omega) (by rcases Int.lt_or_le p2.toInt 0 with y | y <;> omega) (t0a ?_)
    unfold wX6_look
    refine m_in3 hk (t1a ⟨hin, ?_⟩)
    rw [hc, e2]
    exact ⟨fun _ => ⟨rfl, hQ⟩, fun z => absurd rfl z⟩
  · rcases node_or p2 n with ⟨i, hi, rfl⟩ | c
    · refine x_hasCell_y n1 hi (t1a ⟨hin, pk_in i 40 (by omega), ?_⟩)
      unfold wX6_look
      refine m_in3 hk (t1a ⟨hin, ?_⟩)
      rw [hc, e2, n3]
      refine ⟨fun z => absurd z (lane_ne hl).2, fun _ => ⟨hin, ?_⟩⟩
      refine m_in_y (by rw [nI_toInt (by omega)]; show (0 : Int) ≤ _; omega) (by rw [pl1 (by omega), nI_toInt (by omega)]; omega) (t1a ?_)
      rw [show (40 : Int32) = nI 40 from rfl, pk_mul, nI_add, nI_clamp (by omega), nI_clamp (by omega)]
      exact ⟨pk_in (40 * k + i) 160 (by omega), hce i (by omega), hQ⟩
    · refine x_hasCell_n n1 c (t0a ?_)
      unfold wX6_look
      refine m_in3 hk (t1a ⟨hin, ?_⟩)
      rw [hc, e2, n3]
      refine ⟨fun z => absurd z (lane_ne hl).2, fun _ => ⟨hin, ?_⟩⟩
      exact m_in_n (by rw [pl1 (by omega)]; show ¬ ((0 : Int) ≤ _ ∧ _); omega) (t0a ⟨rfl, hQ⟩)
theorem o_look_n {ln p p2 : Int32} {ce mc : Nat → Int64} {la le : Nat → Int32} (hn : ¬ ((0 : Int) ≤ p.toInt ∧ p.toInt ≤ 3)) {Q : Prop} (hQ : Q) : wX5_look ln ce p p2 (fun r1 => wX6_look la le mc p p2 (fun r2 => r1 = r2 ∧ Q)) := by
  unfold wX5_look
  refine x_sheet_n hn (t0a ?_)
  unfold wX6_look
  exact m_in_n (show ¬ (Int64.toInt 0 ≤ p.toInt ∧ p.toInt ≤ Int64.toInt 3) from hn) (t0a ⟨rfl, hQ⟩)
