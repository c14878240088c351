/-! sums, likeness: both sides -/
def sA (f : Nat → Int32) (P : Nat → Bool) : Nat → Int64
  | 0 => 0
  | n + 1 => sA f P n + (if P n then (f n).toInt64 else 0)
theorem sA_s (f : Nat → Int32) (P : Nat → Bool) (n : Nat) : sA f P (n + 1) = sA f P n + (if P n then (f n).toInt64 else 0) := rfl
theorem L0 (x : Int64) : x + 0 = x := Int64.add_zero x
theorem sA_no {f : Nat → Int32} {P : Nat → Bool} {n : Nat} (h : P n = false) : sA f P (n + 1) = sA f P n := by rw [sA_s, h]; exact L0 _
theorem sA_yes {f : Nat → Int32} {P : Nat → Bool} {n : Nat} (h : P n = true) : sA f P (n + 1) = sA f P n + (f n).toInt64 := by rw [sA_s, h]; rfl
theorem sA_gap {f : Nat → Int32} {P : Nat → Bool} {a : Nat} : ∀ n, (∀ u, a ≤ u → u < a + n → P u = false) → sA f P (a + n) = sA f P a
  | 0, _ => rfl
  | n + 1, h => by rw [← Nat.add_assoc, sA_no (h (a + n) (by omega) (by omega)), sA_gap n (fun u u1 u2 => h u u1 (by omega))]
theorem sA_gap' {f : Nat → Int32} {P : Nat → Bool} {a b : Nat} (hab : a ≤ b) (h : ∀ u, a ≤ u → u < b → P u = false) : sA f P b = sA f P a := by
  have := sA_gap (f := f) (P := P) (a := a) (b - a) (fun u u1 u2 => h u u1 (by omega))
  rw [show a + (b - a) = b by omega] at this; exact this
/-- the nodes whose weights the reference sums -/
noncomputable def PS0 (B : Nat → Bool) (N v u : Nat) : Bool := decide (v ≤ u ∧ u < v + sz B N v)
noncomputable def PS1 (B : Nat → Bool) (N v u : Nat) : Bool := decide (u ≤ v ∧ v < u + sz B N u)
theorem m_sum {st w : Nat → Int32} {B : Nat → Bool} {N v s : Nat} (hM : MT st B N w) (hT : Tr B N) (hv : v < fb_ct B N) (hs : s ≤ 1) {post : Int32 → Prop} (h : ((lg_cmp (sA w (if s = 0 then PS0 B N v else PS1 B N v) (fb_ct B N)) (2147483647 : Int64)) ≤ 0 → post ((sA w (if s = 0 then PS0 B N v else PS1 B N v) (fb_ct B N)).toInt32)) ∧ (¬ (lg_cmp (sA w (if s = 0 then PS0 B N v else PS1 B N v) (fb_ct B N)) (2147483647 : Int64)) ≤ 0 → post (-5))) : wX6_sum st (nI v) (nI s) post := by
  have h64 := hM.m64 hT
  unfold wX6_sum
  refine m_node1 hM.2.1 h64 hv (t1a ?_)
  refine m_in_y (by rw [nI_toInt (by omega)]; show (0 : Int) ≤ _; omega) (by rw [nI_toInt (by omega)]; show _ ≤ (1 : Int); omega) (t1b ?_)
  obtain ⟨P, hP⟩ : ∃ P, P = (if s = 0 then PS0 B N v else PS1 B N v) := ⟨_, rfl⟩
  rw [← hP] at h
  obtain ⟨I, hI⟩ : ∃ I : Int64 → Int32 → Prop, ∀ a x, I a x ↔ ∃ u, u ≤ fb_ct B N ∧ x = nI u ∧ a = sA w P u := ⟨_, fun _ _ => Iff.rfl⟩
  obtain ⟨mu, hmu⟩ : ∃ mu : Int64 → Int32 → Nat, ∀ a x, mu a x = fb_ct B N - x.toNatClampNeg := ⟨_, fun _ _ => rfl⟩
  refine ⟨I, mu, (hI _ _).mpr ⟨0, Nat.zero_le _, rfl, rfl⟩, ?_⟩
  intro a x hIk
  obtain ⟨u, u1, rfl, rfl⟩ := (hI a x).mp hIk
  clear hIk
  refine m_many hM.2.1 ?_
  refine pk_le (fb_ct B N) u (fun c => by rw [show u = fb_ct B N by omega]; exact h) (fun c => ?_)
  have no : P u = false → ∀ x : Int64, x = sA w P u + 0 → ∀ y, y = nI u + 1 → (I x y ∧ mu x y < mu (sA w P u) (nI u)) := by
    rintro hp _ rfl _ rfl
    rw [nI_1, L0]
    refine ⟨(hI _ _).mpr ⟨u + 1, by omega, rfl, (sA_no hp).symm⟩, ?_⟩
    rw [hmu, hmu, nI_clamp (by omega), nI_clamp (by omega)]; omega
  have yes : P u = true → (vp_in ((128 : Int32) + nI u) 579 ∧ ∀ x : Int64, x = sA w P u + (st ((128 : Int32) + nI u).toNatClampNeg).toInt64 → ∀ y, y = nI u + 1 → (I x y ∧ mu x y < mu (sA w P u) (nI u))) := by
    intro hp
    rw [show (128 : Int32) = nI 128 from rfl, nI_add]
    refine ⟨pk_in (128 + u) 579 (by omega), ?_⟩
    rw [nI_clamp (by omega), hM.2.2 u c]
    rintro _ rfl _ rfl
    rw [nI_1]
    refine ⟨(hI _ _).mpr ⟨u + 1, by omega, rfl, (sA_yes hp).symm⟩, ?_⟩
    rw [hmu, hmu, nI_clamp (by omega), nI_clamp (by omega)]; omega
  refine pk_ne s 0 (fun e => ?_) (fun e => ?_)
  · rw [if_neg e] at hP
    refine m_isAbove hM.1 hT c hv (fun a1 a2 => t1a (yes ?_)) (fun a => t0a (no ?_))
    · rw [hP]; exact decide_eq_true ⟨a1, a2⟩
    · rw [hP]; exact decide_eq_false a
  · rw [if_pos e] at hP
    refine m_isAbove hM.1 hT hv c (fun a1 a2 => t1a (yes ?_)) (fun a => t0a (no ?_))
    · rw [hP]; exact decide_eq_true ⟨a1, a2⟩
    · rw [hP]; exact decide_eq_false a
theorem x_weightBelow {low high : Int64} {N : Nat} {g lo hi : Nat → Int32} (hX : XT low high N g lo hi) {w : Nat → Int32} {v : Nat} (hv : v < fb_ct (bb low high) N) (h64 : fb_ct (bb low high) N ≤ 64) {post : Int64 → Prop} (h : post (sA w (PS0 (bb low high) N v) (fb_ct (bb low high) N))) : wX4_weightBelow low high (nI N) g lo hi w (nI v) post := by
  obtain ⟨z1, z2, z3, z4⟩ := sz_eq hX.1 hv
  unfold wX4_weightBelow
  refine x_nodesOf hX hv ?_
  rw [nI_add, cap_64 (by omega)]
  rintro _ rfl
  have hin : ∀ u, v ≤ u → u < v + sz (bb low high) N v → PS0 (bb low high) N v u = true := fun u u1 u2 => decide_eq_true ⟨u1, u2⟩
  have hlo : sA w (PS0 (bb low high) N v) v = 0 := by
    have := sA_gap' (f := w) (P := PS0 (bb low high) N v) (Nat.zero_le v) (fun u u1 u2 => decide_eq_false (by omega))
    rw [this]; rfl
  have hhi : sA w (PS0 (bb low high) N v) (fb_ct (bb low high) N) = sA w (PS0 (bb low high) N v) (v + sz (bb low high) N v) := sA_gap' z3 (fun u u1 u2 => decide_eq_false (by omega))
  refine ⟨fun a x => ∃ u, v ≤ u ∧ u ≤ v + sz (bb low high) N v ∧ x = nI u ∧ a = sA w (PS0 (bb low high) N v) u, fun _ x => v + sz (bb low high) N v - x.toNatClampNeg, ⟨v, Nat.le_refl _, by omega, rfl, hlo.symm⟩, ?_⟩
  rintro a x ⟨u, u1, u2, rfl, rfl⟩
  refine pk_le (v + sz (bb low high) N v) u (fun c => ?_) (fun c => ⟨pk_in u 64 (by omega), ?_⟩)
  · rw [hhi] at h
    rw [show u = v + sz (bb low high) N v by omega]; exact h
  · rw [nI_clamp (by omega)]
    rintro _ rfl _ rfl
    rw [nI_1]
    refine ⟨⟨u + 1, by omega, by omega, rfl, (sA_yes (hin u u1 c)).symm⟩, ?_⟩
    dsimp only; rw [nI_clamp (by omega), nI_clamp (by omega)]; omega
theorem ex_deep {B : Nat → Bool} {N q : Nat} (hT : Tr B N) (hq : q < N) (hB : B q = true) : ex B q ≤ 63 := by
  have h1 := fb_ct_mono B (show q + 1 ≤ N from hq)
  have h2 := ex_t hB
  have h3 := ex_b B q
  have h4 := hT.2.1
  have h5 := hT.1
  unfold ex at *
  omega
theorem x_weightAbove {low high : Int64} {N : Nat} {g lo hi : Nat → Int32} (hX : XT low high N g lo hi) {w : Nat → Int32} {v : Nat} (hv : v < fb_ct (bb low high) N) (h64 : fb_ct (bb low high) N ≤ 64) {post : Int64 → Prop} (h : post (sA w (PS1 (bb low high) N v) (fb_ct (bb low high) N))) : wX4_weightAbove low high (nI N) g lo hi w (nI v) post := by
  obtain ⟨o1, o2, o3⟩ := kp_spec hv
  have hs := sh_spec hX.1 o1 o2
  have hdp := ex_deep hX.1 o1 o2
  have hhi : sA w (PS1 (bb low high) N v) (fb_ct (bb low high) N) = sA w (PS1 (bb low high) N v) (v + 1) := sA_gap' hv (fun u u1 u2 => decide_eq_false (by omega))
  rw [hhi] at h
  have anc : ∀ k q, AN (bb low high) (kp (bb low high) N v) k q → kp (bb low high) N (fb_ct (bb low high) q) = q ∧ fb_ct (bb low high) q < fb_ct (bb low high) N ∧ PS1 (bb low high) N v (fb_ct (bb low high) q) = true := by
    intro k q hq
    have hb := hq.opn o2
    have hl := hq.1
    obtain ⟨c1, c2⟩ := kp_ct' (show q < N by omega) hb
    refine ⟨c1, c2, decide_eq_true ((IN_iff hX.1 c2 hv).mpr ?_)⟩
    rw [c1]
    have := hq.in hX.1 o1 o2
    omega
  unfold wX4_weightAbove
  refine ⟨fun a x y => ∃ k, k ≤ 64 ∧ y = nI k ∧ ((∃ q, AN (bb low high) (kp (bb low high) N v) k q ∧ x = nI (fb_ct (bb low high) q) ∧ a + sA w (PS1 (bb low high) N v) (fb_ct (bb low high) q + 1) = sA w (PS1 (bb low high) N v) (v + 1)) ∨ (x = -4 ∧ a = sA w (PS1 (bb low high) N v) (v + 1))), fun _ _ y => 64 - y.toNatClampNeg, ⟨0, by omega, rfl, Or.inl ⟨kp (bb low high) N v, AN.zero _ _, by rw [o3], by rw [o3]; exact Int64.zero_add _⟩⟩, ?_⟩
  rintro a x y ⟨k, k1, rfl, hk⟩
  rcases hk with ⟨q, hq, rfl, hsum⟩ | ⟨rfl, rfl⟩
  · obtain ⟨c1, c2, c3⟩ := anc k q hq
    have hqb := hq.opn o2
    have hql := hq.1
    have hnn := hX.1.nn (show q ≤ N by omega)
    have hk63 : k ≤ 63 := by have := hq.2.1; omega
    refine pk_le 64 k (fun c => by omega) (fun _ => ?_)
    refine x_has_y hX c2 (t1a ⟨pk_in (fb_ct (bb low high) q) 64 (by omega), ?_⟩)
    rw [nI_clamp (by omega)]
    rintro _ rfl
    rw [sA_yes c3] at hsum
    refine x_aboveBy (k := 1) hX c2 (by omega) (fun q' hq' => ?_) (fun hz => ?_)
    · rw [c1] at hq'
      have hq2 := hq.more hq'
      have hlt := hq'.lt
      obtain ⟨d1, d2, d3⟩ := anc (k + 1) q' hq2
      have hq'b := hq'.opn hqb
      have hlt2 : fb_ct (bb low high) q' + 1 ≤ fb_ct (bb low high) q := by
        have := fb_ct_mono (bb low high) (show q' + 1 ≤ q from hlt)
        rw [fb_ct_succ, if_pos hq'b] at this; omega
      have hgap : sA w (PS1 (bb low high) N v) (fb_ct (bb low high) q) = sA w (PS1 (bb low high) N v) (fb_ct (bb low high) q' + 1) := by
        refine sA_gap' hlt2 (fun t t1 t2 => decide_eq_false (fun hc => ?_))
        have htM : t < fb_ct (bb low high) N := by omega
        obtain ⟨i1, i2⟩ := (IN_iff hX.1 htM hv).mp hc
        obtain ⟨g1, g2, g3⟩ := kp_spec htM
        have l1 := kp_lt' htM t2
        have l2 := kp_ge (p := q' + 1) htM (by rw [fb_ct_succ, if_pos hq'b]; omega)
        have e1 := hq'.2.2 (kp (bb low high) N t) (by omega) (by omega)
        have e2 := (sh_spec hX.1 g1 g2).2.2.2 q l1 (by omega)
        have e3 := hq'.2.1
        omega
      rintro _ rfl
      rw [nI_1]
      refine ⟨⟨k + 1, by omega, rfl, Or.inl ⟨q', hq2, rfl, ?_⟩⟩, ?_⟩
      · rw [← hsum, hgap, Int64.add_assoc, Int64.add_comm ((w (fb_ct (bb low high) q)).toInt64)]
      · dsimp only; rw [nI_clamp (by omega), nI_clamp (by omega)]; omega
    · rw [c1] at hz
      have hr := (sh_root hX.1 (show q < N by omega) hqb hz).1
      rintro _ rfl
      rw [nI_1]
      refine ⟨⟨k + 1, by omega, rfl, Or.inr ⟨rfl, ?_⟩⟩, ?_⟩
      · rw [← hsum, hr, show fb_ct (bb low high) 0 = 0 from rfl, show sA w (PS1 (bb low high) N v) 0 = 0 from rfl, Int64.zero_add]
      · dsimp only; rw [nI_clamp (by omega), nI_clamp (by omega)]; omega
  · refine ⟨fun _ => h, fun _ => ?_⟩
    exact x_has_n hX (Or.inl (by decide)) (t0a h)
theorem o_sum {low high : Int64} {N : Nat} {g lo hi st w : Nat → Int32} (hX : XT low high N g lo hi) (hM : MT st (bb low high) N w) {p s : Int32} {Q : Prop} (hQ : Q) : wX5_sum low high (nI N) g lo hi w p s (fun r1 => wX6_sum st p s (fun r2 => r1 = r2 ∧ Q)) := by
  have h64 := hM.m64 hX.1
  unfold wX5_sum
  rcases node_or p (fb_ct (bb low high) N) with ⟨v, hv, rfl⟩ | c
  · refine x_has_y hX hv (t1a ?_)
    rcases upto s 1 with ⟨k, k1, rfl⟩ | c
    · refine x_within (fun _ _ => t1b ?_) (fun z => by rw [nI_toInt (by omega), show (0 : Int32).toInt = 0 from rfl, show (1 : Int32).toInt = 1 from rfl] at z; omega)
      refine pk_ne k 0 (fun e => ?_) (fun e => ?_)
      · refine x_weightAbove hX hv h64 ⟨fun c1 => ?_, fun c1 => ?_⟩
        · refine m_sum hM hX.1 hv k1 ?_
          rw [if_neg e]
          exact ⟨fun _ => ⟨rfl, hQ⟩, fun z => absurd c1 z⟩
        · refine m_sum hM hX.1 hv k1 ?_
          rw [if_neg e]
          exact ⟨fun z => absurd z c1, fun _ => ⟨rfl, hQ⟩⟩
      · refine x_weightBelow hX hv h64 ⟨fun c1 => ?_, fun c1 => ?_⟩
        · refine m_sum hM hX.1 hv k1 ?_
          rw [if_pos e]
          exact ⟨fun _ => ⟨rfl, hQ⟩, fun z => absurd c1 z⟩
        · refine m_sum hM hX.1 hv k1 ?_
          rw [if_pos e]
          exact ⟨fun z => absurd z c1, fun _ => ⟨rfl, hQ⟩⟩
    · refine x_within (fun z1 z2 => by rw [show (0 : Int32).toInt = 0 from rfl] at z1; rw [show (1 : Int32).toInt = 1 from rfl] at z2; omega) (fun _ => t0b ?_)
      unfold wX6_sum
      refine m_node1 hM.2.1 h64 hv (t1a ?_)
      exact m_in_n (by show ¬ ((0 : Int) ≤ _ ∧ _ ≤ (1 : Int)); omega) (t0b ⟨rfl, hQ⟩)
  · refine x_has_n hX c (t0a ?_)
    unfold wX6_sum
    exact m_node_n hM.2.1 h64 c (t0a ⟨rfl, hQ⟩)
theorem lg_eq (A C : Int64) : (lg_cmp A C = 0) ↔ A = C := by
  unfold lg_cmp
  simp only [gt_iff_lt, Int64.lt_iff_toInt_lt]
  by_cases c : C.toInt < A.toInt
  · rw [if_pos c]; exact ⟨fun z => absurd z (by decide), fun z => by rw [z] at c; omega⟩
  · rw [if_neg c]
    by_cases c2 : A = C
    · rw [if_pos c2]; exact ⟨fun _ => c2, fun _ => rfl⟩
    · rw [if_neg c2]; exact ⟨fun z => absurd z (by decide), fun z => absurd z c2⟩
theorem x_takenLow {low high : Int64} {p n : Nat} (hp : p ≤ 128) (hn : n ≤ 128) {post : Int64 → Prop} (h : ∀ c, (∀ k, k < 64 → lb c k = (bb low high (p + k) && decide (k < n))) → post c) : wX1_takenLow low high (nI p) (nI n) post := by
  unfold wX1_takenLow
  refine x_downLow hp (fun r1 h1 => x_firstOf (fun r2 h2 => h _ (fun k hk => ?_)))
  rw [nI_toInt (by omega)] at h2
  rw [lb_and, h1 k hk, h2 k hk, decide_eq_decide.mpr (show ((k : Int) < n) ↔ k < n by omega)]
theorem x_takenHigh {low high : Int64} {p n : Nat} (hp : p ≤ 128) (hn : n ≤ 128) {post : Int64 → Prop} (h : ∀ c, (∀ k, k < 64 → lb c k = (bb low high (p + (64 + k)) && decide (64 + k < n))) → post c) : wX1_takenHigh high (nI p) (nI n) post := by
  unfold wX1_takenHigh
  refine x_downHigh hp (fun r1 h1 => x_firstOf (fun r2 h2 => h _ (fun k hk => ?_)))
  rw [nI_m64, iI_toInt (by omega) (by omega)] at h2
  rw [lb_and, h1 k hk, h2 k hk, decide_eq_decide.mpr (show ((k : Int) < (n : Int) - 64) ↔ 64 + k < n by omega), bb_hi (low := low) (high := high) (k := p + (64 + k)) (by omega), show p + (64 + k) - 64 = p + k by omega]
theorem x_haveLike {low high : Int64} {N : Nat} {g lo hi : Nat → Int32} (hX : XT low high N g lo hi) {u v : Nat} (hu : u < fb_ct (bb low high) N) (hv : v < fb_ct (bb low high) N) {post : Int32 → Prop} (h1 : sz (bb low high) N u = sz (bb low high) N v → (∀ k, k < 2 * sz (bb low high) N u → bb low high (kp (bb low high) N u + k) = bb low high (kp (bb low high) N v + k)) → post 1) (h0 : ¬ (sz (bb low high) N u = sz (bb low high) N v ∧ ∀ k, k < 2 * sz (bb low high) N u → bb low high (kp (bb low high) N u + k) = bb low high (kp (bb low high) N v + k)) → post 0) : wX4_haveLikeRows low high (nI N) g lo hi (nI u) (nI v) post := by
  have hN := hX.1.1
  obtain ⟨z1, z2, z3, z4⟩ := sz_eq hX.1 hu
  obtain ⟨y1, y2, y3, y4⟩ := sz_eq hX.1 hv
  obtain ⟨o1, o2, o3⟩ := kp_spec hu
  obtain ⟨p1, p2, p3⟩ := kp_spec hv
  have s1 := sh_spec hX.1 o1 o2
  have s2 := sh_spec hX.1 p1 p2
  unfold wX4_haveLikeRows
  refine x_nodesOf hX hu ?_
  rw [show (2 : Int32) = nI 2 from rfl, pk_mul]
  rintro _ rfl
  refine x_nodesOf hX hv ?_
  rw [pk_mul]
  refine pk_eq (2 * sz (bb low high) N u) (2 * sz (bb low high) N v) (fun e => ?_) (fun e => h0 (fun c => e (by rw [c.1])))
  have e : sz (bb low high) N u = sz (bb low high) N v := by omega
  refine x_openOf hX hu (x_openOf hX hv ?_)
  refine x_takenLow (n := 2 * sz (bb low high) N u) (by omega) (by omega) (fun a ha => x_takenLow (n := 2 * sz (bb low high) N u) (by omega) (by omega) (fun b hb => ?_))
  rw [lg_eq]
  refine ⟨fun c => h0 (fun hc => c (lb_ext (fun k hk => ?_))), fun c => ?_⟩
  · rw [ha k hk, hb k hk]
    rcases Nat.lt_or_ge k (2 * sz (bb low high) N u) with q | q
    · rw [hc.2 k q]
    · rw [decide_eq_false (show ¬ k < 2 * sz (bb low high) N u by omega), Bool.and_false, Bool.and_false]
  · refine x_takenHigh (low := low) (n := 2 * sz (bb low high) N u) (by omega) (by omega) (fun a2 ha2 => x_takenHigh (low := low) (n := 2 * sz (bb low high) N u) (by omega) (by omega) (fun b2 hb2 => ?_))
    rw [lg_eq]
    refine ⟨fun c2 => h0 (fun hc => c2 (lb_ext (fun k hk => ?_))), fun c2 => h1 e (fun k hk => ?_)⟩
    · rw [ha2 k hk, hb2 k hk]
      rcases Nat.lt_or_ge (64 + k) (2 * sz (bb low high) N u) with q | q
      · rw [hc.2 (64 + k) q]
      · rw [decide_eq_false (show ¬ 64 + k < 2 * sz (bb low high) N u by omega), Bool.and_false, Bool.and_false]
    · rcases Nat.lt_or_ge k 64 with q | q
      · have g1 := ha k q
        have g2 := hb k q
        rw [c, g2, decide_eq_true hk, Bool.and_true, Bool.and_true] at g1
        exact g1.symm
      · have g1 := ha2 (k - 64) (by omega)
        have g2 := hb2 (k - 64) (by omega)
        rw [c2, g2, show 64 + (k - 64) = k by omega, decide_eq_true hk, Bool.and_true, Bool.and_true] at g1
        exact g1.symm
theorem m_alike {st w : Nat → Int32} {B : Nat → Bool} {N u v : Nat} (hM : MT st B N w) (hT : Tr B N) (hu : u < fb_ct B N) (hv : v < fb_ct B N) {post : Int32 → Prop} (h1 : sz B N u = sz B N v → (∀ k, k < 2 * sz B N u → B (kp B N u + k) = B (kp B N v + k)) → post 1) (h0 : ¬ (sz B N u = sz B N v ∧ ∀ k, k < 2 * sz B N u → B (kp B N u + k) = B (kp B N v + k)) → post 0) : wX6_alike st (nI u) (nI v) post := by
  have hN := hT.1
  have h64 := hM.m64 hT
  obtain ⟨z1, z2, z3, z4⟩ := sz_eq hT hu
  obtain ⟨y1, y2, y3, y4⟩ := sz_eq hT hv
  obtain ⟨o1, o2, o3⟩ := kp_spec hu
  obtain ⟨p1, p2, p3⟩ := kp_spec hv
  have s1 := sh_spec hT o1 o2
  have s2 := sh_spec hT p1 p2
  unfold wX6_alike
  refine m_node1 hM.2.1 h64 hu (t1a (m_node1 hM.2.1 h64 hv (t1b ?_)))
  refine m_sizeOf hM.1 hT hu (m_sizeOf hM.1 hT hv ?_)
  refine ⟨fun x => (x = 0 ∧ sz B N u ≠ sz B N v) ∨ (x = 1 ∧ sz B N u = sz B N v), pk_ne (sz B N u) (sz B N v) (fun e => Or.inl ⟨rfl, e⟩) (fun e => Or.inr ⟨rfl, e⟩), ?_⟩
  intro x hx
  refine m_openOf hM.1 hN hu (m_openOf hM.1 hN hv ?_)
  refine ⟨fun a y => (a = 0 ∧ ¬ (sz B N u = sz B N v ∧ ∀ k, k < 2 * sz B N u → B (kp B N u + k) = B (kp B N v + k))) ∨ (a = 1 ∧ sz B N u = sz B N v ∧ ∃ j, j ≤ 2 * sz B N u ∧ y = nI j ∧ ∀ k, k < j → B (kp B N u + k) = B (kp B N v + k)), fun a y => (if a = 0 then 0 else 1) + (2 * sz B N u - y.toNatClampNeg), ?_, ?_⟩
  · rcases hx with ⟨rfl, e⟩ | ⟨rfl, e⟩
    · exact Or.inl ⟨rfl, fun c => e c.1⟩
    · exact Or.inr ⟨rfl, e, 0, Nat.zero_le _, rfl, fun k hk => by omega⟩
  · rintro a y (⟨rfl, c⟩ | ⟨rfl, e, j, j1, rfl, j2⟩)
    · exact t0a (t0a (h0 c))
    · refine t1a (m_sizeOf hM.1 hT hu ?_)
      rw [show (2 : Int32) = nI 2 from rfl, pk_mul, nI_add, nI_add]
      refine pk_le (2 * sz B N u) j (fun c => t1a (h1 e (fun k hk => j2 k (by omega)))) (fun c => ⟨pk_in (kp B N u + j) 579 (by omega), pk_in (kp B N v + j) 579 (by omega), ?_⟩)
      rw [nI_clamp (by omega), nI_clamp (by omega), hM.1 _ (show kp B N u + j < N by omega), hM.1 _ (show kp B N v + j < N by omega), nI_1]
      refine ⟨fun c2 => ?_, fun c2 => ?_⟩
      · rintro _ rfl
        refine ⟨Or.inl ⟨rfl, fun hc => c2 (by rw [hc.2 j c])⟩, ?_⟩
        dsimp only; rw [nI_clamp (by omega), nI_clamp (by omega), if_pos rfl, if_neg (by decide)]; omega
      · rintro _ rfl
        have e2 : B (kp B N u + j) = B (kp B N v + j) := by
          cases h3 : B (kp B N u + j) <;> cases h4 : B (kp B N v + j) <;> rw [h3, h4] at c2
          · exact absurd c2 (by decide)
          · exact absurd c2 (by decide)
        refine ⟨Or.inr ⟨rfl, e, j + 1, by omega, rfl, fun k hk => ?_⟩, ?_⟩
        · rcases Nat.eq_or_lt_of_le (Nat.lt_succ_iff.mp hk) with q | q
          · rw [q]; exact e2
          · exact j2 k q
        · dsimp only; rw [nI_clamp (by omega), nI_clamp (by omega)]; omega
theorem o_alike {low high : Int64} {N : Nat} {g lo hi st w : Nat → Int32} (hX : XT low high N g lo hi) (hM : MT st (bb low high) N w) {p s : Int32} {Q : Prop} (hQ : Q) : wX5_alike low high (nI N) g lo hi p s (fun r1 => wX6_alike st p s (fun r2 => r1 = r2 ∧ Q)) := by
  have h64 := hM.m64 hX.1
  unfold wX5_alike
  rcases node_or p (fb_ct (bb low high) N) with ⟨u, hu, rfl⟩ | c
  · refine x_has_y hX hu (t1a ?_)
    rcases node_or s (fb_ct (bb low high) N) with ⟨v, hv, rfl⟩ | c
    · refine x_has_y hX hv (t1b ?_)
      refine x_haveLike hX hu hv (fun c1 c2 => t1a ?_) (fun c => t0a ?_)
      · exact m_alike hM hX.1 hu hv (fun _ _ => ⟨rfl, hQ⟩) (fun z => absurd ⟨c1, c2⟩ z)
      · exact m_alike hM hX.1 hu hv (fun a b => absurd ⟨a, b⟩ c) (fun _ => ⟨rfl, hQ⟩)
    · refine x_has_n hX c (t0b ?_)
      unfold wX6_alike
      exact m_node1 hM.2.1 h64 hu (t1a (m_node_n hM.2.1 h64 c (t0b ⟨rfl, hQ⟩)))
  · refine x_has_n hX c (t0a ?_)
    unfold wX6_alike
    exact m_node_n hM.2.1 h64 c (t0a ⟨rfl, hQ⟩)
