/-! blocks, sizes, the deepest: both sides -/
theorem lg_ge (A C : Int64) : (0 ≤ lg_cmp A C) ↔ C.toInt ≤ A.toInt := by
  unfold lg_cmp
  simp only [gt_iff_lt, Int64.lt_iff_toInt_lt, ← Int64.toInt_inj]
  by_cases c : C.toInt < A.toInt
  · rw [if_pos c]; exact ⟨fun _ => by omega, fun _ => by decide⟩
  · rw [if_neg c]
    by_cases c2 : A.toInt = C.toInt
    · rw [if_pos c2]; exact ⟨fun _ => by omega, fun _ => by decide⟩
    · rw [if_neg c2]; exact ⟨fun z => absurd z (by decide), fun z => by omega⟩
theorem x_blocks {N : Nat} (hN : N ≤ 128) {post : Int32 → Prop} (h : post (nI ((N + 15) / 16))) : wX1_blocks (nI N) post := by
  unfold wX1_blocks
  rw [show (16 : Int32) = nI 16 from rfl, nI_add, show (1 : Int32) = nI 1 from rfl, pk_sub (by omega), pk_div (by omega) (by omega) (by omega)]
  exact h
/-- least and most of a block's running sums -/
def BE (B : Nat → Bool) (s e : Nat) (l m : Int) : Prop := (∀ q, s < q → q ≤ e → l ≤ ex B q - ex B s ∧ ex B q - ex B s ≤ m) ∧ (∃ q, s < q ∧ q ≤ e ∧ ex B q - ex B s = l) ∧ (∃ q, s < q ∧ q ≤ e ∧ ex B q - ex B s = m)
theorem BE.one {B : Nat → Bool} {s e : Nat} {l m l' m' : Int} (h : BE B s e l m) (h' : BE B s e l' m') : l = l' ∧ m = m' := by
  obtain ⟨h1, ⟨a, a1, a2, a3⟩, ⟨b, b1, b2, b3⟩⟩ := h
  obtain ⟨k1, ⟨c, c1, c2, c3⟩, ⟨d, d1, d2, d3⟩⟩ := h'
  have := h1 c c1 c2
  have := h1 d d1 d2
  have := k1 a a1 a2
  have := k1 b b1 b2
  omega
theorem m_block {st : Nat → Int32} {B : Nat → Bool} {N b s : Nat} (hS : MB st B N) (h192 : st 192 = nI (fb_ct B N)) (hT : Tr B N) (hb : 16 * b < N) (hs : s ≤ 2) {post : Int32 → Prop} (h : ∀ l m, BE B (16 * b) (min N (16 * b + 16)) l m → post (100 + (if s = 0 then iI (ex B (min N (16 * b + 16)) - ex B (16 * b)) else if s = 1 then iI l else iI m))) : wX6_block st (nI b) (nI s) post := by
  have hN := hT.1
  have h2 := hT.two
  unfold wX6_block
  refine ⟨fun z => absurd z (nI_pos (by omega)), fun _ => ?_⟩
  refine m_places h192 ?_
  have e16 : ((16 : Int64) * (nI b).toInt64).toInt = 16 * (b : Int) := by
    have e := t64 (nI b)
    rw [nI_toInt (by omega)] at e
    rw [fb_mulL (by rw [e]; show -9223372036854775808 ≤ (16 : Int) * _; omega) (by rw [e]; show (16 : Int) * _ < _; omega), e]
    rfl
  rw [lg_ge, e16, t64, nI_toInt (by omega)]
  refine ⟨fun c => by omega, fun _ => ?_⟩
  refine m_in_y (by rw [nI_toInt (by omega)]; show (0 : Int) ≤ _; omega) (by rw [nI_toInt (by omega)]; show _ ≤ (2 : Int); omega) (t1b ?_)
  rw [show (16 : Int32) = nI 16 from rfl, pk_mul, nI_add]
  refine m_excessAt hS (by omega) hN ?_
  rintro _ rfl
  obtain ⟨E, hE⟩ : ∃ E, E = min N (16 * b + 16) := ⟨_, rfl⟩
  rw [← hE] at h
  obtain ⟨I, hI⟩ : ∃ I : Int32 → Int32 → Int32 → Int32 → Prop, ∀ a c d x, I a c d x ↔ ∃ l m q, 16 * b ≤ q ∧ q ≤ E ∧ ((q = 16 * b ∧ l = 1000 ∧ m = -1000) ∨ (16 * b < q ∧ BE B (16 * b) q l m)) ∧ a = iI (ex B q - ex B (16 * b)) ∧ c = iI l ∧ d = iI m ∧ x = nI q := ⟨_, fun _ _ _ _ => Iff.rfl⟩
  obtain ⟨mu, hmu⟩ : ∃ mu : Int32 → Int32 → Int32 → Int32 → Nat, ∀ a c d x, mu a c d x = E - x.toNatClampNeg := ⟨_, fun _ _ _ _ => rfl⟩
  refine ⟨I, mu, (hI _ _ _ _).mpr ⟨1000, -1000, 16 * b, Nat.le_refl _, by omega, Or.inl ⟨rfl, rfl, rfl⟩, by rw [Int.sub_self]; rfl, rfl, rfl, rfl⟩, ?_⟩
  intro a c d x hIk
  obtain ⟨l, m, q, q1, q2, hl, rfl, rfl, rfl, rfl⟩ := (hI a c d x).mp hIk
  clear hIk
  have fin : q = E → ((¬ nI s = 0 → ((¬ nI s = 1 → post (100 + iI m)) ∧ (nI s = 1 → post (100 + iI l)))) ∧ (nI s = 0 → post (100 + iI (ex B q - ex B (16 * b))))) := by
    intro e
    have hbe : BE B (16 * b) E l m := by
      rcases hl with ⟨z, _⟩ | ⟨_, z⟩
      · omega
      · rw [← e]; exact z
    have := h l m hbe
    rw [← e] at this
    refine pk_ne s 0 (fun e => pk_ne s 1 (fun e2 => ?_) (fun e2 => ?_)) (fun e => ?_)
    · rw [if_neg e, if_neg e2] at this; exact this
    · rw [if_neg e, if_pos e2] at this; exact this
    · rw [if_pos e] at this; exact this
  refine pk_le (16 * b + 16) q (fun c => fin (by omega)) (fun c => ?_)
  refine m_places h192 ?_
  refine pk_le (2 * fb_ct B N) q (fun c => fin (by omega)) (fun c => ?_)
  rw [nI_1]
  refine m_excessAt hS (by omega) hN ?_
  rw [iI_sub]
  rintro _ rfl
  have hbq := ex_b B (q + 1)
  have hbs := ex_b B (16 * b)
  have lim : -1000 ≤ l ∧ l ≤ 1000 ∧ -1000 ≤ m ∧ m ≤ 1000 := by
    rcases hl with ⟨z, z1, z2⟩ | ⟨_, z, ⟨u, u1, u2, u3⟩, ⟨y, y1, y2, y3⟩⟩
    · omega
    · have := ex_b B u
      have := ex_b B y
      omega
  have stp : (16 * b < q + 1 ∧ BE B (16 * b) (q + 1) (min l (ex B (q + 1) - ex B (16 * b))) (max m (ex B (q + 1) - ex B (16 * b)))) := by
    refine ⟨by omega, ?_⟩
    rcases hl with ⟨rfl, rfl, rfl⟩ | ⟨z0, z, ⟨u, u1, u2, u3⟩, ⟨y, y1, y2, y3⟩⟩
    · refine ⟨fun k k1 k2 => by rw [show k = 16 * b + 1 by omega]; omega, ⟨16 * b + 1, by omega, by omega, by omega⟩, ⟨16 * b + 1, by omega, by omega, by omega⟩⟩
    · refine ⟨fun k k1 k2 => ?_, ?_, ?_⟩
      · rcases Nat.lt_or_ge q k with w | w
        · rw [show k = q + 1 by omega]; omega
        · have := z k k1 w; omega
      · rcases Int.le_total l (ex B (q + 1) - ex B (16 * b)) with w | w
        · exact ⟨u, u1, by omega, by omega⟩
        · exact ⟨q + 1, by omega, by omega, by omega⟩
      · rcases Int.le_total (ex B (q + 1) - ex B (16 * b)) m with w | w
        · exact ⟨y, y1, by omega, by omega⟩
        · exact ⟨q + 1, by omega, by omega, by omega⟩
  have go : ∀ l' m', l' = min l (ex B (q + 1) - ex B (16 * b)) → m' = max m (ex B (q + 1) - ex B (16 * b)) → ∀ y, y = nI (q + 1) → (I (iI (ex B (q + 1) - ex B (16 * b))) (iI l') (iI m') y ∧ mu (iI (ex B (q + 1) - ex B (16 * b))) (iI l') (iI m') y < mu (iI (ex B q - ex B (16 * b))) (iI l) (iI m) (nI q)) := by
    rintro l' m' rfl rfl _ rfl
    refine ⟨(hI _ _ _ _).mpr ⟨_, _, q + 1, by omega, by omega, Or.inr stp, rfl, rfl, rfl, rfl⟩, ?_⟩
    rw [hmu, hmu, nI_clamp (by omega), nI_clamp (by omega)]; omega
  refine q_le l (ex B (q + 1) - ex B (16 * b)) (fun c1 => ?_) (fun c1 => ?_)
  · exact q_le (ex B (q + 1) - ex B (16 * b)) m (fun c2 => go l m (by omega) (by omega)) (fun c2 => go l _ (by omega) (by omega))
  · exact q_le (ex B (q + 1) - ex B (16 * b)) m (fun c2 => go _ m (by omega) (by omega)) (fun c2 => go _ _ (by omega) (by omega))
theorem o_block {low high : Int64} {N : Nat} {g lo hi st w : Nat → Int32} (hX : XT low high N g lo hi) (hM : MT st (bb low high) N w) {p s : Int32} {Q : Prop} (hQ : Q) : wX5_block (nI N) g lo hi p s (fun r1 => wX6_block st p s (fun r2 => r1 = r2 ∧ Q)) := by
  have hN := hX.1.1
  have h2 := hX.1.two
  have h64 := hM.m64 hX.1
  unfold wX5_block
  refine x_blocks hN ?_
  have e1 : (nI ((N + 15) / 16) - 1).toInt = (((N + 15) / 16 : Nat) : Int) - 1 := by rw [nI_iI, iI_s1, iI_toInt (by omega) (by omega)]
  rcases node_or p ((N + 15) / 16) with ⟨b, b1, rfl⟩ | c
  · refine x_within (fun _ _ => t1b ?_) (fun z => by rw [nI_toInt (by omega), e1, show (0 : Int32).toInt = 0 from rfl] at z; omega)
    obtain ⟨m, M, s1, s2, s3, s4, s5, s6, s7, s8⟩ := hX.2.2 b (by omega)
    have hbe : BE (bb low high) (16 * b) (min N (16 * b + 16)) m M := ⟨s6, s7, s8⟩
    refine ⟨?_, ?_, ?_, ?_⟩
    · rintro rfl
      refine ⟨pk_in b 8 (by omega), ?_⟩
      rw [nI_clamp (by omega), s1]
      refine m_block (s := 0) hM.1 hM.2.1 hX.1 (by omega) (by omega) (fun l m hl => ⟨?_, hQ⟩)
      rw [if_pos rfl]
    · rintro rfl
      refine ⟨pk_in b 8 (by omega), ?_⟩
      rw [nI_clamp (by omega), s2]
      refine m_block (s := 1) hM.1 hM.2.1 hX.1 (by omega) (by omega) (fun l m hl => ⟨?_, hQ⟩)
      rw [if_neg (by decide), if_pos rfl, (hbe.one hl).1]
    · rintro rfl
      refine ⟨pk_in b 8 (by omega), ?_⟩
      rw [nI_clamp (by omega), s3]
      refine m_block (s := 2) hM.1 hM.2.1 hX.1 (by omega) (by omega) (fun l m hl => ⟨?_, hQ⟩)
      rw [if_neg (by decide), if_neg (by decide), (hbe.one hl).2]
    · intro n0 n1 n2
      unfold wX6_block
      refine ⟨fun z => absurd z (nI_pos (by omega)), fun _ => ?_⟩
      refine m_places hM.2.1 ?_
      refine ⟨fun _ => ⟨rfl, hQ⟩, fun _ => ?_⟩
      refine m_in_n (fun z => ?_) (t0b ⟨rfl, hQ⟩)
      have z : (0 : Int) ≤ s.toInt ∧ s.toInt ≤ 2 := z
      rcases upto s 2 with ⟨k, k1, rfl⟩ | c
      · have hk : k = 0 ∨ k = 1 ∨ k = 2 := by omega
        rcases hk with rfl | rfl | rfl
        · exact n0 rfl
        · exact n1 rfl
        · exact n2 rfl
      · omega
  · refine x_within (fun z1 z2 => by rw [e1] at z2; rw [show (0 : Int32).toInt = 0 from rfl] at z1; omega) (fun _ => t0b ?_)
    unfold wX6_block
    refine ⟨fun _ => ⟨rfl, hQ⟩, fun cn => ?_⟩
    refine m_places hM.2.1 ?_
    have hr := fb_rng p
    rw [neg_iff] at cn
    have e16 : ((16 : Int64) * p.toInt64).toInt = 16 * p.toInt := by
      have e := t64 p
      rw [fb_mulL (by rw [e]; show -9223372036854775808 ≤ (16 : Int) * _; omega) (by rw [e]; show (16 : Int) * _ < _; omega), e]
      rfl
    rw [lg_ge, e16, t64, nI_toInt (by omega)]
    exact ⟨fun _ => ⟨rfl, hQ⟩, fun c3 => by omega⟩
theorem m_size {st : Nat → Int32} {B : Nat → Bool} {N : Nat} {s : Int32} (hS : MB st B N) (h192 : st 192 = nI (fb_ct B N)) (hT : Tr B N) {post : Int32 → Prop} (h : ∀ d, IsMx B 0 N d → ((s = 0 → post (nI (fb_ct B N))) ∧ (s = 1 → post (nI (fb_ct (SG B N 2) N))) ∧ (s = 2 → ((¬ nI (fb_ct B N) = 0 → post (iI (d - 1))) ∧ (nI (fb_ct B N) = 0 → post (-4)))) ∧ (s = 3 → post (nI N)) ∧ (s = 4 → post (nI ((N + 15) / 16))) ∧ (¬ s = 0 → ¬ s = 1 → ¬ s = 2 → ¬ s = 3 → ¬ s = 4 → post (-1)))) : wX6_size st s post := by
  have hN := hT.1
  have h2 := hT.two
  unfold wX6_size
  obtain ⟨I, hI⟩ : ∃ I : Int32 → Int32 → Int32 → Prop, ∀ a c x, I a c x ↔ ∃ d p, p ≤ N ∧ IsMx B 0 p d ∧ a = nI (fb_ct (SG B N 2) p) ∧ c = iI d ∧ x = nI p := ⟨_, fun _ _ _ => Iff.rfl⟩
  obtain ⟨mu, hmu⟩ : ∃ mu : Int32 → Int32 → Int32 → Nat, ∀ a c x, mu a c x = N - x.toNatClampNeg := ⟨_, fun _ _ _ => rfl⟩
  refine ⟨I, mu, (hI _ _ _).mpr ⟨0, 0, Nat.zero_le _, ⟨⟨0, Nat.le_refl _, Nat.le_refl _, ex_0 B⟩, fun q q1 q2 => by rw [show q = 0 by omega, ex_0]; decide⟩, rfl, rfl, rfl⟩, ?_⟩
  intro a c x hIk
  obtain ⟨d, p, p1, hd, rfl, rfl, rfl⟩ := (hI a c x).mp hIk
  clear hIk
  have hdb := hd.bd
  refine m_places h192 ?_
  refine pk_le (2 * fb_ct B N) p (fun c => ?_) (fun c => ?_)
  · have e : p = N := by omega
    rw [e] at hd ⊢
    obtain ⟨g0, g1, g2, g3, g4, g5⟩ := h d hd
    refine ⟨fun z => m_many h192 (g0 z), g1, fun z => m_many h192 ?_, fun z => m_places h192 (by rw [← h2]; exact g3 z), fun z => m_places h192 ?_, g5⟩
    · rw [iI_s1]; exact g2 z
    · rw [← h2, show (16 : Int32) = nI 16 from rfl, nI_add, show (1 : Int32) = nI 1 from rfl, pk_sub (by omega), pk_div (by omega) (by omega) (by omega)]
      exact g4 z
  · refine m_isPair hS h192 hT (by omega) ?_
    have hst := fb_ct_succ (SG B N 2) p
    have hbq := ex_b B (p + 1)
    have hmx : IsMx B 0 (p + 1) (max d (ex B (p + 1))) := by
      obtain ⟨⟨u, u1, u2, u3⟩, hu⟩ := hd
      refine ⟨?_, fun q q1 q2 => ?_⟩
      · rcases Int.le_total (ex B (p + 1)) d with w | w
        · exact ⟨u, u1, by omega, by omega⟩
        · exact ⟨p + 1, by omega, by omega, by omega⟩
      · rcases Nat.lt_or_ge p q with w | w
        · rw [show q = p + 1 by omega]; omega
        · have := hu q q1 w; omega
    have go : ∀ (a : Int32) (d' : Int), a = nI (fb_ct (SG B N 2) (p + 1)) → d' = max d (ex B (p + 1)) → ∀ y, y = nI p + 1 → (I a (iI d') y ∧ mu a (iI d') y < mu (nI (fb_ct (SG B N 2) p)) (iI d) (nI p)) := by
      rintro _ _ rfl rfl _ rfl
      rw [nI_1]
      refine ⟨(hI _ _ _).mpr ⟨_, p + 1, by omega, hmx, rfl, rfl, rfl⟩, ?_⟩
      rw [hmu, hmu, nI_clamp (by omega), nI_clamp (by omega)]; omega
    have all : ∀ a : Int32, a = nI (fb_ct (SG B N 2) (p + 1)) → wX6_excessAt st (nI p + 1) (fun r => ((r ≤ iI d → (∀ y, y = nI p + 1 → (I a (iI d) y ∧ mu a (iI d) y < mu (nI (fb_ct (SG B N 2) p)) (iI d) (nI p)))) ∧ (¬ r ≤ iI d → wX6_excessAt st (nI p + 1) (fun r2 => (∀ y, y = nI p + 1 → (I a r2 y ∧ mu a r2 y < mu (nI (fb_ct (SG B N 2) p)) (iI d) (nI p))))))) := by
      intro a ha
      rw [nI_1]
      refine m_excessAt hS (by omega) hN ?_
      refine q_le (ex B (p + 1)) d (fun c1 => ?_) (fun c1 => ?_)
      · rw [← nI_1]; exact go a d ha (by omega)
      · refine m_excessAt hS (by omega) hN ?_
        rw [← nI_1]; exact go a _ ha (by omega)
    refine b0_eq (fun hb => ?_) (fun hb => ?_)
    · rintro _ rfl
      rw [hb] at hst
      exact all _ (by rw [hst, show (0 : Int32) = nI 0 from rfl, nI_add]; rfl)
    · rintro _ rfl
      rw [hb] at hst
      exact all _ (by rw [hst, nI_1]; rfl)
theorem kp_0 {B : Nat → Bool} {N : Nat} (hT : Tr B N) (h : 0 < fb_ct B N) : kp B N 0 = 0 :=
  kp_eq (N := N) (k := 0) (q := 0) (by have := fb_ct_le B N; omega) (hT.first (by have := fb_ct_le B N; omega)) rfl
theorem o_size {low high : Int64} {N : Nat} {g lo hi st w : Nat → Int32} (hX : XT low high N g lo hi) (hM : MT st (bb low high) N w) {s : Int32} {Q : Prop} (hQ : Q) : wX5_size low high (nI N) g lo hi s (fun r1 => wX6_size st s (fun r2 => r1 = r2 ∧ Q)) := by
  have hN := hX.1.1
  have h2 := hX.1.two
  have h64 := hM.m64 hX.1
  have ms : ∀ r1 : Int32, (∀ d, IsMx (bb low high) 0 N d → ((s = 0 → r1 = (nI (fb_ct (bb low high) N))) ∧ (s = 1 → r1 = (nI (fb_ct (SG (bb low high) N 2) N))) ∧ (s = 2 → ((¬ nI (fb_ct (bb low high) N) = 0 → r1 = (iI (d - 1))) ∧ (nI (fb_ct (bb low high) N) = 0 → r1 = (-4)))) ∧ (s = 3 → r1 = (nI N)) ∧ (s = 4 → r1 = (nI ((N + 15) / 16))) ∧ (¬ s = 0 → ¬ s = 1 → ¬ s = 2 → ¬ s = 3 → ¬ s = 4 → r1 = (-1)))) → wX6_size st s (fun r2 => r1 = r2 ∧ Q) := fun r1 hr => m_size hM.1 hM.2.1 hX.1 (fun d hd => by
      obtain ⟨g0, g1, g2, g3, g4, g5⟩ := hr d hd
      exact ⟨fun z => ⟨g0 z, hQ⟩, fun z => ⟨g1 z, hQ⟩, fun z => ⟨fun y => ⟨(g2 z).1 y, hQ⟩, fun y => ⟨(g2 z).2 y, hQ⟩⟩, fun z => ⟨g3 z, hQ⟩, fun z => ⟨g4 z, hQ⟩, fun z0 z1 z2 z3 z4 => ⟨g5 z0 z1 z2 z3 z4, hQ⟩⟩)
  unfold wX5_size
  refine ⟨?_, ?_, ?_, ?_, ?_, ?_⟩
  · rintro rfl
    refine x_nodes hX (ms _ (fun d hd => ⟨fun _ => rfl, fun z => absurd z (by decide), fun z => absurd z (by decide), fun z => absurd z (by decide), fun z => absurd z (by decide), fun z => absurd rfl z⟩))
  · rintro rfl
    have e := nI_iI N
    have hx : wX1_signsAhead low high (nI N) (iI (N : Int)) (nI 2) (fun r1 => wX6_size st 1 (fun r2 => r1 = r2 ∧ Q)) := by
      refine x_signsAhead hN (by omega) (by omega) (by omega) (ms _ (fun d hd => ⟨fun z => absurd z (by decide), fun _ => ?_, fun z => absurd z (by decide), fun z => absurd z (by decide), fun z => absurd z (by decide), fun _ z => absurd rfl z⟩))
      rw [Int.toNat_natCast]
    rw [← e] at hx
    exact hx
  · rintro rfl
    refine x_nodes hX (pk_ne (fb_ct (bb low high) N) 0 (fun c => ?_) (fun c => ?_))
    · have k0 := kp_0 hX.1 (show 0 < fb_ct (bb low high) N by omega)
      have b0 := hX.1.first (show 0 < N by omega)
      refine x_heightOf (v := 0) hX (by omega) (fun m hm => ms _ (fun d hd => ⟨fun z => absurd z (by decide), fun z => absurd z (by decide), fun _ => ⟨fun _ => ?_, fun z => ?_⟩, fun z => absurd z (by decide), fun z => absurd z (by decide), fun _ _ z => absurd rfl z⟩))
      · rw [k0] at hm ⊢
        rw [ex_0]
        have hr := (sh_root hX.1 (show 0 < N by omega) b0 (by rw [ex_0]; decide)).2
        have : IsMx (bb low high) 0 N m := by
          obtain ⟨⟨u, u1, u2, u3⟩, hu⟩ := hm
          refine ⟨⟨u, u1, by omega, u3⟩, fun q q1 q2 => ?_⟩
          rcases Nat.lt_or_ge q N with w | w
          · exact hu q q1 (by omega)
          · have h0 := hu 0 (Nat.le_refl _) (Nat.zero_le _)
            rw [ex_0] at h0
            rw [show q = N by omega, hX.1.2.1]; exact h0
        rw [this.one hd]
        congr 1
        omega
      · rw [show (0 : Int32) = nI 0 from rfl, nI_eq (by omega) (by omega)] at z; omega
    · refine ms _ (fun d hd => ⟨fun z => absurd z (by decide), fun z => absurd z (by decide), fun _ => ⟨fun z => ?_, fun _ => rfl⟩, fun z => absurd z (by decide), fun z => absurd z (by decide), fun _ _ z => absurd rfl z⟩)
      rw [c] at z; exact absurd rfl z
  · rintro rfl
    exact ms _ (fun d hd => ⟨fun z => absurd z (by decide), fun z => absurd z (by decide), fun z => absurd z (by decide), fun _ => rfl, fun z => absurd z (by decide), fun _ _ _ z => absurd rfl z⟩)
  · rintro rfl
    exact x_blocks hN (ms _ (fun d hd => ⟨fun z => absurd z (by decide), fun z => absurd z (by decide), fun z => absurd z (by decide), fun z => absurd z (by decide), fun _ => rfl, fun _ _ _ _ z => absurd rfl z⟩))
  · intro n0 n1 n2 n3 n4
    exact ms _ (fun d hd => ⟨fun z => absurd z n0, fun z => absurd z n1, fun z => absurd z n2, fun z => absurd z n3, fun z => absurd z n4, fun _ _ _ _ _ => rfl⟩)
