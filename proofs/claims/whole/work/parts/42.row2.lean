/-! shifts of two longs; signs; places of signs -/
theorem x_downLow {low high : Int64} {n : Nat} (hn : n ≤ 128) {post : Int64 → Prop} (h : ∀ r, (∀ k, k < 64 → lb r k = bb low high (n + k)) → post r) : wX0_downLow low high (nI n) post := by
  unfold wX0_downLow
  refine pk_ne n 0 (fun c => ?_) (fun c => ?_)
  · refine pk_le 64 n (fun c2 => ?_) (fun c2 => ?_)
    · refine pk_le 128 n (fun c3 => ?_) (fun c3 => ?_)
      · refine h _ (fun k hk => ?_)
        rw [lb_0, bb_big (by omega)]
      · refine h _ (fun k hk => ?_)
        rw [show nI n - 64 = nI (n - 64) from pk_sub c2, lb_ushr high (by omega), bb_hi (by omega)]
        congr 1; omega
    · refine h _ (fun k hk => ?_)
      rw [show (64 : Int32) - nI n = nI (64 - n) from pk_sub (a := 64) (by omega), lb_or, lb_ushr low (by omega), lb_shl high (by omega) hk]
      rcases Nat.lt_or_ge (n + k) 64 with z | z
      · rw [bb_lo z, decide_eq_false (by omega)]; simp
      · rw [bb_hi z, lb_big z, decide_eq_true (by omega), show k - (64 - n) = n + k - 64 by omega]; simp
  · subst c
    refine h _ (fun k hk => ?_)
    rw [bb_lo (by omega)]; congr 1; omega
theorem x_downHigh {high : Int64} {n : Nat} (hn : n ≤ 128) {post : Int64 → Prop} (h : ∀ r, (∀ k, k < 64 → lb r k = lb high (n + k)) → post r) : wX0_downHigh high (nI n) post := by
  unfold wX0_downHigh
  refine pk_le 64 n (fun c2 => ?_) (fun c2 => ?_)
  · refine h _ (fun k hk => ?_)
    rw [lb_0, lb_big (by omega)]
  · exact h _ (fun k hk => lb_ushr high (by omega))
theorem x_upLow {low : Int64} {n : Nat} (hn : n ≤ 128) {post : Int64 → Prop} (h : ∀ r, (∀ k, k < 64 → lb r k = (decide (n ≤ k) && lb low (k - n))) → post r) : wX0_upLow low (nI n) post := by
  unfold wX0_upLow
  refine pk_le 64 n (fun c2 => ?_) (fun c2 => ?_)
  · refine h _ (fun k hk => ?_)
    rw [lb_0, decide_eq_false (by omega)]; rfl
  · exact h _ (fun k hk => lb_shl low (by omega) hk)
theorem x_upHigh {low high : Int64} {n : Nat} (hn : n ≤ 128) {post : Int64 → Prop} (h : ∀ r, (∀ k, k < 64 → lb r k = (decide (n ≤ 64 + k) && bb low high (64 + k - n))) → post r) : wX0_upHigh low high (nI n) post := by
  unfold wX0_upHigh
  refine pk_ne n 0 (fun c => ?_) (fun c => ?_)
  · refine pk_le 64 n (fun c2 => ?_) (fun c2 => ?_)
    · refine pk_le 128 n (fun c3 => ?_) (fun c3 => ?_)
      · refine h _ (fun k hk => ?_)
        rw [lb_0, decide_eq_false (by omega)]; rfl
      · refine h _ (fun k hk => ?_)
        rw [show nI n - 64 = nI (n - 64) from pk_sub c2, lb_shl low (by omega) hk]
        rcases Nat.lt_or_ge k (n - 64) with z | z
        · rw [decide_eq_false (by omega), decide_eq_false (by omega)]; rfl
        · rw [decide_eq_true (by omega), decide_eq_true (by omega), bb_lo (by omega), show k - (n - 64) = 64 + k - n by omega]
    · refine h _ (fun k hk => ?_)
      rw [show (64 : Int32) - nI n = nI (64 - n) from pk_sub (a := 64) (by omega), lb_or, lb_ushr low (by omega), lb_shl high (by omega) hk, decide_eq_true (show n ≤ 64 + k by omega)]
      rcases Nat.lt_or_ge k n with z | z
      · rw [bb_lo (by omega), decide_eq_false (by omega), show 64 - n + k = 64 + k - n by omega]; simp
      · rw [bb_hi (by omega), decide_eq_true (by omega), lb_big (x := low) (k := 64 - n + k) (by omega), show 64 + k - n - 64 = k - n by omega]; simp
  · subst c
    refine h _ (fun k hk => ?_)
    rw [decide_eq_true (by omega), bb_hi (by omega), show 64 + k - 0 - 64 = k by omega]; rfl
/-- signs of a row: ( , ) , ( with ) right behind it -/
def SG (B : Nat → Bool) (N w k : Nat) : Bool := if w = 0 then B k else if w = 1 then (!B k && decide (k < N)) else (B k && !B (k + 1))
theorem SG0 (B : Nat → Bool) (N k : Nat) : SG B N 0 k = B k := rfl
theorem SG1 (B : Nat → Bool) (N k : Nat) : SG B N 1 k = (!B k && decide (k < N)) := rfl
theorem SG2 (B : Nat → Bool) (N k : Nat) : SG B N 2 k = (B k && !B (k + 1)) := rfl
theorem SG_out {B : Nat → Bool} {N w k : Nat} (hB : ∀ k, N ≤ k → B k = false) (hk : N ≤ k) : SG B N w k = false := by
  unfold SG
  split
  · exact hB k hk
  · split
    · rw [decide_eq_false (by omega)]; simp
    · rw [hB k hk]; rfl
theorem x_signsLow {low high : Int64} {N w : Nat} (hN : N ≤ 128) (hw : w < 3) {post : Int64 → Prop} (h : ∀ r, (∀ k, k < 64 → lb r k = SG (bb low high) N w k) → post r) : wX1_signsLow low high (nI N) (nI w) post := by
  unfold wX1_signsLow
  refine pk_ne w 0 (fun c => pk_ne w 1 (fun c2 => ?_) (fun c2 => ?_)) (fun c => ?_)
  · have : w = 2 := by omega
    subst this
    refine x_downLow (n := 1) (by omega) (fun r hr => h _ (fun k hk => ?_))
    rw [SG2, lb_and, lb_not r hk, hr k hk, bb_lo hk, Nat.add_comm 1 k]
  · subst c2
    refine x_firstOf (fun r hr => h _ (fun k hk => ?_))
    rw [SG1, lb_and, lb_not low hk, hr k hk, bb_lo hk, nI_toInt (by omega)]
    congr 1
    exact decide_eq_decide.mpr (by omega)
  · subst c
    exact h _ (fun k hk => by rw [SG0, bb_lo hk])
theorem x_signsHigh {low high : Int64} {N w : Nat} (hN : N ≤ 128) (hw : w < 3) {post : Int64 → Prop} (h : ∀ r, (∀ k, k < 64 → lb r k = SG (bb low high) N w (64 + k)) → post r) : wX1_signsHigh high (nI N) (nI w) post := by
  unfold wX1_signsHigh
  refine pk_ne w 0 (fun c => pk_ne w 1 (fun c2 => ?_) (fun c2 => ?_)) (fun c => ?_)
  · have : w = 2 := by omega
    subst this
    refine x_downHigh (n := 1) (by omega) (fun r hr => h _ (fun k hk => ?_))
    rw [SG2, lb_and, lb_not r hk, hr k hk, bb_hi', show 64 + k + 1 = 64 + (k + 1) by omega, bb_hi', Nat.add_comm 1 k]
  · subst c2
    refine x_firstOf (fun r hr => h _ (fun k hk => ?_))
    rw [SG1, lb_and, lb_not high hk, hr k hk, bb_hi', nI_m64, iI_toInt (by omega) (by omega)]
    congr 1
    exact decide_eq_decide.mpr (by omega)
  · subst c
    exact h _ (fun k hk => by rw [SG0, bb_hi'])
theorem x_signsAhead {low high : Int64} {N w : Nat} {z : Int} (hN : N ≤ 128) (hw : w < 3) (hz1 : -1 ≤ z) (hz : z ≤ 128) {post : Int32 → Prop} (h : post (nI (fb_ct (SG (bb low high) N w) z.toNat))) : wX1_signsAhead low high (nI N) (iI z) (nI w) post := by
  unfold wX1_signsAhead
  refine x_signsLow hN hw (fun sl hsl => x_firstOf (fun r1 h1 => x_bitCount (x_signsHigh (low := low) hN hw (fun s2 hs2 => x_firstOf (fun r2 h2 => x_bitCount ?_)))))
  rw [iI_toInt (by omega) (by omega)] at h1
  rw [show (64 : Int32) = iI 64 from rfl, iI_sub, iI_toInt (by omega) (by omega)] at h2
  rw [nI_add, ct_words hz h1 h2]
  rw [show fb_ct (bb sl s2) z.toNat = fb_ct (SG (bb low high) N w) z.toNat from fb_ct_cong (fun k hk => by
    rcases Nat.lt_or_ge k 64 with q | q
    · rw [bb_lo q, hsl k q]
    · rw [bb_hi q, hs2 (k - 64) (by omega), show 64 + (k - 64) = k by omega])]
  exact h
theorem ct_N {S : Nat → Bool} {N : Nat} (hN : N ≤ 128) (hS : ∀ k, N ≤ k → S k = false) : fb_ct S 128 = fb_ct S N := ct_gap hN (fun j h1 _ => hS j h1)
theorem x_placeOfSign {low high : Int64} {N w k : Nat} (hN : N ≤ 128) (hw : w < 3) (hk : k < 2147483648) (hB : ∀ k, N ≤ k → bb low high k = false) {post : Int32 → Prop} (h1 : k < fb_ct (SG (bb low high) N w) N → post (nI (kp (SG (bb low high) N w) N k))) (h2 : fb_ct (SG (bb low high) N w) N ≤ k → post (-4)) : wX1_placeOfSign low high (nI N) (nI k) (nI w) post := by
  have hS : ∀ k, N ≤ k → SG (bb low high) N w k = false := fun k hk => SG_out hB hk
  have h128 := ct_N hN hS
  unfold wX1_placeOfSign
  refine x_signsLow hN hw (fun sl hsl => x_bitCount ?_)
  have e1 : fb_ct (lb sl) 64 = fb_ct (SG (bb low high) N w) 64 := fb_ct_cong (fun k hk => hsl k hk)
  have e2 : fb_ct (SG (bb low high) N w) 128 = fb_ct (SG (bb low high) N w) 64 + fb_ct (fun k => SG (bb low high) N w (64 + k)) 64 := fb_ct_split _ 64 64
  have b1 := fb_ct_le (lb sl) 64
  have hle : ∀ q, SG (bb low high) N w q = true → q < N := fun q hq => by
    rcases Nat.lt_or_ge q N with z | z
    · exact z
    · rw [hS q z] at hq; cases hq
  refine pk_le (fb_ct (lb sl) 64) k (fun c => ?_) (fun c => ?_)
  · refine x_signsHigh (low := low) hN hw (fun s2 hs2 => ?_)
    rintro x rfl
    rw [pk_sub c]
    refine x_bitCount ?_
    have b2 := fb_ct_le (lb s2) 64
    have e3 : fb_ct (lb s2) 64 = fb_ct (fun k => SG (bb low high) N w (64 + k)) 64 := fb_ct_cong (fun k hk => hs2 k hk)
    refine pk_le (fb_ct (lb s2) 64) (k - fb_ct (lb sl) 64) (fun c2 => h2 (by omega)) (fun c2 => ?_)
    refine x_indexOfOne c2 ?_
    obtain ⟨o1, o2, o3⟩ := kp_spec c2
    rw [show (64 : Int32) = nI 64 from rfl, nI_add]
    have e5 : SG (bb low high) N w (64 + kp (lb s2) 64 (k - fb_ct (lb sl) 64)) = true := by rw [← hs2 _ o1]; exact o2
    have e4 : kp (SG (bb low high) N w) N k = 64 + kp (lb s2) 64 (k - fb_ct (lb sl) 64) := by
      refine kp_eq (hle _ e5) e5 ?_
      rw [fb_ct_split]
      have : fb_ct (fun k => SG (bb low high) N w (64 + k)) (kp (lb s2) 64 (k - fb_ct (lb sl) 64)) = fb_ct (lb s2) (kp (lb s2) 64 (k - fb_ct (lb sl) 64)) := fb_ct_cong (fun q hq => (hs2 q (by omega)).symm)
      omega
    rw [← e4]
    exact h1 (by omega)
  · refine x_indexOfOne c ?_
    obtain ⟨o1, o2, o3⟩ := kp_spec c
    have e5 : SG (bb low high) N w (kp (lb sl) 64 k) = true := by rw [← hsl _ o1]; exact o2
    have e4 : kp (SG (bb low high) N w) N k = kp (lb sl) 64 k := by
      refine kp_eq (hle _ e5) e5 ?_
      refine Eq.trans ?_ o3
      exact fb_ct_cong (fun q hq => (hsl q (by omega)).symm)
    rw [← e4]
    exact h1 (by omega)
/-- the place of a node's open, in the class -/
theorem x_openSign {low high : Int64} {N v : Nat} (hN : N ≤ 128) (hB : ∀ k, N ≤ k → bb low high k = false) (hv : v < fb_ct (bb low high) N) {post : Int32 → Prop} (h : post (nI (kp (bb low high) N v))) : wX1_placeOfSign low high (nI N) (nI v) (0 : Int32) post := by
  have := fb_ct_le (bb low high) N
  exact x_placeOfSign (w := 0) hN (by omega) (by omega) hB (fun _ => h) (fun c => absurd hv (Nat.not_lt.mpr c))
/-! summaries -/
/-- of a block's points (behind its places) the least and the greatest excess over that ahead of it -/
def SM (B : Nat → Bool) (N : Nat) (g lo hi : Nat → Int32) : Prop := ∀ b, 16 * b < N → ∃ m M : Int, g b = iI (ex B (min N (16 * b + 16)) - ex B (16 * b)) ∧ lo b = iI m ∧ hi b = iI M ∧ -16 ≤ m ∧ M ≤ 16 ∧ (∀ q, 16 * b < q → q ≤ min N (16 * b + 16) → m ≤ ex B q - ex B (16 * b) ∧ ex B q - ex B (16 * b) ≤ M) ∧ (∃ q, 16 * b < q ∧ q ≤ min N (16 * b + 16) ∧ ex B q - ex B (16 * b) = m) ∧ (∃ q, 16 * b < q ∧ q ≤ min N (16 * b + 16) ∧ ex B q - ex B (16 * b) = M)
/-- the least point above p with excess d -/
def IsF (B : Nat → Bool) (N p : Nat) (d : Int) (r : Int32) : Prop := (∃ q, p < q ∧ q ≤ N ∧ ex B q = d ∧ (∀ k, p < k → k < q → ex B k ≠ d) ∧ r = nI q) ∨ ((∀ k, p < k → k ≤ N → ex B k ≠ d) ∧ r = -4)
/-- the greatest point below p with excess d -/
def IsK (B : Nat → Bool) (p : Nat) (d : Int) (r : Int32) : Prop := (∃ q, q < p ∧ ex B q = d ∧ (∀ k, q < k → k < p → ex B k ≠ d) ∧ r = nI q) ∨ ((∀ k, k < p → ex B k ≠ d) ∧ r = -4)
theorem IsF.one {B : Nat → Bool} {N p : Nat} {d : Int} {r s : Int32} (h : IsF B N p d r) (h' : IsF B N p d s) : r = s := by
  rcases h with ⟨q, q1, q2, q3, q4, rfl⟩ | ⟨h1, rfl⟩
  · rcases h' with ⟨q', a1, a2, a3, a4, rfl⟩ | ⟨h2, rfl⟩
    · rcases Nat.lt_trichotomy q q' with z | z | z
      · exact absurd q3 (a4 q q1 z)
      · rw [z]
      · exact absurd a3 (q4 q' a1 z)
    · exact absurd q3 (h2 q q1 q2)
  · rcases h' with ⟨q', a1, a2, a3, a4, rfl⟩ | ⟨h2, rfl⟩
    · exact absurd a3 (h1 q' a1 a2)
    · rfl
theorem IsK.one {B : Nat → Bool} {p : Nat} {d : Int} {r s : Int32} (h : IsK B p d r) (h' : IsK B p d s) : r = s := by
  rcases h with ⟨q, q1, q3, q4, rfl⟩ | ⟨h1, rfl⟩
  · rcases h' with ⟨q', a1, a3, a4, rfl⟩ | ⟨h2, rfl⟩
    · rcases Nat.lt_trichotomy q q' with z | z | z
      · exact absurd a3 (q4 q' z a1)
      · rw [z]
      · exact absurd q3 (a4 q z q1)
    · exact absurd q3 (h2 q q1)
  · rcases h' with ⟨q', a1, a3, a4, rfl⟩ | ⟨h2, rfl⟩
    · exact absurd a3 (h1 q' a1)
    · rfl
theorem eqI {z : Int} {x : Int32} (h1 : -2147483648 ≤ z) (h2 : z < 2147483648) : iI z = x ↔ z = x.toInt := by
  have h3 := fb_rng x
  conv => lhs; rhs; rw [iI_self x]
  exact iI_eq h1 h2 h3.1 h3.2
theorem step_add (B : Nat → Bool) (j : Nat) : iI (ex B j) + (if B j then 1 else -1) = iI (ex B (j + 1)) := by
  cases hb : B j with
  | true => rw [if_pos rfl, ex_t hb, iI_p1]
  | false => rw [if_neg (by decide), ex_f hb, iI_m1]
theorem step_sub (B : Nat → Bool) (j : Nat) : iI (ex B (j + 1)) - (if B j then 1 else -1) = iI (ex B j) := by
  cases hb : B j with
  | true => rw [if_pos rfl, ex_t hb, iI_s1]; congr 1; omega
  | false => rw [if_neg (by decide), ex_f hb, show (-1 : Int32) = iI (-1) from rfl, iI_sub]; congr 1; omega
theorem nI_rem16 {a : Nat} (ha : a < 2147483648) : nI a - nI a / 16 * 16 = nI (a % 16) := pk_rem (d := 16) ha (by decide) (by decide)
theorem nI_div16 {a : Nat} (ha : a < 2147483648) : nI a / 16 = nI (a / 16) := pk_div (d := 16) ha (by decide) (by decide)
/-- reaches: no says that no point of the block has that excess -/
theorem x_reaches {B : Nat → Bool} {N b : Nat} {g lo hi : Nat → Int32} {y : Int32} (hS : SM B N g lo hi) (hb : 16 * b < N) (hN : N ≤ 128) {post : Int32 → Prop} (h1 : post 1) (h0 : (∀ q, 16 * b < q → q ≤ min N (16 * b + 16) → y ≠ iI (ex B q - ex B (16 * b))) → post 0) : wX1_reaches lo hi (nI b) y post := by
  obtain ⟨m, M, -, e2, e3, e4, e5, e6, -, -⟩ := hS b hb
  unfold wX1_reaches
  refine ⟨pk_in b 8 (by omega), ?_⟩
  rw [nI_clamp (by omega), e2, e3]
  have hbd : ∀ q, 16 * b < q → q ≤ min N (16 * b + 16) → -300 ≤ ex B q - ex B (16 * b) ∧ ex B q - ex B (16 * b) ≤ 300 := fun q _ q2 => by
    have := ex_b B q
    have := ex_b B (16 * b)
    omega
  have hmM : m ≤ M := by
    have := e6 (16 * b + 1) (by omega) (by omega); omega
  refine ⟨fun c => h0 (fun q q1 q2 e => ?_), fun c => ⟨pk_in b 8 (by omega), fun c2 => h0 (fun q q1 q2 e => ?_), fun c2 => h1⟩⟩
  · have := hbd q q1 q2
    rw [e, iI_lt (by omega) (by omega) (by omega) (by omega)] at c
    have := (e6 q q1 q2).1
    omega
  · have := hbd q q1 q2
    rw [e, iI_lt (by omega) (by omega) (by omega) (by omega)] at c2
    have := (e6 q q1 q2).2
    omega
