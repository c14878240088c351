/-! counts of points; rows of trees; summaries made; places put in and taken out -/
def pw (B : Nat → Bool) (d : Int) (i j : Nat) : Nat := fb_ct (fun k => decide (ex B k = d)) (j + 1) - fb_ct (fun k => decide (ex B k = d)) i
theorem pw_0 (B : Nat → Bool) (d : Int) (i : Nat) : pw B d i i = if ex B i = d then 1 else 0 := by
  unfold pw
  rw [fb_ct_succ]
  by_cases c : ex B i = d <;> simp [c]
theorem pw_s {B : Nat → Bool} {d : Int} {i j : Nat} (h : i ≤ j) : pw B d i (j + 1) = pw B d i j + if ex B (j + 1) = d then 1 else 0 := by
  unfold pw
  rw [fb_ct_succ _ (j + 1)]
  have := fb_ct_mono (fun k => decide (ex B k = d)) (show i ≤ j + 1 by omega)
  by_cases c : ex B (j + 1) = d <;> simp [c]
  omega
theorem pw_le (B : Nat → Bool) (d : Int) (i j : Nat) : pw B d i j ≤ j + 1 := by
  unfold pw
  have := fb_ct_le (fun k => decide (ex B k = d)) (j + 1)
  omega
theorem x_pointsWith {low high : Int64} {i j : Nat} {y : Int32} (hij : i ≤ j) (hj : j ≤ 128) {post : Int32 → Prop} (h : post (nI (pw (bb low high) y.toInt i j))) : wX1_pointsWith low high (nI i) (nI j) y post := by
  unfold wX1_pointsWith
  refine x_excessAt (by omega) ?_
  obtain ⟨I, hI⟩ : ∃ I : Int32 → Int32 → Int32 → Prop, ∀ e n k, I e n k ↔ ∃ q, i ≤ q ∧ q ≤ j ∧ k = nI q ∧ e = iI (ex (bb low high) q) ∧ n = nI (pw (bb low high) y.toInt i q) := ⟨_, fun _ _ _ => Iff.rfl⟩
  obtain ⟨mu, hmu⟩ : ∃ mu : Int32 → Int32 → Int32 → Nat, ∀ e n k, mu e n k = j - k.toNatClampNeg := ⟨_, fun _ _ _ => rfl⟩
  have hbi := ex_b (bb low high) i
  have p0 := pw_0 (bb low high) y.toInt i
  refine ⟨fun c => ⟨I, mu, (hI _ _ _).mpr ⟨i, Nat.le_refl _, hij, rfl, rfl, ?_⟩, ?_⟩, fun c => ⟨I, mu, (hI _ _ _).mpr ⟨i, Nat.le_refl _, hij, rfl, rfl, ?_⟩, ?_⟩⟩
  · rw [p0, if_neg (fun z => c ((eqI (by omega) (by omega)).mpr z))]; rfl
  rotate_left
  · rw [p0, if_pos ((eqI (by omega) (by omega)).mp c)]; rfl
  all_goals
    intro e n k hIk
    obtain ⟨q, q1, q2, rfl, rfl, rfl⟩ := (hI e n k).mp hIk
    refine pk_le j q (fun c => ?_) (fun c => ?_)
    · rw [show q = j by omega]; exact h
    · refine x_stepAt (by omega) ?_
      rintro _ rfl
      rw [step_add]
      have hb1 := ex_b (bb low high) (q + 1)
      have ps := pw_s (B := bb low high) (d := y.toInt) q1
      refine ⟨fun c2 => ?_, fun c2 => ?_⟩
      · rintro _ rfl
        rw [nI_1]
        rw [if_neg (fun z => c2 ((eqI (by omega) (by omega)).mpr z))] at ps
        exact ⟨(hI _ _ _).mpr ⟨q + 1, by omega, by omega, rfl, rfl, by rw [ps]; rfl⟩, by rw [hmu, hmu, nI_clamp (by omega), nI_clamp (by omega)]; omega⟩
      · rintro _ rfl _ rfl
        rw [nI_1, nI_1]
        rw [if_pos ((eqI (by omega) (by omega)).mp c2)] at ps
        exact ⟨(hI _ _ _).mpr ⟨q + 1, by omega, by omega, rfl, rfl, by rw [ps]⟩, by rw [hmu, hmu, nI_clamp (by omega), nI_clamp (by omega)]; omega⟩
theorem x_firstWith {low high : Int64} {N p : Nat} {g lo hi : Nat → Int32} {y : Int32} (hS : SM (bb low high) N g lo hi) (hN : N ≤ 128) (hp : p ≤ N) {post : Int32 → Prop} (h1 : ex (bb low high) p = y.toInt → post (nI p)) (h2 : ex (bb low high) p ≠ y.toInt → ∀ r, IsF (bb low high) N p y.toInt r → post r) : wX1_firstWith low high (nI N) g lo hi (nI p) y post := by
  unfold wX1_firstWith
  have hbp := ex_b (bb low high) p
  refine x_excessAt (by omega) ⟨fun c => ?_, fun c => h1 ((eqI (by omega) (by omega)).mp c)⟩
  exact x_searchOn hS hN hp (h2 (fun z => c ((eqI (by omega) (by omega)).mpr z)))
theorem Tr_iff {B : Nat → Bool} {N : Nat} (hN : N ≤ 128) (h0 : 0 < N) : Tr B N ↔ B 0 = true ∧ IsF B N 0 0 (nI N) := by
  constructor
  · intro hT
    exact ⟨hT.first h0, Or.inl ⟨N, h0, Nat.le_refl _, hT.2.1, fun k k1 k2 => by have := hT.2.2 k k1 k2; omega, rfl⟩⟩
  · rintro ⟨hB, hF⟩
    rcases hF with ⟨q, q1, q2, q3, q4, q5⟩ | ⟨q1, q2⟩
    · have e : N = q := (nI_eq (by omega) (by omega)).mp q5
      subst e
      refine ⟨hN, q3, fun p p1 p2 => ?_⟩
      rcases Int.lt_or_le 0 (ex B p) with z | z
      · exact z
      · have h1 := ex_t hB
        rw [ex_0] at h1
        obtain ⟨k, k1, k2, k3, k4⟩ := ex_down (B := B) (a := 1) (b := p) (d := 0) (by omega) (by simp at h1; omega) z
        exact absurd k3 (q4 k (by omega) (by omega))
    · exact absurd q2 (fun z => by
        have : (nI N).toInt = (-4 : Int32).toInt := by rw [z]
        rw [nI_toInt (by omega)] at this
        have e4 : (-4 : Int32).toInt = -4 := rfl
        omega)
theorem x_isOfTree {low high : Int64} {N : Nat} {g lo hi : Nat → Int32} (hS : SM (bb low high) N g lo hi) (hN : N ≤ 128) {post : Int32 → Prop} (h1 : Tr (bb low high) N → post 1) (h0 : ¬ Tr (bb low high) N → post 0) : wX1_isOfTree low high (nI N) g lo hi post := by
  unfold wX1_isOfTree
  refine pk_eq N 0 (fun c => h1 ?_) (fun c => ?_)
  · subst c
    exact ⟨by omega, ex_0 _, fun p p1 p2 => by omega⟩
  · refine x_bitAt (p := 0) (by omega) ?_
    have ti := Tr_iff (B := bb low high) hN (by omega)
    cases hb : bb low high 0 with
    | false =>
      rw [if_neg (by decide)]
      refine ⟨fun _ => h0 (fun hT => ?_), fun z => absurd z (by decide)⟩
      have := (ti.mp hT).1
      rw [hb] at this
      cases this
    | true =>
      rw [if_pos rfl]
      refine ⟨fun z => absurd rfl z, fun _ => x_searchOn (p := 0) hS hN (by omega) (fun r hr => ⟨fun c2 => h0 (fun hT => ?_), fun c2 => h1 (ti.mpr ⟨hb, ?_⟩)⟩)⟩
      · exact c2 (IsF.one hr (ti.mp hT).2)
      · rw [c2] at hr; exact hr
/-- one block's summary -/
def BK (B : Nat → Bool) (N b : Nat) (G L H : Int32) : Prop := ∃ m M : Int, G = iI (ex B (min N (16 * b + 16)) - ex B (16 * b)) ∧ L = iI m ∧ H = iI M ∧ -16 ≤ m ∧ M ≤ 16 ∧ (∀ q, 16 * b < q → q ≤ min N (16 * b + 16) → m ≤ ex B q - ex B (16 * b) ∧ ex B q - ex B (16 * b) ≤ M) ∧ (∃ q, 16 * b < q ∧ q ≤ min N (16 * b + 16) ∧ ex B q - ex B (16 * b) = m) ∧ (∃ q, 16 * b < q ∧ q ≤ min N (16 * b + 16) ∧ ex B q - ex B (16 * b) = M)
theorem BK.cong {B C : Nat → Bool} {N N' b : Nat} {G L H : Int32} (h : BK B N b G L H) (h1 : 16 * b + 16 ≤ N) (h2 : 16 * b + 16 ≤ N') (hc : ∀ k, k < 16 * b + 16 → B k = C k) : BK C N' b G L H := by
  obtain ⟨m, M, e1, e2, e3, e4, e5, e6, e7, e8⟩ := h
  have he : ∀ q, q ≤ 16 * b + 16 → ex C q = ex B q := fun q hq => (ex_cong (fun k hk => hc k (by omega))).symm
  rw [show min N (16 * b + 16) = 16 * b + 16 by omega] at e1 e6 e7 e8
  refine ⟨m, M, ?_, e2, e3, e4, e5, ?_, ?_, ?_⟩
  · rw [show min N' (16 * b + 16) = 16 * b + 16 by omega, he _ (by omega), he _ (by omega)]; exact e1
  · intro q q1 q2
    rw [he q (by omega), he _ (by omega)]; exact e6 q q1 (by omega)
  · obtain ⟨q, q1, q2, q3⟩ := e7
    exact ⟨q, q1, by omega, by rw [he q (by omega), he _ (by omega)]; exact q3⟩
  · obtain ⟨q, q1, q2, q3⟩ := e8
    exact ⟨q, q1, by omega, by rw [he q (by omega), he _ (by omega)]; exact q3⟩
theorem x_summariseBlock {low high : Int64} {N b : Nat} {g lo hi : Nat → Int32} (hN : N ≤ 128) (hb : b < 8) {post : ((Nat → Int32) × (Nat → Int32) × (Nat → Int32)) → Prop} (h : ∀ G L H, (16 * b < N → BK (bb low high) N b G L H) → post (upd g b G, upd lo b L, upd hi b H)) : wX1_summariseBlock low high (nI N) g lo hi (nI b) post := by
  unfold wX1_summariseBlock
  rw [show (16 : Int32) = nI 16 from rfl, pk_mul, nI_add]
  rintro x1 e1 _ rfl
  have e1 : x1 = nI (min N (16 * b + 16)) := by
    rw [e1]
    by_cases c : 16 * b + 16 < N
    · rw [if_pos ((nI_ltI (by omega) (by omega)).mpr c)]; congr 1; omega
    · rw [if_neg (fun z => c ((nI_ltI (by omega) (by omega)).mp z))]; congr 1; omega
  subst e1
  obtain ⟨I, hI⟩ : ∃ I : Int32 → Int32 → Int32 → Int32 → Prop, ∀ e l m k, I e l m k ↔ ∃ q u v, 16 * b ≤ q ∧ (q ≤ min N (16 * b + 16) ∨ q = 16 * b) ∧ k = nI q ∧ e = iI (ex (bb low high) q - ex (bb low high) (16 * b)) ∧ l = iI u ∧ m = iI v ∧ (q = 16 * b ∧ u = 16 ∧ v = -16 ∨ 16 * b < q ∧ -16 ≤ u ∧ v ≤ 16 ∧ (∀ z, 16 * b < z → z ≤ q → u ≤ ex (bb low high) z - ex (bb low high) (16 * b) ∧ ex (bb low high) z - ex (bb low high) (16 * b) ≤ v) ∧ (∃ z, 16 * b < z ∧ z ≤ q ∧ ex (bb low high) z - ex (bb low high) (16 * b) = u) ∧ (∃ z, 16 * b < z ∧ z ≤ q ∧ ex (bb low high) z - ex (bb low high) (16 * b) = v)) := ⟨_, fun _ _ _ _ => Iff.rfl⟩
  obtain ⟨mu, hmu⟩ : ∃ mu : Int32 → Int32 → Int32 → Int32 → Nat, ∀ e l m k, mu e l m k = 129 - k.toNatClampNeg := ⟨_, fun _ _ _ _ => rfl⟩
  refine ⟨I, mu, (hI _ _ _ _).mpr ⟨16 * b, 16, -16, Nat.le_refl _, Or.inr rfl, rfl, by rw [Int.sub_self]; rfl, rfl, rfl, Or.inl ⟨rfl, rfl, rfl⟩⟩, ?_⟩
  intro e l m k hIk
  obtain ⟨q, u, v, q1, q2, rfl, rfl, rfl, rfl, hq⟩ := (hI e l m k).mp hIk
  clear hIk
  refine pk_le (min N (16 * b + 16)) q (fun c => ?_) (fun c => ?_)
  · refine ⟨pk_in b 8 hb, pk_in b 8 hb, pk_in b 8 hb, ?_⟩
    rw [nI_clamp (by omega)]
    refine h _ _ _ (fun hbN => ?_)
    rcases hq with ⟨rfl, -, -⟩ | ⟨w0, w1, w2, w3, w4, w5⟩
    · omega
    · have eq : q = min N (16 * b + 16) := by omega
      rw [eq] at w3 w4 w5
      exact ⟨u, v, by rw [eq], rfl, rfl, w1, w2, w3, w4, w5⟩
  · refine x_stepAt (by omega) ?_
    have hb1 := ex_b (bb low high) (q + 1)
    have hb2 := ex_b (bb low high) (16 * b)
    have hs : iI (ex (bb low high) q - ex (bb low high) (16 * b)) + (if bb low high q then 1 else -1) = iI (ex (bb low high) (q + 1) - ex (bb low high) (16 * b)) := by
      cases hbb : bb low high q with
      | true => rw [if_pos rfl, ex_t hbb, iI_p1]; congr 1; omega
      | false => rw [if_neg (by decide), ex_f hbb, iI_m1]; congr 1; omega
    have hd : ∀ z, 16 * b ≤ z → z ≤ 16 * b + 16 → -16 ≤ ex (bb low high) z - ex (bb low high) (16 * b) ∧ ex (bb low high) z - ex (bb low high) (16 * b) ≤ 16 := by
      intro z z1 z2
      have h1 := ex_par (bb low high) z
      have h2 := ex_par (bb low high) (16 * b)
      have h3 := fb_ct_mono (bb low high) z1
      obtain ⟨w, rfl⟩ := Nat.exists_eq_add_of_le z1
      have h4 := fb_ct_split (bb low high) (16 * b) w
      have h5 := fb_ct_le (fun k => bb low high (16 * b + k)) w
      omega
    rintro _ rfl _ rfl _ rfl _ rfl
    rw [hs, nI_1]
    have hqd := hd (q + 1) (by omega) (by omega)
    have huv : -1000 ≤ u ∧ u ≤ 1000 ∧ -1000 ≤ v ∧ v ≤ 1000 := by
      rcases hq with ⟨rfl, rfl, rfl⟩ | ⟨w0, w1, w2, w3, w4, w5⟩
      · omega
      · have := w3 q w0 (Nat.le_refl _)
        have := hd q (by omega) (by omega)
        omega
    rw [ite_min (by omega) (by omega), ite_max (by omega) (by omega)]
    refine ⟨(hI _ _ _ _).mpr ⟨q + 1, _, _, by omega, Or.inl (by omega), rfl, rfl, rfl, rfl, Or.inr ⟨by omega, ?_⟩⟩, by rw [hmu, hmu, nI_clamp (by omega), nI_clamp (by omega)]; omega⟩
    rcases hq with ⟨rfl, rfl, rfl⟩ | ⟨w0, w1, w2, w3, w4, w5⟩
    · refine ⟨by omega, by omega, fun z z1 z2 => ?_, ⟨16 * b + 1, by omega, by omega, by omega⟩, ⟨16 * b + 1, by omega, by omega, by omega⟩⟩
      rw [show z = 16 * b + 1 by omega]
      omega
    · refine ⟨by omega, by omega, fun z z1 z2 => ?_, ?_, ?_⟩
      · rcases Nat.lt_or_ge q z with w | w
        · rw [show z = q + 1 by omega]; omega
        · have := w3 z z1 w; omega
      · obtain ⟨z, z1, z2, z3⟩ := w4
        by_cases c9 : ex (bb low high) (q + 1) - ex (bb low high) (16 * b) < u
        · exact ⟨q + 1, by omega, by omega, by omega⟩
        · exact ⟨z, z1, by omega, by omega⟩
      · obtain ⟨z, z1, z2, z3⟩ := w5
        by_cases c9 : v < ex (bb low high) (q + 1) - ex (bb low high) (16 * b)
        · exact ⟨q + 1, by omega, by omega, by omega⟩
        · exact ⟨z, z1, by omega, by omega⟩
theorem x_summarise {low high : Int64} {N p : Nat} {g lo hi : Nat → Int32} (hN : N ≤ 128) (hp : p ≤ 128) (h0 : ∀ b, b < p / 16 → 16 * b < N → BK (bb low high) N b (g b) (lo b) (hi b)) {post : ((Nat → Int32) × (Nat → Int32) × (Nat → Int32)) → Prop} (h : ∀ g' lo' hi', SM (bb low high) N g' lo' hi' → post (g', lo', hi')) : wX1_summarise low high (nI N) g lo hi (nI p) post := by
  unfold wX1_summarise
  rw [nI_div16 (by omega)]
  rintro _ rfl
  obtain ⟨I, hI⟩ : ∃ I : Int32 → (Nat → Int32) → (Nat → Int32) → (Nat → Int32) → Prop, ∀ k g lo hi, I k g lo hi ↔ ∃ c, c ≤ 8 ∧ k = nI c ∧ ∀ b, b < c → 16 * b < N → BK (bb low high) N b (g b) (lo b) (hi b) := ⟨_, fun _ _ _ _ => Iff.rfl⟩
  obtain ⟨mu, hmu⟩ : ∃ mu : Int32 → (Nat → Int32) → (Nat → Int32) → (Nat → Int32) → Nat, ∀ k g lo hi, mu k g lo hi = 8 - k.toNatClampNeg := ⟨_, fun _ _ _ _ => rfl⟩
  refine ⟨I, mu, (hI _ _ _ _).mpr ⟨p / 16, by omega, rfl, h0⟩, ?_⟩
  intro k g1 lo1 hi1 hIk
  obtain ⟨c, c1, rfl, hc⟩ := (hI k g1 lo1 hi1).mp hIk
  clear hIk
  refine pk_le 8 c (fun z => h _ _ _ (fun b hb => hc b (by omega) hb)) (fun z => ?_)
  refine x_summariseBlock hN z (fun G L H hBK => ?_)
  rintro _ rfl
  rw [nI_1]
  refine ⟨(hI _ _ _ _).mpr ⟨c + 1, by omega, rfl, fun b hb hbN => ?_⟩, by rw [hmu, hmu, nI_clamp (by omega), nI_clamp (by omega)]; omega⟩
  rcases Nat.eq_or_lt_of_le (Nat.le_of_lt_succ hb) with e | e
  · subst e
    dsimp only
    rw [pk_us, pk_us, pk_us]; exact hBK hbN
  · dsimp only
    rw [pk_un (by omega), pk_un (by omega), pk_un (by omega)]; exact hc b e hbN
theorem x_remove {low high : Int64} {N p n : Nat} {g lo hi : Nat → Int32} (hS : SM (bb low high) N g lo hi) (hN : N ≤ 128) (hp : p + n ≤ N) {post : (Int64 × Int64 × Int32 × (Nat → Int32) × (Nat → Int32) × (Nat → Int32)) → Prop} (h : ∀ low' high' g' lo' hi', (∀ k, k < 128 → bb low' high' k = if k < p then bb low high k else bb low high (k + n)) → SM (bb low' high') (N - n) g' lo' hi' → post (low', high', nI (N - n), g', lo', hi')) : wX1_remove low high (nI N) g lo hi (nI p) (nI n) post := by
  unfold wX1_remove
  refine x_firstOf (fun r1 h1 => x_firstOf (fun r2 h2 => x_downLow (by omega) (fun r3 h3 => ?_)))
  rw [nI_toInt (by omega)] at h1
  rw [nI_m64, iI_toInt (by omega) (by omega)] at h2
  rintro x4 e4
  refine x_downHigh (by omega) (fun r5 h5 => ?_)
  rintro x6 e6 x7 e7
  rw [pk_sub (by omega)] at e7
  subst e7
  have hbits : ∀ k, k < 128 → bb x4 x6 k = if k < p then bb low high k else bb low high (k + n) := by
    intro k hk
    rcases Nat.lt_or_ge k 64 with z | z
    · rw [bb_lo z, e4, lb_or, lb_and, lb_and, lb_not r1 z, h1 k z, h3 k z, bb_lo (low := low) (high := high) z, Nat.add_comm n k]
      by_cases c : k < p
      · rw [if_pos c, decide_eq_true (by omega)]; simp
      · rw [if_neg c, decide_eq_false (by omega)]; simp
    · rw [bb_hi z, e6, lb_or, lb_and, lb_and, lb_not r2 (by omega), h2 (k - 64) (by omega), h5 (k - 64) (by omega), bb_hi (low := low) (high := high) z, bb_hi (low := low) (high := high) (k := k + n) (by omega), show n + (k - 64) = k + n - 64 by omega]
      by_cases c : k < p
      · rw [if_pos c, decide_eq_true (by omega)]; simp
      · rw [if_neg c, decide_eq_false (by omega)]; simp
  refine x_summarise (by omega) (by omega) (fun b hb hbN => ?_) (fun g' lo' hi' hS' => h _ _ _ _ _ hbits hS')
  exact BK.cong (hS b (by omega)) (by omega) (by omega) (fun k hk => by rw [hbits k (by omega), if_pos (by omega)])
theorem x_insert {low high c d : Int64} {N p n : Nat} {g lo hi : Nat → Int32} (hS : SM (bb low high) N g lo hi) (hN : N + n ≤ 128) (hp : p ≤ N) (hC : ∀ k, n ≤ k → bb c d k = false) {post : (Int64 × Int64 × Int32 × (Nat → Int32) × (Nat → Int32) × (Nat → Int32)) → Prop} (h : ∀ low' high' g' lo' hi', (∀ k, k < 128 → bb low' high' k = if k < p then bb low high k else if k < p + n then bb c d (k - p) else bb low high (k - n)) → SM (bb low' high') (N + n) g' lo' hi' → post (low', high', nI (N + n), g', lo', hi')) : wX1_insert low high (nI N) g lo hi (nI p) (nI n) c d post := by
  unfold wX1_insert
  refine x_firstOf (fun r1 h1 => x_firstOf (fun r2 h2 => ?_))
  rw [nI_toInt (by omega)] at h1
  rw [nI_m64, iI_toInt (by omega) (by omega)] at h2
  rintro x3 e3 x4 e4
  have hgo : ∀ k, k < 128 → bb x3 x4 k = (bb low high k && decide (p ≤ k)) := by
    intro k hk
    rcases Nat.lt_or_ge k 64 with z | z
    · rw [bb_lo z, e3, lb_and, lb_not r1 z, h1 k z, bb_lo z]
      congr 1
      rcases Nat.lt_or_ge k p with w | w
      · rw [decide_eq_true (by omega), decide_eq_false (by omega)]; rfl
      · rw [decide_eq_false (by omega), decide_eq_true (by omega)]; rfl
    · rw [bb_hi z, e4, lb_and, lb_not r2 (by omega), h2 (k - 64) (by omega), bb_hi z]
      congr 1
      rcases Nat.lt_or_ge k p with w | w
      · rw [decide_eq_true (by omega), decide_eq_false (by omega)]; rfl
      · rw [decide_eq_false (by omega), decide_eq_true (by omega)]; rfl
  refine x_upHigh (by omega) (fun r5 h5 => x_upHigh (by omega) (fun r6 h6 => ?_))
  rintro x7 e7
  refine x_upLow (by omega) (fun r8 h8 => x_upLow (by omega) (fun r9 h9 => ?_))
  rintro x10 e10 x11 e11
  rw [nI_add] at e11
  subst e11
  have hbits : ∀ k, k < 128 → bb x10 x7 k = if k < p then bb low high k else if k < p + n then bb c d (k - p) else bb low high (k - n) := by
    intro k hk
    have key : bb x10 x7 k = ((bb low high k && decide (k < p)) || (decide (n ≤ k) && (bb low high (k - n) && decide (p ≤ k - n))) || (decide (p ≤ k) && bb c d (k - p))) := by
      rcases Nat.lt_or_ge k 64 with z | z
      · rw [bb_lo z, e10, lb_or, lb_or, lb_and, h1 k z, h8 k z, h9 k z, bb_lo (low := low) (high := high) z, bb_lo (low := c) (high := d) (k := k - p) (by omega), ← bb_lo (low := x3) (high := x4) (k := k - n) (by omega), hgo (k - n) (by omega)]
        rw [decide_eq_decide.mpr (show ((k : Int) < p) ↔ k < p by omega)]
      · rw [bb_hi z, e7, lb_or, lb_or, lb_and, h2 (k - 64) (by omega), h5 (k - 64) (by omega), h6 (k - 64) (by omega), bb_hi (low := low) (high := high) z, show 64 + (k - 64) = k by omega, hgo (k - n) (by omega)]
        rw [decide_eq_decide.mpr (show (((k - 64 : Nat) : Int) < (p : Int) - 64) ↔ k < p by omega)]
    rw [key]
    by_cases c1 : k < p
    · rw [if_pos c1, decide_eq_true c1, decide_eq_false (show ¬ p ≤ k by omega), decide_eq_false (show ¬ p ≤ k - n by omega)]
      simp
    · rw [if_neg c1, decide_eq_false c1, decide_eq_true (show p ≤ k by omega)]
      by_cases c2 : k < p + n
      · rw [if_pos c2]
        rcases Nat.lt_or_ge k n with w | w
        · rw [decide_eq_false (show ¬ n ≤ k by omega)]; simp
        · rw [decide_eq_false (show ¬ p ≤ k - n by omega)]; simp
      · rw [if_neg c2, decide_eq_true (show n ≤ k by omega), decide_eq_true (show p ≤ k - n by omega), hC (k - p) (by omega)]
        simp
  refine x_summarise (by omega) (by omega) (fun b hb hbN => ?_) (fun g' lo' hi' hS' => h _ _ _ _ _ hbits hS')
  exact BK.cong (hS b (by omega)) (by omega) (by omega) (fun k hk => by rw [hbits k (by omega), if_pos (by omega)])
theorem x_taken {low high : Int64} {p n : Nat} (hp : p ≤ 128) (hn : n ≤ 128) {post : Int64 → Int64 → Prop} (h : ∀ c d, (∀ k, k < 128 → bb c d k = (bb low high (p + k) && decide (k < n))) → post c d) : wX1_takenLow low high (nI p) (nI n) (fun c => wX1_takenHigh high (nI p) (nI n) (fun d => post c d)) := by
  unfold wX1_takenLow wX1_takenHigh
  refine x_downLow hp (fun r1 h1 => x_firstOf (fun r2 h2 => x_downHigh hp (fun r3 h3 => x_firstOf (fun r4 h4 => h _ _ (fun k hk => ?_)))))
  rw [nI_toInt (by omega)] at h2
  rw [nI_m64, iI_toInt (by omega) (by omega)] at h4
  rcases Nat.lt_or_ge k 64 with z | z
  · rw [bb_lo z, lb_and, h1 k z, h2 k z, decide_eq_decide.mpr (show ((k : Int) < n) ↔ k < n by omega)]
  · rw [bb_hi z, lb_and, h3 (k - 64) (by omega), h4 (k - 64) (by omega), decide_eq_decide.mpr (show (((k - 64 : Nat) : Int) < (n : Int) - 64) ↔ k < n by omega), bb_hi (low := low) (high := high) (k := p + k) (by omega), show p + (k - 64) = p + k - 64 by omega]
theorem x_append {low high : Int64} {N : Nat} {b : Bool} (hN : N < 128) (hB : ∀ k, N ≤ k → bb low high k = false) {post : (Int64 × Int64 × Int32) → Prop} (h : ∀ low' high', (∀ k, bb low' high' k = if k = N then b else bb low high k) → post (low', high', nI (N + 1))) : wX1_append low high (nI N) (if b then 1 else 0) post := by
  unfold wX1_append
  have hv : ((if b then 1 else 0 : Int32).toInt64) = (if b then 1 else 0) := by cases b <;> rfl
  have h1 : ∀ j, j < 64 → lb (if b then 1 else 0) j = (b && decide (j = 0)) := by
    cases b
    · intro j hj; exact lb_0 j
    · intro j hj
      show lb (lN (2 ^ 0)) j = _
      rw [lb_N hj, Nat.testBit_two_pow]
      exact decide_eq_decide.mpr (by omega)
  rw [hv]
  refine pk_lt N 128 (fun _ => ?_) (fun z => by omega)
  refine pk_le 64 N (fun c => ?_) (fun c => ?_)
  · rintro x3 e3 x4 e4
    rw [nI_1] at e4
    subst e4
    refine h _ _ (fun k => ?_)
    rcases Nat.lt_or_ge k 64 with z | z
    · rw [bb_lo z, if_neg (by omega), bb_lo z]
    · rcases Nat.lt_or_ge k 128 with w | w
      · rw [bb_hi z, e3, lb_or, show nI N - 64 = nI (N - 64) from pk_sub c, lb_shl _ (by omega) (by omega), ← bb_hi (low := low) z]
        by_cases c2 : k = N
        · subst c2
          rw [if_pos rfl, hB k (Nat.le_refl _), decide_eq_true (by omega), h1 _ (by omega)]
          simp
        · rw [if_neg c2]
          rcases Nat.lt_or_ge (k - 64) (N - 64) with q | q
          · rw [decide_eq_false (by omega)]; simp
          · rw [h1 _ (by omega), decide_eq_false (show ¬ k - 64 - (N - 64) = 0 by omega)]; simp
      · rw [bb_big w, if_neg (by omega), bb_big w]
  · rintro x5 e5 x6 e6
    rw [nI_1] at e6
    subst e6
    refine h _ _ (fun k => ?_)
    rcases Nat.lt_or_ge k 64 with z | z
    · rw [bb_lo z, e5, lb_or, lb_shl _ c z, ← bb_lo (high := high) z]
      by_cases c2 : k = N
      · subst c2
        rw [if_pos rfl, hB k (Nat.le_refl _), decide_eq_true (by omega), h1 _ (by omega)]
        simp
      · rw [if_neg c2]
        rcases Nat.lt_or_ge k N with q | q
        · rw [decide_eq_false (by omega)]; simp
        · rw [h1 _ (by omega), decide_eq_false (show ¬ k - N = 0 by omega)]; simp
    · rw [bb_hi z, if_neg (by omega), bb_hi z]
