/-! read: both sides -/
def rb (l f : Nat) (ce : Nat → Int64) (i : Nat) : Bool := lb (ce ((f + i) / wdn l)) ((f + i) % wdn l)
theorem x_sbit {l a : Nat} {ce : Nat → Int64} (hl : l < 3) (ha : a / wdn l < 40) {post : Int32 → Prop} (h : post (if lb (ce (a / wdn l)) (a % wdn l) then 1 else 0)) : wX2_bitAt (nI l) ce (nI a) post := by
  have h1 := wdn_is hl
  have h2 := dv_lt hl ha
  have hne : ¬ nI (wdn l) = (0 : Int32) := nI_ne0 (by omega) (by omega)
  unfold wX2_bitAt
  refine x_bits hl ⟨hne, ?_⟩
  rw [pk_div (by omega) (by omega) (by omega)]
  refine ⟨pk_in _ 40 ha, hne, ?_⟩
  have e := pk_rem (a := a) (d := wdn l) (by omega) (by omega) (by omega)
  rw [pk_div (by omega) (by omega) (by omega)] at e
  rw [e, nI_clamp (by omega), (bit_val _ (md_lt a hl)).1]
  exact h
theorem shr_one (x : Int64) {n : Nat} (hn : n < 64) : (zlshr x (nI n) &&& 1).toInt32 = if lb x n then 1 else 0 := by
  have e : (zlshr x (nI n) &&& 1) = if lb x n then (1 : Int64) else 0 := by
    refine lb_ext (fun k hk => ?_)
    rw [lb_and, lb_1 k hk]
    by_cases c : k = 0
    · rw [c, lb_shr _ hn (by omega), if_pos (by omega), Nat.add_zero, decide_eq_true rfl, Bool.and_true]
      cases lb x n
      · exact (lb_0 0).symm
      · exact (lb_1 0 (by omega)).symm
    · rw [decide_eq_false c, Bool.and_false]
      cases lb x n
      · exact (lb_0 k).symm
      · show false = lb 1 k
        rw [lb_1 k hk, decide_eq_false c]
  rw [e]
  cases lb x n <;> rfl
theorem m_isRow {rp : Nat → Int32} {B : Nat → Bool} {n : Nat} (hn : n ≤ 128) (hb : ∀ k, k < n → rp k = if B k then 1 else 0) {post : Int32 → Prop} (h1 : Tr B n → post 1) (h0 : ¬ Tr B n → post 0) : wX6_isRow rp (nI n) post := by
  have key : ∀ (s0 : Int32), ((s0 = 1 ∧ n % 2 = 0) ∨ (s0 = 0 ∧ ¬ n % 2 = 0)) → (∃ (I_2 : Int32 → Int32 → Int32 → Prop) (mu_2 : Int32 → Int32 → Int32 → Nat), I_2 (0 : Int32) s0 (0 : Int32) ∧ ∀ (x_3 : Int32) (x_4 : Int32) (x_5 : Int32), I_2 x_3 x_4 x_5 → ((nI n ≤ x_5 → ((x_4 = 0 → post (0 : Int32)) ∧ (¬ x_4 = 0 → ((¬ x_3 = 0 → post (0 : Int32)) ∧ (x_3 = 0 → post (1 : Int32)))))) ∧ (¬ nI n ≤ x_5 → (vp_in x_5 193 ∧ ((¬ (rp x_5.toNatClampNeg) = (1 : Int32) → (∀ x_10 : Int32, x_10 = (x_3 + (-1 : Int32)) → ((x_4 = 0 → (∀ x_12 : Int32, x_12 = x_5 + (1) → (I_2 x_10 (0 : Int32) x_12 ∧ mu_2 x_10 (0 : Int32) x_12 < mu_2 x_3 x_4 x_5))) ∧ (¬ x_4 = 0 → ((0 < x_10 → (∀ x_14 : Int32, x_14 = x_5 + (1) → (I_2 x_10 (1 : Int32) x_14 ∧ mu_2 x_10 (1 : Int32) x_14 < mu_2 x_3 x_4 x_5))) ∧ (¬ 0 < x_10 → ((¬ x_10 = 0 → (∀ x_16 : Int32, x_16 = x_5 + (1) → (I_2 x_10 (0 : Int32) x_16 ∧ mu_2 x_10 (0 : Int32) x_16 < mu_2 x_3 x_4 x_5))) ∧ (x_10 = 0 → ((¬ x_5 = (nI n - (1 : Int32)) → (∀ x_18 : Int32, x_18 = x_5 + (1) → (I_2 x_10 (0 : Int32) x_18 ∧ mu_2 x_10 (0 : Int32) x_18 < mu_2 x_3 x_4 x_5))) ∧ (x_5 = (nI n - (1 : Int32)) → (∀ x_19 : Int32, x_19 = x_5 + (1) → (I_2 x_10 (1 : Int32) x_19 ∧ mu_2 x_10 (1 : Int32) x_19 < mu_2 x_3 x_4 x_5)))))))))))) ∧ ((rp x_5.toNatClampNeg) = (1 : Int32) → (∀ x_20 : Int32, x_20 = (x_3 + (1 : Int32)) → ((x_4 = 0 → (∀ x_22 : Int32, x_22 = x_5 + (1) → (I_2 x_20 (0 : Int32) x_22 ∧ mu_2 x_20 (0 : Int32) x_22 < mu_2 x_3 x_4 x_5))) ∧ (¬ x_4 = 0 → ((0 < x_20 → (∀ x_24 : Int32, x_24 = x_5 + (1) → (I_2 x_20 (1 : Int32) x_24 ∧ mu_2 x_20 (1 : Int32) x_24 < mu_2 x_3 x_4 x_5))) ∧ (¬ 0 < x_20 → ((¬ x_20 = 0 → (∀ x_26 : Int32, x_26 = x_5 + (1) → (I_2 x_20 (0 : Int32) x_26 ∧ mu_2 x_20 (0 : Int32) x_26 < mu_2 x_3 x_4 x_5))) ∧ (x_20 = 0 → ((¬ x_5 = (nI n - (1 : Int32)) → (∀ x_28 : Int32, x_28 = x_5 + (1) → (I_2 x_20 (0 : Int32) x_28 ∧ mu_2 x_20 (0 : Int32) x_28 < mu_2 x_3 x_4 x_5))) ∧ (x_5 = (nI n - (1 : Int32)) → (∀ x_29 : Int32, x_29 = x_5 + (1) → (I_2 x_20 (1 : Int32) x_29 ∧ mu_2 x_20 (1 : Int32) x_29 < mu_2 x_3 x_4 x_5))))))))))))))))) := by
    intro s0 hs0
    obtain ⟨GD, hGD⟩ : ∃ GD : Nat → Prop, ∀ p, GD p ↔ (n % 2 = 0 ∧ ∀ q, 0 < q → q ≤ p → (0 < ex B q ∨ (ex B q = 0 ∧ q = n))) := ⟨_, fun _ => Iff.rfl⟩
    have mx : ∀ p, p < n → n - (nI (p + 1)).toNatClampNeg < n - (nI p).toNatClampNeg := fun p hp => by
      rw [nI_clamp (by omega), nI_clamp (by omega)]; omega
    refine ⟨fun x3 x4 x5 => ∃ p, p ≤ n ∧ x5 = nI p ∧ x3 = iI (ex B p) ∧ ((x4 = 1 ∧ GD p) ∨ (x4 = 0 ∧ ¬ GD p)), fun _ _ x5 => n - x5.toNatClampNeg, ⟨0, Nat.zero_le _, rfl, by rw [ex_0]; rfl, ?_⟩, ?_⟩
    · rcases hs0 with ⟨e, c⟩ | ⟨e, c⟩
      · exact Or.inl ⟨e, (hGD 0).mpr ⟨c, fun q q1 q2 => by omega⟩⟩
      · exact Or.inr ⟨e, fun z => c ((hGD 0).mp z).1⟩
    rintro x3 x4 x5 ⟨p, p1, rfl, rfl, h4⟩
    have eb := ex_b B p
    refine pk_le n p (fun c => ?_) (fun c => ?_)
    · have e : p = n := by omega
      subst e
      refine ⟨fun z => h0 (fun hT => ?_), fun z => ?_⟩
      · rcases h4 with ⟨y, _⟩ | ⟨_, y⟩
        · rw [y] at z; exact absurd z (by decide)
        · refine y ((hGD p).mpr ⟨by have := hT.two; omega, fun q q1 q2 => ?_⟩)
          rcases Nat.lt_or_ge q p with w | w
          · exact Or.inl (hT.2.2 q q1 w)
          · have : q = p := by omega
            exact Or.inr ⟨by rw [this]; exact hT.2.1, this⟩
      · rcases h4 with ⟨_, y⟩ | ⟨y, _⟩
        · refine q_ne (ex B p) 0 (fun c2 => h0 (fun hT => c2 hT.2.1)) (fun c2 => h1 ⟨hn, c2, fun q q1 q2 => ?_⟩)
          rcases ((hGD p).mp y).2 q q1 (by omega) with w | w
          · exact w
          · omega
        · exact absurd y z
    · have e1 : nI n - 1 = nI (n - 1) := pk_sub (a := n) (b := 1) (by omega)
      rw [e1, nI_1]
      have eb1 := ex_b B (p + 1)
      have up : GD (p + 1) → GD p := fun z => (hGD p).mpr ⟨((hGD _).mp z).1, fun q q1 q2 => ((hGD _).mp z).2 q q1 (by omega)⟩
      have at1 : GD (p + 1) → (0 < ex B (p + 1) ∨ (ex B (p + 1) = 0 ∧ p + 1 = n)) := fun z => ((hGD _).mp z).2 (p + 1) (by omega) (Nat.le_refl _)
      have mk : GD p → (0 < ex B (p + 1) ∨ (ex B (p + 1) = 0 ∧ p + 1 = n)) → GD (p + 1) := fun z y => (hGD _).mpr ⟨((hGD _).mp z).1, fun q q1 q2 => by
        rcases Nat.lt_or_ge p q with w | w
        · rw [show q = p + 1 by omega]; exact y
        · exact ((hGD p).mp z).2 q q1 w⟩
      have sub : ∀ e' : Int32, e' = iI (ex B (p + 1)) → ((x4 = 0 → (∀ y : Int32, y = nI (p + 1) → ((∃ q, q ≤ n ∧ y = nI q ∧ e' = iI (ex B q) ∧ (((0 : Int32) = 1 ∧ GD q) ∨ ((0 : Int32) = 0 ∧ ¬ GD q))) ∧ n - y.toNatClampNeg < n - (nI p).toNatClampNeg))) ∧ (¬ x4 = 0 → ((0 < e' → (∀ y : Int32, y = nI (p + 1) → ((∃ q, q ≤ n ∧ y = nI q ∧ e' = iI (ex B q) ∧ (((1 : Int32) = 1 ∧ GD q) ∨ ((1 : Int32) = 0 ∧ ¬ GD q))) ∧ n - y.toNatClampNeg < n - (nI p).toNatClampNeg))) ∧ (¬ 0 < e' → ((¬ e' = 0 → (∀ y : Int32, y = nI (p + 1) → ((∃ q, q ≤ n ∧ y = nI q ∧ e' = iI (ex B q) ∧ (((0 : Int32) = 1 ∧ GD q) ∨ ((0 : Int32) = 0 ∧ ¬ GD q))) ∧ n - y.toNatClampNeg < n - (nI p).toNatClampNeg))) ∧ (e' = 0 → ((¬ nI p = nI (n - 1) → (∀ y : Int32, y = nI (p + 1) → ((∃ q, q ≤ n ∧ y = nI q ∧ e' = iI (ex B q) ∧ (((0 : Int32) = 1 ∧ GD q) ∨ ((0 : Int32) = 0 ∧ ¬ GD q))) ∧ n - y.toNatClampNeg < n - (nI p).toNatClampNeg))) ∧ (nI p = nI (n - 1) → (∀ y : Int32, y = nI (p + 1) → ((∃ q, q ≤ n ∧ y = nI q ∧ e' = iI (ex B q) ∧ (((1 : Int32) = 1 ∧ GD q) ∨ ((1 : Int32) = 0 ∧ ¬ GD q))) ∧ n - y.toNatClampNeg < n - (nI p).toNatClampNeg)))))))))) := by
        rintro _ rfl
        refine ⟨fun z => ?_, fun z => ?_⟩
        · rintro _ rfl
          refine ⟨⟨p + 1, c, rfl, rfl, Or.inr ⟨rfl, fun y => ?_⟩⟩, mx p c⟩
          rcases h4 with ⟨w, _⟩ | ⟨_, w⟩
          · rw [w] at z; exact absurd z (by decide)
          · exact w (up y)
        · have gp : GD p := by
            rcases h4 with ⟨_, w⟩ | ⟨w, _⟩
            · exact w
            · exact absurd w z
          refine q_lt 0 (ex B (p + 1)) (fun c2 => ?_) (fun c2 => ?_)
          · rintro _ rfl
            exact ⟨⟨p + 1, c, rfl, rfl, Or.inl ⟨rfl, mk gp (Or.inl c2)⟩⟩, mx p c⟩
          · refine q_ne (ex B (p + 1)) 0 (fun c3 => ?_) (fun c3 => ?_)
            · rintro _ rfl
              refine ⟨⟨p + 1, c, rfl, rfl, Or.inr ⟨rfl, fun y => ?_⟩⟩, mx p c⟩
              have := at1 y; omega
            · refine pk_ne p (n - 1) (fun c4 => ?_) (fun c4 => ?_)
              · rintro _ rfl
                refine ⟨⟨p + 1, c, rfl, rfl, Or.inr ⟨rfl, fun y => ?_⟩⟩, mx p c⟩
                have := at1 y; omega
              · rintro _ rfl
                exact ⟨⟨p + 1, c, rfl, rfl, Or.inl ⟨rfl, mk gp (Or.inr ⟨c3, by omega⟩)⟩⟩, mx p c⟩
      refine ⟨pk_in p 193 (by omega), ?_⟩
      rw [nI_clamp (by omega), hb p c]
      refine b1_ne (fun cb => ?_) (fun cb => ?_)
      · intro e' he'
        exact sub e' (by rw [he', iI_m1, ex_f cb])
      · intro e' he'
        exact sub e' (by rw [he', iI_p1, ex_t cb])
  unfold wX6_isRow
  have e2 : nI n - nI n / (2 : Int32) * (2 : Int32) = nI (n % 2) := pk_rem (d := 2) (by omega) (by omega) (by omega)
  rw [e2]
  exact pk_ne (n % 2) 0 (fun c => key 0 (Or.inr ⟨rfl, c⟩)) (fun c => key 1 (Or.inl ⟨rfl, c⟩))
theorem m_read {st rp : Nat → Int32} {kd ln : Int32} {ce mc : Nat → Int64} {la le : Nat → Int32} {k l f n j : Nat} (hk : k < 4) (hS : SH kd ln ce la le mc k) (hl : l < 3) (hf : f < 2147483648) (hn : n ≤ 128) (j1 : j ≤ n) (j2 : ∀ i, i < j → fN kd ln l (f + i) = 0) (j3 : j = n ∨ ¬ fN kd ln l (f + j) = 0) {post : Int32 → ((Nat → Int32) × (Nat → Int32)) → Prop} (h1 : j = n → Tr (rb l f ce) n → ∀ st' rp', MT st' (rb l f ce) n (fun _ => 0) → (∀ k, 193 ≤ k → st' k = st k) → post (nI (fb_ct (rb l f ce) n)) (st', rp')) (h2 : j = n → ¬ Tr (rb l f ce) n → ∀ rp', post (-2) (st, rp')) (h3 : j < n → ∀ rp', post (-10 - nI (fN kd ln l (f + j))) (st, rp')) : wX6_read st rp la le mc (nI k) (nI l) (nI f) (nI n) post := by
  have hW := wdn_is hl
  unfold wX6_read
  refine m_in3 hk (t1a (m_in2 hl (t1a ⟨fun z => absurd z (nI_pos (by omega)), fun _ => ?_⟩)))
  refine m_in_y (by rw [nI_toInt (by omega)]; show (0 : Int) ≤ _; omega) (by rw [nI_toInt (by omega)]; show _ ≤ (128 : Int); omega) (t1b ?_)
  refine ⟨fun x g => ∃ i, x = nI i ∧ i ≤ j ∧ ∀ q, q < i → g q = if rb l f ce q then 1 else 0, fun x _ => n - x.toNatClampNeg, ⟨0, rfl, Nat.zero_le _, fun q hq => by omega⟩, ?_⟩
  rintro x g ⟨i, rfl, i1, hg⟩
  refine pk_le n i (fun c => ?_) (fun c => ?_)
  · have ei : i = n := by omega
    have ej : j = n := by omega
    subst ei
    refine m_isRow hn hg (fun hT => t1b ?_) (fun hT => t0b (h2 ej hT g))
    refine lp_same (by omega) (by omega) (by omega) (by omega) (fun f1 hf1 => ?_)
    rw [show (64 : Int32) = nI 64 from rfl, show (128 : Int32) = nI 128 from rfl]
    refine lp_fill (by omega) (by omega) (fun f2 hf2 => ?_)
    rintro _ rfl
    have h2 := hT.two
    have e2 : nI i / (2 : Int32) = nI (fb_ct (rb l f ce) i) := by
      rw [show (2 : Int32) = nI 2 from rfl, pk_div (by omega) (by omega) (by omega)]; congr 1; omega
    rw [e2, show (192 : Int32).toNatClampNeg = 192 from rfl]
    refine ⟨pk_in 192 579 (by omega), m_many pk_us (h1 ej hT _ g ⟨fun q hq => ?_, pk_us, fun v hv => ?_⟩ (fun q hq => ?_))⟩
    · rw [pk_un (by omega), hf2 q, if_neg (by omega), hf1 q, if_pos hq]; exact hg q hq
    · rw [pk_un (by omega), hf2 _, if_pos (by omega)]
    · rw [pk_un (by omega), hf2 q, if_neg (by omega), hf1 q, if_neg (by omega)]
  · rintro _ rfl
    have es : (nI f).toInt64 + (nI i).toInt64 = lN (f + i) := by rw [nI_l (by omega), nI_l (by omega), lN_add]
    rw [es]
    refine m_fault hk hS hl (by omega) ?_
    have hle := fN_le kd ln l (f + i)
    refine pk_le (fN kd ln l (f + i)) 0 (fun c2 => ?_) (fun c2 => ?_)
    · have c2 : fN kd ln l (f + i) = 0 := by omega
      have hij : i < j := by
        rcases j3 with y | y
        · omega
        · rcases Nat.lt_or_ge i j with y2 | y2
          · exact y2
          · rw [show j = i by omega] at y; exact absurd c2 y
      obtain ⟨ek, hd⟩ := fN_z hS c2
      have h25 := dv_lt hl hd
      refine m_wide hl ⟨wdn_l0 hl, ?_⟩
      rw [nI_l (by omega), pk_lDiv (by omega) (by omega) (by omega), lN_i, show (40 : Int32) = nI 40 from rfl, pk_mul, nI_add]
      refine ⟨pk_in (40 * k + (f + i) / wdn l) 160 (by omega), m_wide hl ⟨wdn_l0 hl, ?_⟩⟩
      have e3 : lN (f + i) - lN (f + i) / (nI (wdn l)).toInt64 * (nI (wdn l)).toInt64 = lN ((f + i) % wdn l) := by
        rw [nI_l (by omega), pk_lRem (by omega) (by omega) (by omega)]
      rw [e3, lN_i, nI_clamp (by omega), shr_one _ (md_lt _ hl), ← hS.2 _ hd]
      rintro _ rfl
      refine ⟨pk_in i 193 (by omega), ?_⟩
      rintro _ rfl
      rw [nI_1, nI_clamp (by omega)]
      refine ⟨⟨i + 1, rfl, hij, fun q hq => ?_⟩, ?_⟩
      · by_cases e : q = i
        · rw [e, pk_us]; rfl
        · rw [pk_un e]; exact hg q (by omega)
      · dsimp only
        rw [nI_clamp (by omega), nI_clamp (by omega)]; omega
    · have e : i = j := by
        rcases Nat.lt_or_ge i j with y | y
        · have := j2 i y; omega
        · omega
      subst e
      exact h3 c g
theorem x_forget {w : Nat → Int32} {post : (Nat → Int32) → Prop} (h : ∀ w' : Nat → Int32, (∀ i, i < 64 → w' i = 0) → post w') : wX4_forgetWeights w post := by
  unfold wX4_forgetWeights
  rw [show (64 : Int32) = nI 64 from rfl]
  exact lp_fill0 (by omega) (by omega) (fun f hf => h f (fun i hi => by rw [hf i, if_pos hi]))
abbrev U14 : Type := Int64 × Int64 × Int32 × (Nat → Int32) × (Nat → Int32) × (Nat → Int32) × (Nat → Int32) × Int64 × Int64 × Int32 × (Nat → Int32) × (Nat → Int32) × (Nat → Int32) × (Nat → Int32)
theorem o_read_y {low high : Int64} {N : Nat} {g lo hi st w : Nat → Int32} (hX : XT low high N g lo hi) (hM : MT st (bb low high) N w) {dl dh : Int64} {dp : Int32} {dg dlo dhi dw rp : Nat → Int32} {kd ln p2 p3 p4 : Int32} {ce mc : Nat → Int64} {la le : Nat → Int32} {k : Nat} (hk : k < 4) (hS : SH kd ln ce la le mc k) {Q : U14 → ((Nat → Int32) × (Nat → Int32)) → Prop} (hQ : ∀ a b c d e f g a' b' c' d' e' f' g' st' rp', RR (a, b, c, d, e, f, g) st' → (∀ k, 193 ≤ k → st' k = st k) → Q (a, b, c, d, e, f, g, a', b', c', d', e', f', g') (st', rp')) : wX5_read low high (nI N) g lo hi w dl dh dp dg dlo dhi dw kd ln ce (nI k) p2 p3 p4 (fun r1 u1 => wX6_read st rp la le mc (nI k) p2 p3 p4 (fun r2 u2 => r1 = r2 ∧ Q u1 u2)) := by
  have hRR : RR (low, high, nI N, g, lo, hi, w) st := ⟨N, rfl, hX, hM⟩
  have hQ0 : ∀ a' b' c' d' e' f' g' rp', Q (low, high, nI N, g, lo, hi, w, a', b', c', d', e', f', g') (st, rp') := fun a' b' c' d' e' f' g' rp' => hQ _ _ _ _ _ _ _ a' b' c' d' e' f' g' st rp' hRR (fun _ _ => rfl)
  have hin : vp_in (nI k) 4 := pk_in k 4 hk
  unfold wX5_read
  refine x_sheet_y hk (t1a ?_)
  rcases lane_or p2 with ⟨l, hl, rfl⟩ | c
  · refine x_lane_y hl (t1a ?_)
    have bad : (p3 < 0 ∨ ¬ ((0 : Int) ≤ p4.toInt ∧ p4.toInt ≤ 128)) → ∀ r1 : Int32, r1 = -1 → ∀ u1 : U14, (∀ rp', Q u1 (st, rp')) → wX6_read st rp la le mc (nI k) (nI l) p3 p4 (fun r2 u2 => r1 = r2 ∧ Q u1 u2) := by
      intro hb r1 hr u1 hu
      unfold wX6_read
      refine m_in3 hk (t1a (m_in2 hl (t1a ⟨fun _ => ⟨hr, hu _⟩, fun z => ?_⟩)))
      rcases hb with y | y
      · exact absurd y z
      · exact m_in_n (show ¬ (Int64.toInt 0 ≤ p4.toInt ∧ p4.toInt ≤ Int64.toInt 128) from y) (t0b ⟨hr, hu _⟩)
    refine x_within (fun z1 z2 => t1a ⟨fun c0 => ?_, fun c0 => ?_⟩) (fun z => t0a (bad (Or.inr z) _ rfl _ (hQ0 _ _ _ _ _ _ _)))
    · obtain ⟨f, hf, rfl⟩ := nI_of (x := p3) (by rw [Int32.not_lt]; exact c0)
      obtain ⟨n, hn, rfl⟩ : ∃ n, n ≤ 128 ∧ p4 = nI n := by
        have z1 : (0 : Int) ≤ p4.toInt := z1
        have z2 : p4.toInt ≤ 128 := z2
        rcases upto p4 128 with ⟨j, j1, e⟩ | y
        · exact ⟨j, j1, e⟩
        · omega
      obtain ⟨j, j1, j2, j3⟩ := lim (fun i => fN kd ln l (f + i) = 0) n
      unfold wX1_clear
      refine ⟨fun x a b c => ∃ i, x = nI i ∧ i ≤ j ∧ c = nI i ∧ ∀ q, bb a b q = (decide (q < i) && rb l f ce q), fun x _ _ _ => n - x.toNatClampNeg, ⟨0, rfl, Nat.zero_le _, rfl, fun q => ?_⟩, ?_⟩
      · show bb 0 0 q = _
        rw [bb_00, decide_eq_false (by omega), Bool.false_and]
      rintro x a b c ⟨i, rfl, i1, rfl, hbb⟩
      refine pk_le n i (fun c1 => ?_) (fun c1 => ⟨hin, ?_⟩)
      · have ei : i = n := by omega
        have ej : j = n := by omega
        subst ei
        have out : ∀ q, i ≤ q → bb a b q = false := fun q hq => by rw [hbb q, decide_eq_false (by omega), Bool.false_and]
        have inn : ∀ q, q < i → rb l f ce q = bb a b q := fun q hq => by rw [hbb q, decide_eq_true hq, Bool.true_and]
        refine x_summarise (p := 0) hn (by omega) (fun b hb => by omega) (fun g' lo' hi' hs => ?_)
        refine x_isOfTree hs hn (fun hT => t1b ?_) (fun hT => t0b ?_)
        · refine x_forget (fun w1 hw1 => ?_)
          have hX1 : XT a b i g' lo' hi' := ⟨hT, out, hs⟩
          refine x_become hX1 (fun g2 lo2 hi2 w2 k1 k2 => x_nodes k1 ?_)
          have ec : fb_ct (rb l f ce) i = fb_ct (bb a b) i := fb_ct_cong inn
          have hT2 : Tr (rb l f ce) i := hT.cong (fun q hq => (inn q hq).symm)
          have h2 := hT.two
          refine m_read hk hS hl hf hn j1 j2 j3 (fun _ _ st' rp' hm hfr => ⟨by rw [ec], hQ _ _ _ _ _ _ _ _ _ _ _ _ _ _ st' rp' ⟨i, rfl, k1, ?_⟩ hfr⟩) (fun _ z => absurd hT2 z) (fun z => by omega)
          exact hm.cong inn (fun v hv => by show (0 : Int32) = w2 v; rw [k2 v (by omega), hw1 v (by omega)])
        · refine m_read hk hS hl hf hn j1 j2 j3 (fun _ z => absurd (z.cong inn) hT) (fun _ _ rp' => ⟨rfl, hQ0 _ _ _ _ _ _ _ rp'⟩) (fun z => by omega)
      · have es : (nI f).toInt64 + (nI i).toInt64 = lN (f + i) := by rw [nI_l (by omega), nI_l (by omega), lN_add]
        rw [es]
        refine x_fault hS hl (by omega) ?_
        have hle := fN_le kd ln l (f + i)
        refine pk_eq (fN kd ln l (f + i)) 0 (fun c2 => ⟨hin, ?_⟩) (fun c2 => ?_)
        · have hij : i < j := by
            rcases j3 with y | y
            · omega
            · rcases Nat.lt_or_ge i j with y2 | y2
              · exact y2
              · rw [show j = i by omega] at y; exact absurd c2 y
          obtain ⟨ek, hd⟩ := fN_z hS c2
          rw [nI_add, ek]
          refine x_sbit hl hd ?_
          refine x_append (b := rb l f ce i) (by omega) (fun q hq => by rw [hbb q, decide_eq_false (by omega), Bool.false_and]) (fun a' b' hab => ?_)
          rintro _ rfl
          rw [nI_1]
          refine ⟨⟨i + 1, rfl, hij, rfl, fun q => ?_⟩, ?_⟩
          · show bb a' b' q = _
            rw [hab q]
            by_cases e : q = i
            · rw [if_pos e, e, decide_eq_true (show i < i + 1 by omega), Bool.true_and]
            · rw [if_neg e, hbb q]
              by_cases e2 : q < i
              · rw [decide_eq_true e2, decide_eq_true (show q < i + 1 by omega)]
              · rw [decide_eq_false e2, decide_eq_false (show ¬ q < i + 1 by omega)]
          · dsimp only
            rw [nI_clamp (by omega), nI_clamp (by omega)]; omega
        · have e : i = j := by
            rcases Nat.lt_or_ge i j with y | y
            · exact absurd (j2 i y) c2
            · omega
          subst e
          exact m_read hk hS hl hf hn j1 j2 j3 (fun z => by omega) (fun z => by omega) (fun _ rp' => ⟨rfl, hQ0 _ _ _ _ _ _ _ rp'⟩)
    · exact bad (Or.inl (by rw [Int32.not_le] at c0; exact c0)) _ rfl _ (hQ0 _ _ _ _ _ _ _)
  · refine x_lane_n c (t0a ?_)
    unfold wX6_read
    exact m_in3 hk (t1a (m_in_n (show ¬ (Int64.toInt 0 ≤ p2.toInt ∧ p2.toInt ≤ Int64.toInt 2) from c) (t0a ⟨rfl, hQ0 _ _ _ _ _ _ _ _⟩)))
theorem o_read_n {low high dl dh : Int64} {pl dp : Int32} {g lo hi w dg dlo dhi dw rp st : Nat → Int32} {kd ln p p2 p3 p4 : Int32} {ce mc : Nat → Int64} {la le : Nat → Int32} (hn : ¬ ((0 : Int) ≤ p.toInt ∧ p.toInt ≤ 3)) {Q : U14 → ((Nat → Int32) × (Nat → Int32)) → Prop} (hQ : Q (low, high, pl, g, lo, hi, w, dl, dh, dp, dg, dlo, dhi, dw) (st, rp)) : wX5_read low high pl g lo hi w dl dh dp dg dlo dhi dw kd ln ce p p2 p3 p4 (fun r1 u1 => wX6_read st rp la le mc p p2 p3 p4 (fun r2 u2 => r1 = r2 ∧ Q u1 u2)) := by
  unfold wX5_read
  refine x_sheet_n hn (t0a ?_)
  unfold wX6_read
  exact m_in_n (show ¬ (Int64.toInt 0 ≤ p.toInt ∧ p.toInt ≤ Int64.toInt 3) from hn) (t0a ⟨rfl, hQ⟩)
