/-! the text: tokens, both sides -/
def fg (c : Nat) : Prop := 48 ≤ c ∧ c ≤ 57
def vl (tb : Nat → Nat) (i : Nat) : Nat → Int32
  | 0 => 0
  | n + 1 => (10 * vl tb i n + nI (tb (i + n))) - 48
def IsSk (L : Nat) (tb : Nat → Nat) (s i : Nat) : Prop := s ≤ i ∧ i ≤ L ∧ (∀ q, s ≤ q → q < i → tb q = 32) ∧ (i < L → ¬ tb i = 32)
def IsFe (L : Nat) (tb : Nat → Nat) (i e : Nat) : Prop := i ≤ e ∧ e ≤ L ∧ (∀ q, i ≤ q → q < e → fg (tb q)) ∧ (e < L → ¬ fg (tb e))
theorem IsSk.one {L s i j : Nat} {tb : Nat → Nat} (h : IsSk L tb s i) (h' : IsSk L tb s j) : i = j := by
  obtain ⟨a1, a2, a3, a4⟩ := h
  obtain ⟨b1, b2, b3, b4⟩ := h'
  rcases Nat.lt_trichotomy i j with z | z | z
  · exact absurd (b3 i a1 z) (a4 (by omega))
  · exact z
  · exact absurd (a3 j b1 z) (b4 (by omega))
theorem IsFe.one {L s i j : Nat} {tb : Nat → Nat} (h : IsFe L tb s i) (h' : IsFe L tb s j) : i = j := by
  obtain ⟨a1, a2, a3, a4⟩ := h
  obtain ⟨b1, b2, b3, b4⟩ := h'
  rcases Nat.lt_trichotomy i j with z | z | z
  · exact absurd (b3 i a1 z) (a4 (by omega))
  · exact z
  · exact absurd (a3 j b1 z) (b4 (by omega))
/-- the token sought from s on: where it begins, its kind (0 the end, 1 a number, 2 none, 40, 41), where it ends, its value -/
def TK (L : Nat) (tb : Nat → Nat) (s i kd e : Nat) (v : Int32) : Prop := IsSk L tb s i ∧ ((i = L ∧ kd = 0 ∧ e = i ∧ v = 0) ∨ (i < L ∧ fg (tb i) ∧ IsFe L tb i e ∧ ((e - i ≤ 4 ∧ kd = 1 ∧ v = vl tb i (e - i)) ∨ (4 < e - i ∧ kd = 2 ∧ v = 0))) ∨ (i < L ∧ ¬ fg (tb i) ∧ e = i + 1 ∧ v = 0 ∧ ((tb i = 40 ∧ kd = 40) ∨ (tb i = 41 ∧ kd = 41) ∨ (¬ tb i = 40 ∧ ¬ tb i = 41 ∧ kd = 2))))
theorem TK.one {L s i kd e i' kd' e' : Nat} {tb : Nat → Nat} {v v' : Int32} (h : TK L tb s i kd e v) (h' : TK L tb s i' kd' e' v') : i = i' ∧ kd = kd' ∧ e = e' ∧ v = v' := by
  obtain ⟨a, a2⟩ := h
  obtain ⟨b, b2⟩ := h'
  have ei := a.one b
  subst ei
  refine ⟨rfl, ?_⟩
  rcases a2 with ⟨c1, c2, c3, c4⟩ | ⟨c1, c2, c3, c4⟩ | ⟨c1, c2, c3, c4, c5⟩
  · rcases b2 with ⟨d1, d2, d3, d4⟩ | ⟨d1, d2, d3, d4⟩ | ⟨d1, d2, d3, d4, d5⟩
    · exact ⟨by omega, by omega, by rw [c4, d4]⟩
    · omega
    · omega
  · rcases b2 with ⟨d1, d2, d3, d4⟩ | ⟨d1, d2, d3, d4⟩ | ⟨d1, d2, d3, d4, d5⟩
    · omega
    · have ee := c3.one d3
      subst ee
      rcases c4 with ⟨f1, f2, f3⟩ | ⟨f1, f2, f3⟩
      · rcases d4 with ⟨g1, g2, g3⟩ | ⟨g1, g2, g3⟩
        · exact ⟨by omega, rfl, by rw [f3, g3]⟩
        · omega
      · rcases d4 with ⟨g1, g2, g3⟩ | ⟨g1, g2, g3⟩
        · omega
        · exact ⟨by omega, rfl, by rw [f3, g3]⟩
    · exact absurd c2 d2
  · rcases b2 with ⟨d1, d2, d3, d4⟩ | ⟨d1, d2, d3, d4⟩ | ⟨d1, d2, d3, d4, d5⟩
    · omega
    · exact absurd d2 c2
    · refine ⟨by omega, by omega, by rw [c4, d4]⟩
theorem TK.bd {L s i kd e : Nat} {tb : Nat → Nat} {v : Int32} (h : TK L tb s i kd e v) : s ≤ i ∧ i ≤ e ∧ e ≤ L ∧ (¬ kd = 0 → s < e) ∧ (kd = 0 ∨ kd = 1 ∨ kd = 2 ∨ kd = 40 ∨ kd = 41) := by
  obtain ⟨⟨a1, a2, a3, a4⟩, a5⟩ := h
  rcases a5 with ⟨c1, c2, c3, c4⟩ | ⟨c1, c2, c3, c4⟩ | ⟨c1, c2, c3, c4, c5⟩
  · exact ⟨a1, by omega, by omega, fun z => absurd c2 z, Or.inl c2⟩
  · have h1 : i ≠ e := fun z => by
      obtain ⟨q1, q2, q3, q4⟩ := c3
      rw [← z] at q4
      exact q4 c1 c2
    have := c3.1
    have := c3.2.1
    refine ⟨a1, by omega, by omega, fun _ => by omega, ?_⟩
    rcases c4 with ⟨f1, f2, f3⟩ | ⟨f1, f2, f3⟩
    · exact Or.inr (Or.inl f2)
    · exact Or.inr (Or.inr (Or.inl f2))
  · refine ⟨a1, by omega, by omega, fun _ => by omega, ?_⟩
    omega
/-- bytes of the tape -/
def TB (L : Nat) (tb : Nat → Nat) (a : Nat → Int32) : Prop := ∀ i, i < L → a i = nI (tb i) ∧ tb i < 128
theorem x_isFigure {c : Nat} (hc : c < 128) {post : Int32 → Prop} (h1 : fg c → post 1) (h0 : ¬ fg c → post 0) : wX3_isFigure (nI c) post := by
  unfold wX3_isFigure
  refine pk_lt c 48 (fun z => h0 (fun y => by have := y.1; omega)) (fun z => pk_lt 57 c (fun z2 => h0 (fun y => by have := y.2; omega)) (fun z2 => h1 ⟨z, z2⟩))
theorem x_number {L i : Nat} {tb : Nat → Nat} {by_ : Nat → Int32} (hL : L ≤ 160) (hi : i ≤ L) (hb : TB L tb by_) {num : Int32} {post : Int32 → (Int32 × Int32) → Prop} (h : ∀ e, IsFe L tb i e → (4 < e - i → ∀ v, post 2 (nI e, v)) ∧ (e - i ≤ 4 → post 1 (nI e, vl tb i (e - i)))) : wX3_numberToken (nI L) (nI i) (nI i) num by_ post := by
  unfold wX3_numberToken
  refine ⟨fun x y => ∃ e, x = nI e ∧ i ≤ e ∧ e ≤ L ∧ (∀ q, i ≤ q → q < e → fg (tb q)) ∧ y = vl tb i (e - i), fun x _ => L - x.toNatClampNeg, ⟨i, rfl, Nat.le_refl _, hi, fun q q1 q2 => by omega, by rw [Nat.sub_self]; rfl⟩, ?_⟩
  rintro x y ⟨e, rfl, e1, e2, e3, rfl⟩
  have fin : IsFe L tb i e → ((4 : Int32) < nI e - nI i → post 2 (nI e, vl tb i (e - i))) ∧ (¬ (4 : Int32) < nI e - nI i → post 1 (nI e, vl tb i (e - i))) := fun hF => by
    rw [pk_sub e1]
    exact pk_lt 4 (e - i) (fun z => (h e hF).1 z _) (fun z => (h e hF).2 z)
  refine pk_le L e (fun c => fin ⟨e1, e2, e3, fun z => by omega⟩) (fun c => ⟨pk_in e 160 (by omega), ?_⟩)
  rw [nI_clamp (by omega), (hb e c).1]
  refine x_isFigure (hb e c).2 (fun z => t1a ⟨pk_in e 160 (by omega), ?_⟩) (fun z => t0a (fin ⟨e1, e2, e3, fun _ => z⟩))
  rintro _ rfl _ rfl
  rw [nI_1]
  refine ⟨⟨e + 1, rfl, by omega, c, fun q q1 q2 => ?_, ?_⟩, ?_⟩
  · rcases Nat.lt_or_ge q e with y | y
    · exact e3 q q1 y
    · rw [show q = e by omega]; exact z
  · rw [show e + 1 - i = e - i + 1 by omega]
    show _ = (10 * vl tb i (e - i) + nI (tb (i + (e - i)))) - 48
    rw [show i + (e - i) = e by omega]
  · dsimp only
    rw [nI_clamp (by omega), nI_clamp (by omega)]; omega
theorem x_nextToken {L s : Nat} {tb : Nat → Nat} {by_ : Nat → Int32} (hL : L ≤ 160) (hs : s ≤ L) (hb : TB L tb by_) {st0 num : Int32} {post : Int32 → (Int32 × Int32 × Int32) → Prop} (h : ∀ i kd e v num', TK L tb s i kd e v → (kd = 1 → num' = v) → post (nI kd) (nI e, nI i, num')) : wX3_nextToken (nI L) (nI s) st0 num by_ post := by
  unfold wX3_nextToken
  refine ⟨fun x => ∃ i, x = nI i ∧ s ≤ i ∧ i ≤ L ∧ ∀ q, s ≤ q → q < i → tb q = 32, fun x => L - x.toNatClampNeg, ⟨s, rfl, Nat.le_refl _, hs, fun q q1 q2 => by omega⟩, ?_⟩
  rintro x ⟨i, rfl, i1, i2, i3⟩
  refine pk_le L i (fun c => ?_) (fun c => ⟨pk_in i 160 (by omega), ?_⟩)
  · refine pk_lt i L (fun z => by omega) (fun _ => ?_)
    exact h i 0 i 0 num ⟨⟨i1, i2, i3, fun z => by omega⟩, Or.inl ⟨by omega, rfl, rfl, rfl⟩⟩ (fun z => absurd z (by decide))
  · obtain ⟨b1, b2⟩ := hb i c
    rw [nI_clamp (by omega), b1]
    refine pk_ne (tb i) 32 (fun c2 => ?_) (fun c2 => ?_)
    · have hSk : IsSk L tb s i := ⟨i1, i2, i3, fun _ => c2⟩
      refine pk_lt i L (fun _ => ⟨pk_in i 160 (by omega), ?_⟩) (fun z => by omega)
      rintro _ rfl
      refine x_isFigure b2 (fun z => t1a ?_) (fun z => t0a ?_)
      · refine x_number hL i2 hb (fun e hF => ⟨fun y v => ?_, fun y => ?_⟩)
        · exact h i 2 e 0 v ⟨hSk, Or.inr (Or.inl ⟨c, z, hF, Or.inr ⟨y, rfl, rfl⟩⟩)⟩ (fun w => absurd w (by decide))
        · exact h i 1 e _ _ ⟨hSk, Or.inr (Or.inl ⟨c, z, hF, Or.inl ⟨y, rfl, rfl⟩⟩)⟩ (fun _ => rfl)
      · rintro _ rfl
        rw [nI_1]
        refine pk_eq (tb i) 40 (fun y => ?_) (fun y => pk_ne (tb i) 41 (fun y2 => ?_) (fun y2 => ?_))
        · rw [y]
          exact h i 40 (i + 1) 0 num ⟨hSk, Or.inr (Or.inr ⟨c, z, rfl, rfl, Or.inl ⟨y, rfl⟩⟩)⟩ (fun w => absurd w (by decide))
        · exact h i 2 (i + 1) 0 num ⟨hSk, Or.inr (Or.inr ⟨c, z, rfl, rfl, Or.inr (Or.inr ⟨y, y2, rfl⟩)⟩)⟩ (fun w => absurd w (by decide))
        · rw [y2]
          exact h i 41 (i + 1) 0 num ⟨hSk, Or.inr (Or.inr ⟨c, z, rfl, rfl, Or.inr (Or.inl ⟨y2, rfl⟩)⟩)⟩ (fun w => absurd w (by decide))
    · rintro _ rfl
      rw [nI_1]
      refine ⟨⟨i + 1, rfl, by omega, c, fun q q1 q2 => ?_⟩, ?_⟩
      · rcases Nat.lt_or_ge q i with y | y
        · exact i3 q q1 y
        · rw [show q = i by omega]; exact c2
      · dsimp only
        rw [nI_clamp (by omega), nI_clamp (by omega)]; omega
theorem m_byteAt {L i : Nat} {tb : Nat → Nat} {ta : Nat → Int32} (hL : L ≤ 160) (hi : i ≤ L) (hb : TB L tb ta) {post : Int32 → Prop} (h0 : L ≤ i → post (-4)) (h1 : i < L → post (nI (tb i))) : wX6_byteAt (nI L) ta (nI i) post := by
  unfold wX6_byteAt
  refine pk_le L i h0 (fun c => ⟨pk_in i 160 (by omega), ?_⟩)
  rw [nI_clamp (by omega), (hb i c).1]
  exact h1 c
theorem m_fig {c : Nat} (hc : c < 128) {post : Int32 → Prop} (h1 : fg c → post 1) (h0 : ¬ fg c → post 0) : wX6_in (nI c).toInt64 (48 : Int64) (57 : Int64) post := by
  refine m_in (fun z1 z2 => ?_) (fun z => ?_)
  · rw [t64, nI_toInt (by omega), show Int64.toInt 48 = 48 from rfl] at z1
    rw [t64, nI_toInt (by omega), show Int64.toInt 57 = 57 from rfl] at z2
    exact h1 ⟨by omega, by omega⟩
  · rw [t64, nI_toInt (by omega), show Int64.toInt 48 = 48 from rfl, show Int64.toInt 57 = 57 from rfl] at z
    exact h0 (fun y => by have := y.1; have := y.2; omega)
theorem m_fig4 {post : Int32 → Prop} (h0 : post 0) : wX6_in ((-4 : Int32)).toInt64 (48 : Int64) (57 : Int64) post := m_in (fun z1 _ => absurd z1 (by decide)) (fun _ => h0)
def tcd (kd : Nat) : Nat := if kd = 0 then 0 else if kd = 1 then 1 else if kd = 40 then 2 else 3
theorem m_readsOn {L s : Nat} {tb : Nat → Nat} {ta : Nat → Int32} (hL : L ≤ 160) (hs : s ≤ L) (hb : TB L tb ta) {ba hr tk va : Int32} {post : (Int32 × Int32 × Int32 × Int32 × Int32 × Int32) → Prop} (h1 : ∀ i kd e v vv, TK L tb s i kd e v → ¬ kd = 2 → (kd = 1 → vv = v) → post (0, ba, nI e, nI i, nI (tcd kd), vv)) (h2 : ∀ i e v t vv, TK L tb s i 2 e v → post (1, nI i, nI e, nI i, t, vv)) : wX6_readsOn (nI L) 0 ba (nI s) hr tk va ta post := by
  unfold wX6_readsOn
  refine ⟨fun _ => ?_, fun z => absurd (show (0 : Int32) ≤ 0 by decide) z⟩
  refine ⟨fun x => ∃ i, x = nI i ∧ s ≤ i ∧ i ≤ L ∧ ∀ q, s ≤ q → q < i → tb q = 32, fun x => L - x.toNatClampNeg, ⟨s, rfl, Nat.le_refl _, hs, fun q q1 q2 => by omega⟩, ?_⟩
  rintro x ⟨i, rfl, i1, i2, i3⟩
  refine m_byteAt hL i2 hb (fun c => ⟨fun _ => ?_, fun z => absurd z (by decide)⟩) (fun c => ?_)
  · refine m_byteAt hL i2 hb (fun _ => ⟨fun z => absurd rfl z, fun _ => ?_⟩) (fun z => by omega)
    exact h1 i 0 i 0 0 ⟨⟨i1, i2, i3, fun z => by omega⟩, Or.inl ⟨by omega, rfl, rfl, rfl⟩⟩ (by decide) (fun z => absurd z (by decide))
  · obtain ⟨b1, b2⟩ := hb i c
    refine pk_ne (tb i) 32 (fun c2 => ?_) (fun c2 => ?_)
    · have hSk : IsSk L tb s i := ⟨i1, i2, i3, fun _ => c2⟩
      refine m_byteAt hL i2 hb (fun z => by omega) (fun _ => ⟨fun _ => ?_, fun z => absurd z (m4_ne (by omega))⟩)
      refine m_fig b2 (fun z => t1a ?_) (fun z => t0a ?_)
      · refine ⟨fun x y => ∃ e, x = nI e ∧ i ≤ e ∧ e ≤ L ∧ (∀ q, i ≤ q → q < e → fg (tb q)) ∧ y = vl tb i (min (e - i) 4), fun x _ => L - x.toNatClampNeg, ⟨i, rfl, Nat.le_refl _, i2, fun q q1 q2 => by omega, by rw [Nat.sub_self]; rfl⟩, ?_⟩
        rintro x y ⟨e, rfl, e1, e2, e3, rfl⟩
        have fin : IsFe L tb i e → ((nI e - nI i ≤ (4 : Int32) → post (0, ba, nI e, nI i, (1 : Int32), vl tb i (min (e - i) 4))) ∧ (¬ nI e - nI i ≤ (4 : Int32) → wX6_fails 0 ba (nI i) (1 : Int32) (fun u => post (u.1, u.2, nI e, nI i, (1 : Int32), vl tb i (min (e - i) 4))))) := fun hF => by
          rw [pk_sub e1]
          refine pk_le (e - i) 4 (fun y => ?_) (fun y => ?_)
          · rw [Nat.min_eq_left y]
            exact h1 i 1 e _ _ ⟨hSk, Or.inr (Or.inl ⟨c, z, hF, Or.inl ⟨y, rfl, rfl⟩⟩)⟩ (by decide) (fun _ => rfl)
          · unfold wX6_fails
            exact ⟨fun w => absurd rfl w, fun _ => h2 i e 0 _ _ ⟨hSk, Or.inr (Or.inl ⟨c, z, hF, Or.inr ⟨y, rfl, rfl⟩⟩)⟩⟩
        refine m_byteAt hL e2 hb (fun ce => m_fig4 (t0a (fin ⟨e1, e2, e3, fun z => by omega⟩))) (fun ce => ?_)
        obtain ⟨d1, d2⟩ := hb e ce
        refine m_fig d2 (fun z2 => t1a ?_) (fun z2 => t0a (fin ⟨e1, e2, e3, fun _ => z2⟩))
        have nxt : ∀ q, i ≤ q → q < e + 1 → fg (tb q) := fun q q1 q2 => by
          rcases Nat.lt_or_ge q e with y | y
          · exact e3 q q1 y
          · rw [show q = e by omega]; exact z2
        have mx : L - (nI (e + 1)).toNatClampNeg < L - (nI e).toNatClampNeg := by
          rw [nI_clamp (by omega), nI_clamp (by omega)]; omega
        rw [pk_sub e1]
        refine pk_le 4 (e - i) (fun y => ?_) (fun y => ?_)
        · rintro _ rfl
          rw [nI_1]
          refine ⟨⟨e + 1, rfl, by omega, ce, nxt, ?_⟩, mx⟩
          rw [Nat.min_eq_right (by omega), Nat.min_eq_right (by omega)]
        · refine m_byteAt hL e2 hb (fun z => by omega) (fun _ => ?_)
          rintro _ rfl _ rfl
          rw [nI_1]
          refine ⟨⟨e + 1, rfl, by omega, ce, nxt, ?_⟩, mx⟩
          rw [Nat.min_eq_left (by omega), Nat.min_eq_left (by omega), show e + 1 - i = e - i + 1 by omega]
          show _ = (10 * vl tb i (e - i) + nI (tb (i + (e - i)))) - 48
          rw [show i + (e - i) = e by omega]
      · refine pk_ne (tb i) 40 (fun y => ?_) (fun y => ?_)
        · rintro _ rfl
          rw [nI_1]
          refine pk_eq (tb i) 40 (fun w => absurd w y) (fun _ => pk_eq (tb i) 41 (fun y2 => ?_) (fun y2 => ?_))
          · exact h1 i 41 (i + 1) 0 0 ⟨hSk, Or.inr (Or.inr ⟨c, z, rfl, rfl, Or.inr (Or.inl ⟨y2, rfl⟩)⟩)⟩ (by decide) (fun w => absurd w (by decide))
          · unfold wX6_fails
            exact ⟨fun w => absurd rfl w, fun _ => h2 i (i + 1) 0 _ _ ⟨hSk, Or.inr (Or.inr ⟨c, z, rfl, rfl, Or.inr (Or.inr ⟨y, y2, rfl⟩)⟩)⟩⟩
        · rintro _ rfl
          rw [nI_1]
          refine pk_eq (tb i) 40 (fun w => ?_) (fun w => absurd y w)
          exact h1 i 40 (i + 1) 0 0 ⟨hSk, Or.inr (Or.inr ⟨c, z, rfl, rfl, Or.inl ⟨y, rfl⟩⟩)⟩ (by decide) (fun w => absurd w (by decide))
    · rintro _ rfl
      rw [nI_1]
      refine ⟨⟨i + 1, rfl, by omega, c, fun q q1 q2 => ?_⟩, ?_⟩
      · rcases Nat.lt_or_ge q i with y | y
        · exact i3 q q1 y
        · rw [show q = i by omega]; exact c2
      · dsimp only
        rw [nI_clamp (by omega), nI_clamp (by omega)]; omega
theorem m_readsOn_b {b : Nat} (hb0 : 0 < b) (hb1 : b < 10) {tp ba sp hr tk va : Int32} {ta : Nat → Int32} {post : (Int32 × Int32 × Int32 × Int32 × Int32 × Int32) → Prop} (h : post (nI b, ba, sp, hr, tk, va)) : wX6_readsOn tp (nI b) ba sp hr tk va ta post := by
  unfold wX6_readsOn
  exact pk_le b 0 (fun z => by omega) (fun _ => h)
