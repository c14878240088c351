/-! extremes and blocks: both sides -/
theorem pw_none {B : Nat → Bool} {d : Int} {i : Nat} : ∀ n, (∀ k, i ≤ k → k ≤ i + n → ex B k ≠ d) → pw B d i (i + n) = 0
  | 0, h => by rw [Nat.add_zero, pw_0, if_neg (h i (Nat.le_refl _) (by omega))]
  | n + 1, h => by
    rw [show i + (n + 1) = i + n + 1 by omega, pw_s (by omega), pw_none n (fun k k1 k2 => h k k1 (by omega)), if_neg (h _ (by omega) (by omega))]
/-- what the reference holds behind the points from i up to ahead of q -/
def LE (B : Nat → Bool) (i q : Nat) (l m : Int) (f t : Nat) : Prop := (q = i ∧ l = ex B i ∧ m = ex B i ∧ f = i ∧ t = 0) ∨ (i < q ∧ IsMn B i (q - 1) l ∧ IsMx B i (q - 1) m ∧ i ≤ f ∧ f ≤ q - 1 ∧ ex B f = l ∧ (∀ k, i ≤ k → k < f → l < ex B k) ∧ t = pw B l i (q - 1))
theorem LE.bd {B : Nat → Bool} {i q : Nat} {l m : Int} {f t : Nat} (h : LE B i q l m f t) (hq : q ≤ 129) (hi : i ≤ 128) : -128 ≤ l ∧ l ≤ 128 ∧ -128 ≤ m ∧ m ≤ 128 ∧ f ≤ 128 ∧ t ≤ 129 := by
  rcases h with ⟨h1, h2, h3, h4, h5⟩ | ⟨h1, h2, h3, h4, h5, h6, h7, h8⟩
  · have := ex_b B i; omega
  · have := h2.bd
    have := h3.bd
    have := pw_le B l i (q - 1)
    omega
theorem LE.step {B : Nat → Bool} {i q : Nat} {l m : Int} {f t : Nat} (h : LE B i q l m f t) : LE B i (q + 1) (if ex B q < l then ex B q else l) (if m < ex B q then ex B q else m) (if ex B q < l then q else f) (if ex B q < l then 1 else if ex B q = l then t + 1 else t) := by
  refine Or.inr ?_
  rw [show q + 1 - 1 = q by omega]
  rcases h with ⟨rfl, rfl, rfl, rfl, rfl⟩ | ⟨h1, ⟨⟨a, a1, a2, a3⟩, h2⟩, ⟨⟨b, b1, b2, b3⟩, h3⟩, h4, h5, h6, h7, rfl⟩
  · simp only [Int.lt_irrefl, if_false]
    rw [if_pos trivial, pw_0, if_pos rfl]
    have one : ∀ k, f ≤ k → k ≤ f → k = f := fun k k1 k2 => by omega
    exact ⟨by omega, ⟨⟨f, Nat.le_refl _, Nat.le_refl _, rfl⟩, fun k k1 k2 => by rw [one k k1 k2]; exact Int.le_refl _⟩, ⟨⟨f, Nat.le_refl _, Nat.le_refl _, rfl⟩, fun k k1 k2 => by rw [one k k1 k2]; exact Int.le_refl _⟩, Nat.le_refl _, Nat.le_refl _, trivial, fun k k1 k2 => by omega, rfl⟩
  · obtain ⟨q', rfl⟩ : ∃ q', q = q' + 1 := ⟨q - 1, by omega⟩
    rw [show q' + 1 - 1 = q' by omega] at *
    have spl : ∀ k, k ≤ q' + 1 → k ≤ q' ∨ k = q' + 1 := fun k hk => by omega
    have hmx : IsMx B i (q' + 1) (if m < ex B (q' + 1) then ex B (q' + 1) else m) := by
      by_cases c : m < ex B (q' + 1)
      · rw [if_pos c]
        refine ⟨⟨q' + 1, by omega, by omega, rfl⟩, fun k k1 k2 => ?_⟩
        rcases spl k k2 with z | z
        · have := h3 k k1 z; omega
        · rw [z]; exact Int.le_refl _
      · rw [if_neg c]
        refine ⟨⟨b, b1, by omega, b3⟩, fun k k1 k2 => ?_⟩
        rcases spl k k2 with z | z
        · exact h3 k k1 z
        · rw [z]; omega
    by_cases c : ex B (q' + 1) < l
    · rw [if_pos c, if_pos c, if_pos c]
      refine ⟨by omega, ⟨⟨q' + 1, by omega, by omega, rfl⟩, fun k k1 k2 => ?_⟩, hmx, by omega, by omega, rfl, fun k k1 k2 => ?_, ?_⟩
      · rcases spl k k2 with z | z
        · have := h2 k k1 z; omega
        · rw [z]; exact Int.le_refl _
      · have := h2 k k1 (by omega); omega
      · rw [pw_s (by omega), if_pos rfl]
        have := pw_none (B := B) (d := ex B (q' + 1)) (i := i) (q' - i) (fun k k1 k2 => by have := h2 k k1 (by omega); omega)
        rw [show i + (q' - i) = q' by omega] at this
        rw [this]
    · rw [if_neg c, if_neg c, if_neg c]
      refine ⟨by omega, ⟨⟨a, a1, by omega, a3⟩, fun k k1 k2 => ?_⟩, hmx, h4, by omega, h6, h7, ?_⟩
      · rcases spl k k2 with z | z
        · exact h2 k k1 z
        · rw [z]; omega
      · rw [pw_s (by omega)]
        by_cases c2 : ex B (q' + 1) = l
        · rw [if_pos c2, if_pos c2]
        · rw [if_neg c2, if_neg c2]; rfl
theorem m_least {st : Nat → Int32} {B : Nat → Bool} {N i j s : Nat} (hS : MB st B N) (h192 : st 192 = nI (fb_ct B N)) (hT : Tr B N) (hij : i ≤ j) (hj : j ≤ N) (hs : s ≤ 3) {post : Int32 → Prop} (h : ∀ l m f t, LE B i (j + 1) l m f t → post (if s = 0 then iI l else if s = 1 then nI f else if s = 2 then nI t else iI m)) : wX6_least st (nI i) (nI j) (nI s) post := by
  have hN := hT.1
  have h2 := hT.two
  unfold wX6_least
  refine m_mark_y h192 (by omega) (by omega) (t1a ?_)
  refine m_mark_y h192 (by omega) (by omega) (t1a ?_)
  refine pk_lt j i (fun c => by omega) (fun _ => ?_)
  refine m_in_y (by rw [nI_toInt (by omega)]; show (0 : Int) ≤ _; omega) (by rw [nI_toInt (by omega)]; show _ ≤ (3 : Int); omega) (t1b ?_)
  refine m_excessAt hS (by omega) hN ?_
  obtain ⟨I, hI⟩ : ∃ I : Int32 → Int32 → Int32 → Int32 → Int32 → Prop, ∀ a b c d x, I a b c d x ↔ ∃ l m f t q, i ≤ q ∧ q ≤ j + 1 ∧ LE B i q l m f t ∧ a = iI l ∧ b = iI m ∧ c = nI f ∧ d = nI t ∧ x = nI q := ⟨_, fun _ _ _ _ _ => Iff.rfl⟩
  obtain ⟨mu, hmu⟩ : ∃ mu : Int32 → Int32 → Int32 → Int32 → Int32 → Nat, ∀ a b c d x, mu a b c d x = j + 1 - x.toNatClampNeg := ⟨_, fun _ _ _ _ _ => rfl⟩
  refine ⟨I, mu, (hI _ _ _ _ _).mpr ⟨ex B i, ex B i, i, 0, i, Nat.le_refl _, by omega, Or.inl ⟨rfl, rfl, rfl, rfl, rfl⟩, rfl, rfl, rfl, rfl, rfl⟩, ?_⟩
  intro a b c d x hIk
  obtain ⟨l, m, f, t, q, q1, q2, hL, rfl, rfl, rfl, rfl, rfl⟩ := (hI a b c d x).mp hIk
  clear hIk
  obtain ⟨d1, d2, d3, d4, d5, d6⟩ := hL.bd (by omega) (by omega)
  refine pk_lt j q (fun c => ?_) (fun c => ?_)
  · rw [show q = j + 1 by omega] at hL
    have := h l m f t hL
    refine pk_ne s 0 (fun e => pk_ne s 1 (fun e2 => pk_ne s 2 (fun e3 => ?_) (fun e3 => ?_)) (fun e2 => ?_)) (fun e => ?_)
    · rw [if_neg e, if_neg e2, if_neg e3] at this; exact this
    · rw [if_neg e, if_neg e2, if_pos e3] at this; exact this
    · rw [if_neg e, if_pos e2] at this; exact this
    · rw [if_pos e] at this; exact this
  · refine m_excessAt hS (by omega) hN ?_
    have hb := ex_b B q
    have hst := hL.step
    refine ⟨fun y => y = nI (if ex B q < l then 1 else if ex B q = l then t + 1 else t), ?_, ?_⟩
    · refine q_le l (ex B q) (fun c1 => ?_) (fun c1 => by rw [if_pos c1]; rfl)
      rw [if_neg (by omega)]
      refine q_ne (ex B q) l (fun c2 => by rw [if_neg c2]) (fun c2 => by rw [if_pos c2, nI_1])
    rintro _ rfl
    refine ⟨fun y => y = nI (if ex B q < l then q else f), ?_, ?_⟩
    · exact q_le l (ex B q) (fun c1 => by rw [if_neg (by omega)]) (fun c1 => by rw [if_pos c1])
    rintro _ rfl
    refine ⟨fun y => y = iI (if ex B q < l then ex B q else l), ?_, ?_⟩
    · exact q_le l (ex B q) (fun c1 => by rw [if_neg (by omega)]) (fun c1 => by rw [if_pos c1])
    rintro _ rfl
    refine ⟨fun y => y = iI (if m < ex B q then ex B q else m), ?_, ?_⟩
    · exact q_le (ex B q) m (fun c1 => by rw [if_neg (by omega)]) (fun c1 => by rw [if_pos c1])
    rintro _ rfl
    rintro _ rfl
    rw [nI_1]
    refine ⟨(hI _ _ _ _ _).mpr ⟨_, _, _, _, q + 1, by omega, by omega, hst, rfl, rfl, rfl, rfl, rfl⟩, ?_⟩
    rw [hmu, hmu, nI_clamp (by omega), nI_clamp (by omega)]; omega
theorem o_least {low high : Int64} {N : Nat} {g lo hi st w : Nat → Int32} (hX : XT low high N g lo hi) (hM : MT st (bb low high) N w) {p1 p2 s : Int32} {Q : Prop} (hQ : Q) : wX5_least low high (nI N) g lo hi p1 p2 s (fun r1 => wX6_least st p1 p2 s (fun r2 => r1 = r2 ∧ Q)) := by
  have hN := hX.1.1
  have h2 := hX.1.two
  have h64 := hM.m64 hX.1
  unfold wX5_least
  rcases upto p1 N with ⟨i, i1, rfl⟩ | c
  · refine x_pt_y hN i1 (t1a ?_)
    rcases upto p2 N with ⟨j, j1, rfl⟩ | c
    · refine x_pt_y hN j1 (t1a ?_)
      refine pk_le i j (fun hij => ?_) (fun hij => ?_)
      · have fin := fun (s : Nat) (hs : s ≤ 3) (r1 : Int32) (hr : ∀ l m f t, LE (bb low high) i (j + 1) l m f t → r1 = (if s = 0 then iI l else if s = 1 then nI f else if s = 2 then nI t else iI m)) => m_least (post := fun r2 => r1 = r2 ∧ Q) hM.1 hM.2.1 hX.1 hij j1 hs (fun l m f t hL => ⟨hr l m f t hL, hQ⟩)
        have get : ∀ {l m : Int} {f t : Nat}, LE (bb low high) i (j + 1) l m f t → IsMn (bb low high) i j l ∧ IsMx (bb low high) i j m ∧ i ≤ f ∧ f ≤ j ∧ ex (bb low high) f = l ∧ (∀ k, i ≤ k → k < f → l < ex (bb low high) k) ∧ t = pw (bb low high) l i j := by
          intro l m f t hL
          rcases hL with ⟨z, _⟩ | ⟨_, z⟩
          · omega
          · exact z
        refine ⟨?_, ?_, ?_, ?_, ?_⟩
        · rintro rfl
          refine x_extremeMn hX.2.2 hN hij j1 (fun m hm => fin 0 (by omega) _ (fun l _ f t hL => ?_))
          rw [if_pos rfl, hm.one (get hL).1]
        · rintro rfl
          refine x_extremeMn hX.2.2 hN hij j1 (fun m hm => ?_)
          have hbd := hm.bd
          refine x_firstWith hX.2.2 hN (by omega) (fun e => fin 1 (by omega) _ (fun l _ f t hL => ?_)) (fun e r hr => fin 1 (by omega) _ (fun l _ f t hL => ?_))
          · rw [iI_toInt (by omega) (by omega)] at e
            obtain ⟨g1, g2, g3, g4, g5, g6, g7⟩ := get hL
            rw [if_neg (by decide), if_pos rfl]
            congr 1
            have em := hm.one g1
            rcases Nat.eq_or_lt_of_le g3 with y | y
            · exact y
            · have := g6 i (Nat.le_refl _) y; omega
          · rw [iI_toInt (by omega) (by omega)] at e hr
            obtain ⟨g1, g2, g3, g4, g5, g6, g7⟩ := get hL
            rw [if_neg (by decide), if_pos rfl]
            have em := hm.one g1
            refine hr.one (Or.inl ⟨f, ?_, by omega, by omega, fun k k1 k2 => ?_, rfl⟩)
            · rcases Nat.eq_or_lt_of_le g3 with y | y
              · rw [y] at e; omega
              · exact y
            · have := g6 k (by omega) k2; omega
        · rintro rfl
          refine x_extremeMn hX.2.2 hN hij j1 (fun m hm => ?_)
          have hbd := hm.bd
          refine x_pointsWith hij (by omega) (fin 2 (by omega) _ (fun l _ f t hL => ?_))
          obtain ⟨g1, g2, g3, g4, g5, g6, g7⟩ := get hL
          rw [if_neg (by decide), if_neg (by decide), if_pos rfl, iI_toInt (by omega) (by omega), hm.one g1, g7]
        · rintro rfl
          refine x_extremeMx hX.2.2 hN hij j1 (fun m hm => fin 3 (by omega) _ (fun l _ f t hL => ?_))
          rw [if_neg (by decide), if_neg (by decide), if_neg (by decide), hm.one (get hL).2.1]
        · intro n0 n1 n2 n3
          unfold wX6_least
          refine m_mark_y hM.2.1 h64 (by omega) (t1a ?_)
          refine m_mark_y hM.2.1 h64 (by omega) (t1a ?_)
          refine pk_lt j i (fun c => by omega) (fun _ => ?_)
          refine m_in_n (fun z => ?_) (t0b ⟨rfl, hQ⟩)
          have z : (0 : Int) ≤ s.toInt ∧ s.toInt ≤ 3 := z
          rcases upto s 3 with ⟨k, k1, rfl⟩ | c
          · have hk : k = 0 ∨ k = 1 ∨ k = 2 ∨ k = 3 := by omega
            rcases hk with rfl | rfl | rfl | rfl
            · exact n0 rfl
            · exact n1 rfl
            · exact n2 rfl
            · exact n3 rfl
          · omega
      · unfold wX6_least
        refine m_mark_y hM.2.1 h64 (by omega) (t1a ?_)
        refine m_mark_y hM.2.1 h64 (by omega) (t1a ?_)
        exact pk_lt j i (fun _ => ⟨rfl, hQ⟩) (fun c => by omega)
    · refine x_pt_n hN c (t0a ?_)
      unfold wX6_least
      refine m_mark_y hM.2.1 h64 (by omega) (t1a ?_)
      exact m_mark_n hM.2.1 h64 (by omega) (t0a ⟨rfl, hQ⟩)
  · refine x_pt_n hN c (t0a ?_)
    unfold wX6_least
    exact m_mark_n hM.2.1 h64 (by omega) (t0a ⟨rfl, hQ⟩)
