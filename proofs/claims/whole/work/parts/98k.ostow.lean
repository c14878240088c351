/-! faults of a sheet; stow: both sides -/
def wdn (l : Nat) : Nat := if l = 0 then 8 else if l = 1 then 32 else 64
theorem wdn_is {l : Nat} (hl : l < 3) : 8 ≤ wdn l ∧ wdn l ≤ 64 := by
  rcases (show l = 0 ∨ l = 1 ∨ l = 2 by omega) with rfl | rfl | rfl <;> decide
theorem x_bits {l : Nat} (hl : l < 3) {post : Int32 → Prop} (h : post (nI (wdn l))) : wX2_bitsOfCell (nI l) post := by
  unfold wX2_bitsOfCell
  rcases (show l = 0 ∨ l = 1 ∨ l = 2 by omega) with rfl | rfl | rfl
  · exact ⟨fun z => absurd rfl z, fun _ => h⟩
  · exact ⟨fun _ => ⟨fun z => absurd rfl z, fun _ => h⟩, fun z => absurd z (by decide)⟩
  · exact ⟨fun _ => ⟨fun _ => h, fun z => absurd z (by decide)⟩, fun z => absurd z (by decide)⟩
theorem m_wide {l : Nat} (hl : l < 3) {post : Int32 → Prop} (h : post (nI (wdn l))) : wX6_wide (nI l) post := by
  unfold wX6_wide
  rcases (show l = 0 ∨ l = 1 ∨ l = 2 by omega) with rfl | rfl | rfl
  · exact ⟨fun z => absurd rfl z, fun _ => h⟩
  · exact ⟨fun _ => ⟨fun z => absurd rfl z, fun _ => h⟩, fun z => absurd z (by decide)⟩
  · exact ⟨fun _ => ⟨fun _ => h, fun z => absurd z (by decide)⟩, fun z => absurd z (by decide)⟩
theorem wdn_l0 {l : Nat} (hl : l < 3) : ¬ (nI (wdn l)).toInt64 = 0 := by
  have := wdn_is hl
  rw [nI_l (by omega), show (0 : Int64) = lN 0 from rfl, lN_eq (by omega) (by omega)]
  omega
theorem lg_lt (A C : Int64) : (lg_cmp A C < 0) ↔ A.toInt < C.toInt := by
  unfold lg_cmp
  simp only [gt_iff_lt, Int64.lt_iff_toInt_lt, ← Int64.toInt_inj]
  by_cases c : C.toInt < A.toInt
  · rw [if_pos c]; exact ⟨fun z => absurd z (by decide), fun z => by omega⟩
  · rw [if_neg c]
    by_cases c2 : A.toInt = C.toInt
    · rw [if_pos c2]; exact ⟨fun z => absurd z (by decide), fun z => by omega⟩
    · rw [if_neg c2]; exact ⟨fun _ => by omega, fun _ => by decide⟩
theorem lg_div {l a n : Nat} (hl : l < 3) (ha : a < 4294967296) (hn : n ≤ 40) : lg_cmp (lN a / (nI (wdn l)).toInt64) (nI n).toInt64 < 0 ↔ a / wdn l < n := by
  have := wdn_is hl
  have h1 : a / wdn l ≤ a := Nat.div_le_self _ _
  rw [lg_lt, nI_l (by omega), nI_l (by omega), pk_lDiv (by omega) (by omega) (by omega), pk_lT (by omega), pk_lT (by omega)]
  omega
def fN (kd ln : Int32) (l a : Nat) : Nat := if kd = -1 then 1 else if kd = nI l then (if a / wdn l < ln.toNatClampNeg then 0 else 2) else 3
theorem fN_le (kd ln : Int32) (l a : Nat) : fN kd ln l a ≤ 3 := by
  unfold fN
  split
  · omega
  · split
    · split <;> omega
    · omega
theorem x_fault {kd ln : Int32} {ce mc : Nat → Int64} {la le : Nat → Int32} {k l a : Nat} (hS : SH kd ln ce la le mc k) (hl : l < 3) (ha : a < 4294967296) {post : Int32 → Prop} (h : post (nI (fN kd ln l a))) : wX2_faultOfBit kd ln (nI l) (lN a) post := by
  obtain ⟨⟨n, n1, rfl, n3, n4⟩, hce⟩ := hS
  unfold wX2_faultOfBit
  unfold fN at h
  rcases n4 with ⟨rfl, e2, e3⟩ | ⟨l', hl', rfl, e2⟩
  · rw [if_pos rfl] at h
    exact x_isNothing_y (t1a h)
  · rw [if_neg (lane_ne hl').1, nI_clamp (by omega)] at h
    refine x_isNothing_n hl' (t0a ⟨fun c => ?_, fun c => ?_⟩)
    · rw [if_pos c] at h
      have e : l' = l := (nI_eq (by omega) (by omega)).mp c
      subst e
      refine x_bits hl' ⟨wdn_l0 hl', fun z => ?_, fun z => ?_⟩
      · rw [if_neg (fun y => ?_)] at h
        · exact h
        · have := (lg_div hl' ha n1).mpr y
          rw [← Int32.not_le] at this
          exact this z
      · rw [Int32.not_le, lg_div hl' ha n1] at z
        rw [if_pos z] at h
        exact h
    · rw [if_neg c] at h; exact h
theorem m_fault {kd ln : Int32} {ce mc : Nat → Int64} {la le : Nat → Int32} {k l a : Nat} (hk : k < 4) (hS : SH kd ln ce la le mc k) (hl : l < 3) (ha : a < 4294967296) {post : Int32 → Prop} (h : post (nI (fN kd ln l a))) : wX6_foundAt la le (nI k) (nI l) (lN a) post := by
  have hin : vp_in (nI k) 4 := pk_in k 4 hk
  have hc : (nI k).toNatClampNeg = k := nI_clamp (by omega)
  obtain ⟨⟨n, n1, rfl, n3, n4⟩, hce⟩ := hS
  unfold wX6_foundAt
  unfold fN at h
  rw [hc, n3]
  rcases n4 with ⟨rfl, e2, e3⟩ | ⟨l', hl', rfl, e2⟩
  · rw [if_pos rfl] at h
    rw [e2]
    exact ⟨hin, fun z => absurd rfl z, fun _ => h⟩
  · rw [if_neg (lane_ne hl').1, nI_clamp (by omega)] at h
    rw [e2]
    refine ⟨hin, fun _ => ⟨hin, fun c => ?_, fun c => ?_⟩, fun z => absurd z (lane_ne hl').2⟩
    · rw [if_pos c] at h
      have e : l' = l := (nI_eq (by omega) (by omega)).mp c
      subst e
      refine m_wide hl' ⟨wdn_l0 hl', hin, fun z => ?_, fun z => ?_⟩
      · rw [lg_div hl' ha n1] at z
        rw [if_pos z] at h
        exact h
      · rw [lg_div hl' ha n1] at z
        rw [if_neg z] at h
        exact h
    · rw [if_neg c] at h; exact h
theorem fN_z {kd ln : Int32} {ce mc : Nat → Int64} {la le : Nat → Int32} {k l a : Nat} (hS : SH kd ln ce la le mc k) (h : fN kd ln l a = 0) : kd = nI l ∧ a / wdn l < 40 := by
  obtain ⟨⟨n, n1, rfl, n3, n4⟩, hce⟩ := hS
  unfold fN at h
  by_cases c1 : kd = -1
  · rw [if_pos c1] at h; omega
  · rw [if_neg c1] at h
    by_cases c2 : kd = nI l
    · rw [if_pos c2, nI_clamp (by omega)] at h
      by_cases c3 : a / wdn l < n
      · exact ⟨c2, by omega⟩
      · rw [if_neg c3] at h; omega
    · rw [if_neg c2] at h; omega
theorem dv_lt {l a : Nat} (hl : l < 3) (h : a / wdn l < 40) : a < 2560 := by
  have h1 := wdn_is hl
  have h2 : a < 40 * wdn l := (Nat.div_lt_iff_lt_mul (by omega)).mp h
  have h3 : 40 * wdn l ≤ 40 * 64 := Nat.mul_le_mul_left 40 h1.2
  omega
theorem md_lt {l : Nat} (a : Nat) (hl : l < 3) : a % wdn l < 64 := by
  have h1 := wdn_is hl
  have := Nat.mod_lt a (show 0 < wdn l by omega)
  omega
theorem lim (P : Nat → Prop) : ∀ n, ∃ j, j ≤ n ∧ (∀ i, i < j → P i) ∧ (j = n ∨ ¬ P j)
  | 0 => ⟨0, Nat.le_refl _, fun i hi => by omega, Or.inl rfl⟩
  | n + 1 => by
    obtain ⟨j, j1, j2, j3⟩ := lim P n
    rcases j3 with e | e
    · subst e
      rcases Classical.em (P j) with y | y
      · refine ⟨j + 1, Nat.le_refl _, fun i hi => ?_, Or.inl rfl⟩
        rcases Nat.lt_or_ge i j with z | z
        · exact j2 i z
        · rw [show i = j by omega]; exact y
      · exact ⟨j, by omega, j2, Or.inr y⟩
    · exact ⟨j, by omega, j2, Or.inr e⟩
/-- a bit put into a cell -/
def pb (l : Nat) (ce : Nat → Int64) (a : Nat) (b : Bool) : Nat → Int64 := vp_updL ce (a / wdn l) (na (nI l) (if b then ce (a / wdn l) ||| zlshl 1 (nI (a % wdn l)) else ce (a / wdn l) &&& (zlshl 1 (nI (a % wdn l)) ^^^ (-1))))
def sc (l f : Nat) (B : Nat → Bool) (ce : Nat → Int64) : Nat → Nat → Int64
  | 0 => ce
  | j + 1 => pb l (sc l f B ce j) (f + j) (B j)
theorem x_putBit {l a : Nat} {b : Bool} {ce : Nat → Int64} (hl : l < 3) (ha : a / wdn l < 40) {post : (Nat → Int64) → Prop} (h : post (pb l ce a b)) : wX2_putBit (nI l) ce (nI a) (if b then 1 else 0) post := by
  have h1 := wdn_is hl
  have h2 := dv_lt hl ha
  unfold wX2_putBit
  unfold pb at h
  refine x_bits hl ⟨nI_ne0 (by omega) (by omega), ?_⟩
  rw [pk_div (by omega) (by omega) (by omega)]
  rintro _ rfl
  refine x_bits hl ⟨nI_ne0 (by omega) (by omega), ?_⟩
  rw [pk_rem (by omega) (by omega) (by omega)]
  rintro _ rfl
  rw [nI_clamp (by omega)]
  refine b1_ne (fun c => ⟨pk_in _ 40 ha, x_put ha ?_⟩) (fun c => ⟨pk_in _ 40 ha, x_put ha ?_⟩)
  · rw [c] at h; exact h
  · rw [c] at h; exact h
theorem m_stow {st w : Nat → Int32} {B : Nat → Bool} {N : Nat} (hM : MT st B N w) (hT : Tr B N) {kd ln tn : Int32} {ce mc : Nat → Int64} {la le : Nat → Int32} {k l f j : Nat} (hk : k < 4) (hS : SH kd ln ce la le mc k) (hl : l < 3) (hf : f < 2147483648) (j1 : j ≤ N) (j2 : ∀ i, i < j → fN kd ln l (f + i) = 0) (j3 : j = N ∨ ¬ fN kd ln l (f + j) = 0) {post : Int32 → (Int32 × (Nat → Int64)) → Prop} (h : ∀ t mc', (j = N → t = 0) → (j < N → t = nI (fN kd ln l (f + j))) → SH kd ln (sc l f B ce j) la le mc' k → SF k la le la le mc mc' → post (nI j) (t, mc')) : wX6_stow tn st la le mc (nI k) (nI l) (nI f) post := by
  have hN := hT.1
  have h64 := hM.m64 hT
  have hNc := hT.two
  have hW := wdn_is hl
  unfold wX6_stow
  refine m_in3 hk (t1a (m_in2 hl (t1a ⟨fun _ => ?_, fun z => absurd (nI_pos' (by omega)) z⟩)))
  refine ⟨fun x t c => ∃ i, x = nI i ∧ i ≤ j ∧ SH kd ln (sc l f B ce i) la le c k ∧ SF k la le la le mc c ∧ (t = 0 ∨ (i = j ∧ j < N ∧ ¬ t = 0 ∧ t = nI (fN kd ln l (f + j)))), fun x t _ => 2 * (N - x.toNatClampNeg) + (if t = 0 then 1 else 0), ⟨0, rfl, Nat.zero_le _, hS, SF.rfl', Or.inl rfl⟩, ?_⟩
  rintro x t c ⟨i, rfl, i1, hSc, hFc, ht⟩
  refine ⟨fun z => ?_, fun z => ?_⟩
  · rcases ht with y | ⟨y1, y2, y3, y4⟩
    · exact absurd y z
    · subst y1
      exact h t c (fun e => by omega) (fun _ => y4) hSc hFc
  · subst z
    refine m_places hM.2.1 (pk_le (2 * fb_ct B N) i (fun c1 => ?_) (fun c1 => ?_))
    · have e : i = j := by omega
      subst e
      exact h 0 c (fun _ => rfl) (fun e => by omega) hSc hFc
    · rintro _ rfl
      have es : (nI f).toInt64 + (nI i).toInt64 = lN (f + i) := by rw [nI_l (by omega), nI_l (by omega), lN_add]
      rw [es]
      refine m_fault hk hS hl (by omega) ?_
      have hle := fN_le kd ln l (f + i)
      refine pk_ne (fN kd ln l (f + i)) 0 (fun c2 => ?_) (fun c2 => ?_)
      · have e : i = j := by
          rcases Nat.lt_or_ge i j with y | y
          · exact absurd (j2 i y) c2
          · omega
        subst e
        have hne : ¬ nI (fN kd ln l (f + i)) = (0 : Int32) := nI_ne0 (by omega) (by omega)
        refine ⟨⟨i, rfl, Nat.le_refl _, hSc, hFc, Or.inr ⟨rfl, by omega, hne, rfl⟩⟩, ?_⟩
        dsimp only
        rw [if_neg hne, if_pos rfl]; omega
      · have hij : i < j := by
          rcases j3 with y | y
          · omega
          · rcases Nat.lt_or_ge i j with y2 | y2
            · exact y2
            · rw [show j = i by omega] at y; exact absurd c2 y
        obtain ⟨ek, hd⟩ := fN_z hS c2
        have h25 := dv_lt hl hd
        rw [c2]
        refine m_wide hl ⟨wdn_l0 hl, ?_⟩
        rw [nI_l (by omega), pk_lDiv (by omega) (by omega) (by omega), lN_i, show (40 : Int32) = nI 40 from rfl, pk_mul, nI_add]
        rintro _ rfl
        refine m_wide hl ⟨wdn_l0 hl, ?_⟩
        rw [nI_l (by omega), pk_lRem (by omega) (by omega) (by omega), lN_i]
        rintro _ rfl
        rw [nI_clamp (by omega), nI_clamp (by omega)]
        refine ⟨pk_in i 579 (by omega), ?_⟩
        rw [hM.1 i (by omega)]
        have ec : c (40 * k + (f + i) / wdn l) = sc l f B ce i ((f + i) / wdn l) := (hSc.2 _ hd).symm
        have fin : ∀ b, B i = b → ∀ v, v = na (nI l) (if b then sc l f B ce i ((f + i) / wdn l) ||| zlshl 1 (nI ((f + i) % wdn l)) else sc l f B ce i ((f + i) / wdn l) &&& (zlshl 1 (nI ((f + i) % wdn l)) ^^^ (-1))) → SH kd ln (sc l f B ce (i + 1)) la le (vp_updL c (40 * k + (f + i) / wdn l) v) k ∧ SF k la le la le mc (vp_updL c (40 * k + (f + i) / wdn l) v) := fun b hb v hv => by
          refine ⟨?_, fun _ _ => ⟨rfl, rfl⟩, fun q hq => ?_⟩
          · show SH kd ln (pb l (sc l f B ce i) (f + i) (B i)) la le _ k
            unfold pb
            rw [hb, ← hv]
            exact hSc.put
          · have hne : ∀ D, D < 40 → q ≠ 40 * k + D := fun D hD => by omega
            rw [pk_uLn (hne _ hd)]; exact hFc.2 q hq
        have hm2 : ∀ v : Int64, 2 * (N - (nI (i + 1)).toNatClampNeg) + (if nI 0 = (0 : Int32) then 1 else 0) < 2 * (N - (nI i).toNatClampNeg) + (if (0 : Int32) = 0 then 1 else 0) := fun _ => by
          rw [nI_clamp (by omega), nI_clamp (by omega), if_pos (show nI 0 = (0 : Int32) from rfl), if_pos (show (0 : Int32) = 0 from rfl)]; omega
        refine b1_ne (fun cb => ⟨pk_in (40 * k + (f + i) / wdn l) 160 (by omega), m_narrowed ⟨pk_in (40 * k + (f + i) / wdn l) 160 (by omega), ?_⟩⟩) (fun cb => ⟨pk_in (40 * k + (f + i) / wdn l) 160 (by omega), m_narrowed ⟨pk_in (40 * k + (f + i) / wdn l) 160 (by omega), ?_⟩⟩)
        · rintro _ rfl
          rw [ec, nI_1]
          obtain ⟨g1, g2⟩ := fin false cb _ rfl
          exact ⟨⟨i + 1, rfl, hij, g1, g2, Or.inl rfl⟩, hm2 0⟩
        · rintro _ rfl
          rw [ec, nI_1]
          obtain ⟨g1, g2⟩ := fin true cb _ rfl
          exact ⟨⟨i + 1, rfl, hij, g1, g2, Or.inl rfl⟩, hm2 0⟩
theorem o_stow_y {low high : Int64} {N : Nat} {g lo hi st w : Nat → Int32} (hX : XT low high N g lo hi) (hM : MT st (bb low high) N w) {kd ln tn p2 p3 : Int32} {ce mc : Nat → Int64} {la le : Nat → Int32} {k : Nat} (hk : k < 4) (hS : SH kd ln ce la le mc k) {Q : (Int32 × (Nat → Int64)) → (Int32 × (Nat → Int64)) → Prop} (hQ : ∀ t c mc', SH kd ln c la le mc' k → SF k la le la le mc mc' → Q (t, c) (t, mc')) : wX5_stow tn low high (nI N) kd ln ce (nI k) p2 p3 (fun r1 u1 => wX6_stow tn st la le mc (nI k) p2 p3 (fun r2 u2 => r1 = r2 ∧ Q u1 u2)) := by
  have hN := hX.1.1
  have hQ0 := hQ tn _ _ hS SF.rfl'
  have hin : vp_in (nI k) 4 := pk_in k 4 hk
  unfold wX5_stow
  refine x_sheet_y hk (t1a ?_)
  rcases lane_or p2 with ⟨l, hl, rfl⟩ | c
  · refine x_lane_y hl (t1a ⟨fun c0 => ?_, fun c0 => ?_⟩)
    · obtain ⟨f, hf, rfl⟩ := nI_of (x := p3) (by rw [Int32.not_lt]; exact c0)
      obtain ⟨j, j1, j2, j3⟩ := lim (fun i => fN kd ln l (f + i) = 0) N
      refine ⟨fun x t c => ∃ i, x = nI i ∧ i ≤ j ∧ t = 0 ∧ c = sc l f (bb low high) ce i, fun x _ _ => N - x.toNatClampNeg, ⟨0, rfl, Nat.zero_le _, rfl, rfl⟩, ?_⟩
      rintro x t c ⟨i, rfl, i1, rfl, rfl⟩
      refine pk_le N i (fun c1 => ?_) (fun c1 => ⟨hin, ?_⟩)
      · have e : i = N := by omega
        have ej : j = N := by omega
        rw [e]
        refine m_stow hM hX.1 hk hS hl hf j1 j2 j3 (fun t mc' t0 t1 g1 g2 => ⟨by rw [ej], ?_⟩)
        rw [t0 ej]
        rw [ej] at g1
        exact hQ _ _ _ g1 g2
      · have es : (nI f).toInt64 + (nI i).toInt64 = lN (f + i) := by rw [nI_l (by omega), nI_l (by omega), lN_add]
        rw [es]
        refine x_fault hS hl (by omega) ?_
        have hle := fN_le kd ln l (f + i)
        refine pk_eq (fN kd ln l (f + i)) 0 (fun c2 => ⟨hin, ?_⟩) (fun c2 => ?_)
        · have hij : i < j := by
            rcases j3 with y | y
            · omega
            · rcases Nat.lt_or_ge i j with y2 | y2
              · exact y2
              · rw [show j = i by omega] at y; exact absurd c2 y
          obtain ⟨ek, hd⟩ := fN_z hS c2
          have h25 := dv_lt hl hd
          refine x_bitAt (by omega) ?_
          rw [nI_add, ek]
          refine x_putBit hl hd ?_
          rintro _ rfl
          rw [nI_1, ← ek, c2]
          refine ⟨⟨i + 1, rfl, hij, rfl, rfl⟩, ?_⟩
          dsimp only
          rw [nI_clamp (by omega), nI_clamp (by omega)]; omega
        · have e : i = j := by
            rcases Nat.lt_or_ge i j with y | y
            · exact absurd (j2 i y) c2
            · omega
          subst e
          refine m_stow hM hX.1 hk hS hl hf j1 j2 j3 (fun t mc' t0 t1 g1 g2 => ⟨rfl, ?_⟩)
          rw [t1 (by omega)]
          exact hQ _ _ _ g1 g2
    · unfold wX6_stow
      exact m_in3 hk (t1a (m_in2 hl (t1a ⟨fun z => absurd z c0, fun _ => ⟨rfl, hQ0⟩⟩)))
  · refine x_lane_n c (t0a ?_)
    unfold wX6_stow
    exact m_in3 hk (t1a (m_in_n (show ¬ (Int64.toInt 0 ≤ p2.toInt ∧ p2.toInt ≤ Int64.toInt 2) from c) (t0a ⟨rfl, hQ0⟩)))
theorem o_stow_n {low high : Int64} {pl kd ln tn p p2 p3 : Int32} {ce mc : Nat → Int64} {la le st : Nat → Int32} (hn : ¬ ((0 : Int) ≤ p.toInt ∧ p.toInt ≤ 3)) {Q : (Int32 × (Nat → Int64)) → (Int32 × (Nat → Int64)) → Prop} (hQ : Q (tn, ce) (tn, mc)) : wX5_stow tn low high pl kd ln ce p p2 p3 (fun r1 u1 => wX6_stow tn st la le mc p p2 p3 (fun r2 u2 => r1 = r2 ∧ Q u1 u2)) := by
  unfold wX5_stow
  refine x_sheet_n hn (t0a ?_)
  unfold wX6_stow
  exact m_in_n (show ¬ (Int64.toInt 0 ≤ p.toInt ∧ p.toInt ≤ Int64.toInt 3) from hn) (t0a ⟨rfl, hQ⟩)
