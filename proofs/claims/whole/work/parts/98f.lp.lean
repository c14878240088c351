/-! loops that copy; a stretch of places comes in -/
theorem lp_out {src f0 : Nat → Int32} {a n A D : Nat} (ha : a + n ≤ A) (hA : A < 2147483648) (hn : n ≤ D) (hD : D < 2147483648) {P : (Nat → Int32) → Prop} (h : ∀ f : Nat → Int32, (∀ k, f k = if k < n then src (a + k) else f0 k) → P f) : ∃ (I : Int32 → (Nat → Int32) → Prop) (mu : Int32 → (Nat → Int32) → Nat), I 0 f0 ∧ ∀ (x : Int32) (f : Nat → Int32), I x f → ((nI n ≤ x → P f) ∧ (¬ nI n ≤ x → (vp_in (nI a + x) A ∧ (∀ y : Int32, y = src (nI a + x).toNatClampNeg → (vp_in x D ∧ (∀ z : Int32, z = x + 1 → (I z (upd f x.toNatClampNeg y) ∧ mu z (upd f x.toNatClampNeg y) < mu x f))))))) := by
  refine ⟨fun x f => ∃ j, x = nI j ∧ j ≤ n ∧ ∀ k, f k = if k < j then src (a + k) else f0 k, fun x _ => n - x.toNatClampNeg, ⟨0, rfl, Nat.zero_le _, fun k => by rw [if_neg (by omega)]⟩, ?_⟩
  rintro x f ⟨j, rfl, j1, hf⟩
  refine pk_le n j (fun c => h f ?_) (fun c => ?_)
  · rw [show n = j by omega]; exact hf
  · rw [nI_add]
    refine ⟨pk_in (a + j) A (by omega), ?_⟩
    rintro _ rfl
    refine ⟨pk_in j D (by omega), ?_⟩
    rintro _ rfl
    rw [nI_1, nI_clamp (by omega), nI_clamp (by omega)]
    refine ⟨⟨j + 1, rfl, c, fun k => ?_⟩, ?_⟩
    · by_cases e : k = j
      · rw [e, pk_us, if_pos (by omega)]
      · rw [pk_un e, hf k]
        by_cases e2 : k < j
        · rw [if_pos e2, if_pos (by omega)]
        · rw [if_neg e2, if_neg (by omega)]
    · dsimp only
      rw [nI_clamp (by omega), nI_clamp (by omega)]; omega
theorem lp_in {src f0 : Nat → Int32} {a n A D : Nat} (ha : a + n ≤ D) (hD : D < 2147483648) (hn : n ≤ A) (hA : A < 2147483648) {P : (Nat → Int32) → Prop} (h : ∀ f : Nat → Int32, (∀ k, f k = if a ≤ k ∧ k < a + n then src (k - a) else f0 k) → P f) : ∃ (I : Int32 → (Nat → Int32) → Prop) (mu : Int32 → (Nat → Int32) → Nat), I 0 f0 ∧ ∀ (x : Int32) (f : Nat → Int32), I x f → ((nI n ≤ x → P f) ∧ (¬ nI n ≤ x → (vp_in x A ∧ (∀ y : Int32, y = src x.toNatClampNeg → (vp_in (nI a + x) D ∧ (∀ z : Int32, z = x + 1 → (I z (upd f (nI a + x).toNatClampNeg y) ∧ mu z (upd f (nI a + x).toNatClampNeg y) < mu x f))))))) := by
  refine ⟨fun x f => ∃ j, x = nI j ∧ j ≤ n ∧ ∀ k, f k = if a ≤ k ∧ k < a + j then src (k - a) else f0 k, fun x _ => n - x.toNatClampNeg, ⟨0, rfl, Nat.zero_le _, fun k => by rw [if_neg (by omega)]⟩, ?_⟩
  rintro x f ⟨j, rfl, j1, hf⟩
  refine pk_le n j (fun c => h f ?_) (fun c => ?_)
  · rw [show n = j by omega]; exact hf
  · rw [nI_add]
    refine ⟨pk_in j A (by omega), ?_⟩
    rintro _ rfl
    refine ⟨pk_in (a + j) D (by omega), ?_⟩
    rintro _ rfl
    rw [nI_1, nI_clamp (by omega), nI_clamp (by omega)]
    refine ⟨⟨j + 1, rfl, c, fun k => ?_⟩, ?_⟩
    · by_cases e : k = a + j
      · rw [e, pk_us, if_pos (by omega), show a + j - a = j by omega]
      · rw [pk_un e, hf k]
        by_cases e2 : a ≤ k ∧ k < a + j
        · rw [if_pos e2, if_pos (by omega)]
        · rw [if_neg e2, if_neg (by omega)]
    · dsimp only
      rw [nI_clamp (by omega), nI_clamp (by omega)]; omega
theorem lp_same {src f0 : Nat → Int32} {n A D : Nat} (hD : D < 2147483648) (hn : n ≤ A) (hn2 : n ≤ D) (hA : A < 2147483648) {P : (Nat → Int32) → Prop} (h : ∀ f : Nat → Int32, (∀ k, f k = if k < n then src k else f0 k) → P f) : ∃ (I : Int32 → (Nat → Int32) → Prop) (mu : Int32 → (Nat → Int32) → Nat), I 0 f0 ∧ ∀ (x : Int32) (f : Nat → Int32), I x f → ((nI n ≤ x → P f) ∧ (¬ nI n ≤ x → (vp_in x A ∧ (∀ y : Int32, y = src x.toNatClampNeg → (vp_in x D ∧ (∀ z : Int32, z = x + 1 → (I z (upd f x.toNatClampNeg y) ∧ mu z (upd f x.toNatClampNeg y) < mu x f))))))) := by
  refine ⟨fun x f => ∃ j, x = nI j ∧ j ≤ n ∧ ∀ k, f k = if k < j then src k else f0 k, fun x _ => n - x.toNatClampNeg, ⟨0, rfl, Nat.zero_le _, fun k => by rw [if_neg (by omega)]⟩, ?_⟩
  rintro x f ⟨j, rfl, j1, hf⟩
  refine pk_le n j (fun c => h f ?_) (fun c => ?_)
  · rw [show n = j by omega]; exact hf
  · refine ⟨pk_in j A (by omega), ?_⟩
    rintro _ rfl
    refine ⟨pk_in j D (by omega), ?_⟩
    rintro _ rfl
    rw [nI_1, nI_clamp (by omega)]
    refine ⟨⟨j + 1, rfl, c, fun k => ?_⟩, ?_⟩
    · by_cases e : k = j
      · rw [e, pk_us, if_pos (by omega)]
      · rw [pk_un e, hf k]
        by_cases e2 : k < j
        · rw [if_pos e2, if_pos (by omega)]
        · rw [if_neg e2, if_neg (by omega)]
    · dsimp only
      rw [nI_clamp (by omega), nI_clamp (by omega)]; omega
theorem lp_keep {f0 : Nat → Int32} {a n D : Nat} (hna : n ≤ a) (ha : a + n ≤ D) (hD : D < 2147483648) {P : (Nat → Int32) → Prop} (h : ∀ f : Nat → Int32, (∀ k, f k = if a ≤ k ∧ k < a + n then f0 (k - a) else f0 k) → P f) : ∃ (I : Int32 → (Nat → Int32) → Prop) (mu : Int32 → (Nat → Int32) → Nat), I 0 f0 ∧ ∀ (x : Int32) (f : Nat → Int32), I x f → ((nI n ≤ x → P f) ∧ (¬ nI n ≤ x → (vp_in x D ∧ (∀ y : Int32, y = f x.toNatClampNeg → (vp_in (nI a + x) D ∧ (∀ z : Int32, z = x + 1 → (I z (upd f (nI a + x).toNatClampNeg y) ∧ mu z (upd f (nI a + x).toNatClampNeg y) < mu x f))))))) := by
  refine ⟨fun x f => ∃ j, x = nI j ∧ j ≤ n ∧ ∀ k, f k = if a ≤ k ∧ k < a + j then f0 (k - a) else f0 k, fun x _ => n - x.toNatClampNeg, ⟨0, rfl, Nat.zero_le _, fun k => by rw [if_neg (by omega)]⟩, ?_⟩
  rintro x f ⟨j, rfl, j1, hf⟩
  refine pk_le n j (fun c => h f ?_) (fun c => ?_)
  · rw [show n = j by omega]; exact hf
  · rw [nI_add]
    refine ⟨pk_in j D (by omega), ?_⟩
    rintro _ rfl
    refine ⟨pk_in (a + j) D (by omega), ?_⟩
    rintro _ rfl
    rw [nI_1, nI_clamp (by omega), nI_clamp (by omega)]
    refine ⟨⟨j + 1, rfl, c, fun k => ?_⟩, ?_⟩
    · by_cases e : k = a + j
      · rw [e, pk_us, if_pos (by omega), show a + j - a = j by omega, hf j, if_neg (by omega)]
      · rw [pk_un e, hf k]
        by_cases e2 : a ≤ k ∧ k < a + j
        · rw [if_pos e2, if_pos (by omega)]
        · rw [if_neg e2, if_neg (by omega)]
    · dsimp only
      rw [nI_clamp (by omega), nI_clamp (by omega)]; omega
theorem lp_back {f0 : Nat → Int32} {a n D : Nat} (hna : n ≤ a) (ha : a + n ≤ D) (hD : D < 2147483648) {P : (Nat → Int32) → Prop} (h : ∀ f : Nat → Int32, (∀ k, f k = if k < n then f0 (a + k) else f0 k) → P f) : ∃ (I : Int32 → (Nat → Int32) → Prop) (mu : Int32 → (Nat → Int32) → Nat), I 0 f0 ∧ ∀ (x : Int32) (f : Nat → Int32), I x f → ((nI n ≤ x → P f) ∧ (¬ nI n ≤ x → (vp_in (nI a + x) D ∧ (∀ y : Int32, y = f (nI a + x).toNatClampNeg → (vp_in x D ∧ (∀ z : Int32, z = x + 1 → (I z (upd f x.toNatClampNeg y) ∧ mu z (upd f x.toNatClampNeg y) < mu x f))))))) := by
  refine ⟨fun x f => ∃ j, x = nI j ∧ j ≤ n ∧ ∀ k, f k = if k < j then f0 (a + k) else f0 k, fun x _ => n - x.toNatClampNeg, ⟨0, rfl, Nat.zero_le _, fun k => by rw [if_neg (by omega)]⟩, ?_⟩
  rintro x f ⟨j, rfl, j1, hf⟩
  refine pk_le n j (fun c => h f ?_) (fun c => ?_)
  · rw [show n = j by omega]; exact hf
  · rw [nI_add]
    refine ⟨pk_in (a + j) D (by omega), ?_⟩
    rintro _ rfl
    refine ⟨pk_in j D (by omega), ?_⟩
    rintro _ rfl
    rw [nI_1, nI_clamp (by omega), nI_clamp (by omega)]
    refine ⟨⟨j + 1, rfl, c, fun k => ?_⟩, ?_⟩
    · by_cases e : k = j
      · rw [e, pk_us, if_pos (by omega), hf (a + j), if_neg (by omega)]
      · rw [pk_un e, hf k]
        by_cases e2 : k < j
        · rw [if_pos e2, if_pos (by omega)]
        · rw [if_neg e2, if_neg (by omega)]
    · dsimp only
      rw [nI_clamp (by omega), nI_clamp (by omega)]; omega
theorem lp_fill {f0 : Nat → Int32} {a n D : Nat} {c0 : Int32} (ha : a + n ≤ D) (hD : D < 2147483648) {P : (Nat → Int32) → Prop} (h : ∀ f : Nat → Int32, (∀ k, f k = if a ≤ k ∧ k < a + n then c0 else f0 k) → P f) : ∃ (I : Int32 → (Nat → Int32) → Prop) (mu : Int32 → (Nat → Int32) → Nat), I 0 f0 ∧ ∀ (x : Int32) (f : Nat → Int32), I x f → ((nI n ≤ x → P f) ∧ (¬ nI n ≤ x → (vp_in (nI a + x) D ∧ (∀ z : Int32, z = x + 1 → (I z (upd f (nI a + x).toNatClampNeg c0) ∧ mu z (upd f (nI a + x).toNatClampNeg c0) < mu x f))))) := by
  refine ⟨fun x f => ∃ j, x = nI j ∧ j ≤ n ∧ ∀ k, f k = if a ≤ k ∧ k < a + j then c0 else f0 k, fun x _ => n - x.toNatClampNeg, ⟨0, rfl, Nat.zero_le _, fun k => by rw [if_neg (by omega)]⟩, ?_⟩
  rintro x f ⟨j, rfl, j1, hf⟩
  refine pk_le n j (fun c => h f ?_) (fun c => ?_)
  · rw [show n = j by omega]; exact hf
  · rw [nI_add]
    refine ⟨pk_in (a + j) D (by omega), ?_⟩
    rintro _ rfl
    rw [nI_1, nI_clamp (by omega)]
    refine ⟨⟨j + 1, rfl, c, fun k => ?_⟩, ?_⟩
    · by_cases e : k = a + j
      · rw [e, pk_us, if_pos (by omega)]
      · rw [pk_un e, hf k]
        by_cases e2 : a ≤ k ∧ k < a + j
        · rw [if_pos e2, if_pos (by omega)]
        · rw [if_neg e2, if_neg (by omega)]
    · dsimp only
      rw [nI_clamp (by omega), nI_clamp (by omega)]; omega
theorem lp_fillL {f0 : Nat → Int64} {a n D : Nat} {c0 : Int64} (ha : a + n ≤ D) (hD : D < 2147483648) {P : (Nat → Int64) → Prop} (h : ∀ f : Nat → Int64, (∀ k, f k = if a ≤ k ∧ k < a + n then c0 else f0 k) → P f) : ∃ (I : Int32 → (Nat → Int64) → Prop) (mu : Int32 → (Nat → Int64) → Nat), I 0 f0 ∧ ∀ (x : Int32) (f : Nat → Int64), I x f → ((nI n ≤ x → P f) ∧ (¬ nI n ≤ x → (vp_in (nI a + x) D ∧ (∀ z : Int32, z = x + 1 → (I z (vp_updL f (nI a + x).toNatClampNeg c0) ∧ mu z (vp_updL f (nI a + x).toNatClampNeg c0) < mu x f))))) := by
  refine ⟨fun x f => ∃ j, x = nI j ∧ j ≤ n ∧ ∀ k, f k = if a ≤ k ∧ k < a + j then c0 else f0 k, fun x _ => n - x.toNatClampNeg, ⟨0, rfl, Nat.zero_le _, fun k => by rw [if_neg (by omega)]⟩, ?_⟩
  rintro x f ⟨j, rfl, j1, hf⟩
  refine pk_le n j (fun c => h f ?_) (fun c => ?_)
  · rw [show n = j by omega]; exact hf
  · rw [nI_add]
    refine ⟨pk_in (a + j) D (by omega), ?_⟩
    rintro _ rfl
    rw [nI_1, nI_clamp (by omega)]
    refine ⟨⟨j + 1, rfl, c, fun k => ?_⟩, ?_⟩
    · by_cases e : k = a + j
      · rw [e, pk_uLs, if_pos (by omega)]
      · rw [pk_uLn e, hf k]
        by_cases e2 : a ≤ k ∧ k < a + j
        · rw [if_pos e2, if_pos (by omega)]
        · rw [if_neg e2, if_neg (by omega)]
    · dsimp only
      rw [nI_clamp (by omega), nI_clamp (by omega)]; omega
/-- places put in one behind the other -/
theorem m_opensRun {s1 cr : Nat → Int32} {e m : Nat} (he : e + m ≤ 128) {P : (Nat → Int32) → Prop} (h : ∀ f : Nat → Int32, (∀ k, f k = if k < e ∨ 128 ≤ k then s1 k else if k < e + m then cr (k - e) else s1 (k - m)) → P f) : ∃ (I : Int32 → (Nat → Int32) → Prop) (mu : Int32 → (Nat → Int32) → Nat), I 0 s1 ∧ ∀ (x : Int32) (f : Nat → Int32), I x f → ((nI m ≤ x → P f) ∧ (¬ nI m ≤ x → (vp_in x 128 ∧ wX6_opensPlace f (nI e + x) (cr x.toNatClampNeg) (fun u => ∀ y, y = x + 1 → (I y u ∧ mu y u < mu x f))))) := by
  refine ⟨fun x f => ∃ j, x = nI j ∧ j ≤ m ∧ ∀ k, f k = if k < e ∨ 128 ≤ k then s1 k else if k < e + j then cr (k - e) else s1 (k - j), fun x _ => m - x.toNatClampNeg, ⟨0, rfl, Nat.zero_le _, fun k => ?_⟩, ?_⟩
  · by_cases c : k < e ∨ 128 ≤ k
    · rw [if_pos c]
    · rw [if_neg c, if_neg (by omega), Nat.sub_zero]
  rintro x f ⟨j, rfl, j1, hf⟩
  refine pk_le m j (fun c => h f ?_) (fun c => ?_)
  · rw [show m = j by omega]; exact hf
  · rw [nI_add, nI_clamp (by omega)]
    refine ⟨pk_in j 128 (by omega), m_opensPlace (by omega) (fun st' hs => ?_)⟩
    rintro _ rfl
    rw [nI_1]
    refine ⟨⟨j + 1, rfl, c, fun k => ?_⟩, ?_⟩
    · rw [hs k]
      by_cases c1 : k < e ∨ 128 ≤ k
      · rw [if_pos (show k < e + j ∨ 128 ≤ k by omega), if_pos c1, hf k, if_pos c1]
      · rw [if_neg c1]
        by_cases c2 : k < e + j
        · rw [if_pos (Or.inl c2), if_pos (show k < e + (j + 1) by omega), hf k, if_neg c1, if_pos c2]
        · rw [if_neg (show ¬ (k < e + j ∨ 128 ≤ k) by omega)]
          by_cases c3 : k = e + j
          · rw [if_pos c3, if_pos (by omega), show k - e = j by omega]
          · rw [if_neg c3, if_neg (by omega), hf (k - 1), if_neg (by omega), if_neg (by omega), show k - 1 - j = k - (j + 1) by omega]
    · dsimp only
      rw [nI_clamp (by omega), nI_clamp (by omega)]; omega
/-- weights moved up -/
theorem m_weightsUp {s1 : Nat → Int32} {t n : Nat} (h0 : 0 < n) (ht : t + n ≤ 64) {P : (Nat → Int32) → Prop} (h : ∀ f : Nat → Int32, (∀ k, f k = if 128 + (t + n) ≤ k ∧ k < 192 then s1 (k - n) else s1 k) → P f) : ∃ (I : Int32 → (Nat → Int32) → Prop) (mu : Int32 → (Nat → Int32) → Nat), I 63 s1 ∧ ∀ (x : Int32) (f : Nat → Int32), I x f → ((x < nI (t + n) → P f) ∧ (¬ x < nI (t + n) → (vp_in ((128 : Int32) + x - nI n) 579 ∧ (∀ y : Int32, y = f ((128 : Int32) + x - nI n).toNatClampNeg → (vp_in ((128 : Int32) + x) 579 ∧ (∀ z : Int32, z = x + (-1) → (I z (upd f ((128 : Int32) + x).toNatClampNeg y) ∧ mu z (upd f ((128 : Int32) + x).toNatClampNeg y) < mu x f))))))) := by
  refine ⟨fun x f => ∃ j, x = nI j ∧ t + n ≤ j + 1 ∧ j ≤ 63 ∧ ∀ k, f k = if 128 + j < k ∧ k < 192 then s1 (k - n) else s1 k, fun x _ => x.toNatClampNeg, ⟨63, rfl, ht, Nat.le_refl _, fun k => by rw [if_neg (by omega)]⟩, ?_⟩
  rintro x f ⟨j, rfl, j1, j2, hf⟩
  rw [show (128 : Int32) = nI 128 from rfl, nI_add]
  refine pk_lt j (t + n) (fun c => h f (fun k => ?_)) (fun c => ?_)
  · rw [hf k, show 128 + (t + n) = 128 + j + 1 by omega]; rfl
  · rw [pk_sub (show n ≤ 128 + j by omega)]
    refine ⟨pk_in (128 + j - n) 579 (by omega), ?_⟩
    rintro _ rfl
    refine ⟨pk_in (128 + j) 579 (by omega), ?_⟩
    rintro _ rfl
    obtain ⟨i, rfl⟩ : ∃ i, j = i + 1 := ⟨j - 1, by omega⟩
    rw [pk_m1, nI_clamp (by omega), nI_clamp (by omega)]
    refine ⟨⟨i, rfl, by omega, by omega, fun k => ?_⟩, ?_⟩
    · by_cases e : k = 128 + (i + 1)
      · rw [e, pk_us, if_pos (by omega), hf (128 + (i + 1) - n), if_neg (by omega)]
      · rw [pk_un e, hf k]
        by_cases e2 : 128 + (i + 1) < k ∧ k < 192
        · rw [if_pos e2, if_pos (by omega)]
        · rw [if_neg e2, if_neg (by omega)]
    · dsimp only
      rw [nI_clamp (by omega), nI_clamp (by omega)]; omega
def IS (B C : Nat → Bool) (e m k : Nat) : Bool := if k < e then B k else if k < e + m then C (k - e) else B (k - m)
theorem IS_lo {B C : Nat → Bool} {e m k : Nat} (h : k < e) : IS B C e m k = B k := if_pos h
theorem IS_mid {B C : Nat → Bool} {e m k : Nat} (h : k < m) : IS B C e m (e + k) = C k := by unfold IS; rw [if_neg (by omega), if_pos (by omega), show e + k - e = k by omega]
theorem IS_hi {B C : Nat → Bool} {e m k : Nat} (h : e ≤ k) : IS B C e m (k + m) = B k := by unfold IS; rw [if_neg (by omega), if_neg (by omega), show k + m - m = k by omega]
theorem IS_a {B C : Nat → Bool} {e m k : Nat} (h : k ≤ e) : ex (IS B C e m) k = ex B k := ex_cong (fun i hi => IS_lo (by omega))
theorem IS_b {B C : Nat → Bool} {e m : Nat} : ∀ n, n ≤ m → ex (IS B C e m) (e + n) = ex B e + ex C n
  | 0, _ => by rw [ex_0, Nat.add_zero, IS_a (Nat.le_refl _)]; omega
  | n + 1, h => by rw [← Nat.add_assoc, ex_s, ex_s, IS_b n (by omega), IS_mid (by omega)]; omega
theorem IS_c {B C : Nat → Bool} {e m : Nat} (hC : ex C m = 0) : ∀ n, ex (IS B C e m) (e + n + m) = ex B (e + n)
  | 0 => by rw [Nat.add_zero, IS_b m (Nat.le_refl _), hC]; omega
  | n + 1 => by rw [show e + (n + 1) + m = e + n + m + 1 by omega, ex_s, IS_c hC n, IS_hi (by omega), ← Nat.add_assoc, ex_s]
theorem IS_Tr {B C : Nat → Bool} {N e m : Nat} (hT : Tr B N) (hC : ex C m = 0) (hP : ∀ k, k ≤ m → 0 ≤ ex C k) (h0 : 0 < e) (he : e < N) (hN : N + m ≤ 128) : Tr (IS B C e m) (N + m) := by
  refine ⟨hN, ?_, fun p p1 p2 => ?_⟩
  · have := IS_c (B := B) (e := e) hC (N - e)
    rw [show e + (N - e) = N by omega, hT.2.1] at this
    exact this
  · rcases Nat.lt_or_ge p e with z | z
    · rw [IS_a (by omega)]; exact hT.2.2 p p1 (by omega)
    · rcases Nat.lt_or_ge m (p - e) with y | y
      · have := IS_c (B := B) (e := e) hC (p - e - m)
        rw [show e + (p - e - m) + m = p by omega] at this
        rw [this]; exact hT.2.2 _ (by omega) (by omega)
      · have := IS_b (B := B) (C := C) (e := e) (p - e) y
        rw [show e + (p - e) = p by omega] at this
        have h1 := hT.2.2 e h0 he
        have h2 := hP (p - e) y
        omega
theorem ex_shift (B : Nat → Bool) (p n : Nat) : ex (fun k => B (p + k)) n = ex B (p + n) - ex B p := by
  have := fb_ct_split B p n
  unfold ex
  omega
theorem FL_all {B : Nat → Bool} {N v : Nat} {w : Nat → Int32} (hT : Tr B N) (hv : v < fb_ct B N) : ∀ j, j ≤ sz B N v → ∃ B' N' w', FL B N w v (sz B N v) j B' N' w'
  | 0, _ => ⟨B, N, w, FL_0 hT hv⟩
  | j + 1, h => by
    obtain ⟨B', N', w', hF⟩ := FL_all (w := w) hT hv j (by omega)
    exact ⟨_, _, _, (FL_s hF (by omega)).2⟩
theorem RS_Tr {B : Nat → Bool} {N v : Nat} (hT : Tr B N) (hv : v < fb_ct B N) : Tr (RS B (kp B N v) (sz B N v)) (N - 2 * sz B N v) ∧ fb_ct (RS B (kp B N v) (sz B N v)) (N - 2 * sz B N v) + sz B N v = fb_ct B N := by
  obtain ⟨B', N', w', hF⟩ := FL_all (w := fun _ => 0) hT hv (sz B N v) (Nat.le_refl _)
  have e : B' = RS B (kp B N v) (sz B N v) := funext (FL_RS hF)
  have eN : N' = N - 2 * sz B N v := by have := hF.1; omega
  rw [← e, ← eN]
  exact ⟨hF.2.1, hF.2.2.1⟩
