/-! searches over a row with true summaries -/
theorem x_searchOn {low high : Int64} {N p : Nat} {g lo hi : Nat → Int32} {y : Int32} (hS : SM (bb low high) N g lo hi) (hN : N ≤ 128) (hp : p ≤ N) {post : Int32 → Prop} (h : ∀ r, IsF (bb low high) N p y.toInt r → post r) : wX1_searchOn low high (nI N) g lo hi (nI p) y post := by
  unfold wX1_searchOn
  refine x_excessAt (by omega) ?_
  obtain ⟨I, hI⟩ : ∃ I : Int32 → Int32 → Prop, ∀ e k, I e k ↔ ∃ j, p ≤ j ∧ j ≤ N + 16 ∧ k = nI j ∧ (j ≤ N → e = iI (ex (bb low high) j)) ∧ ∀ q, p < q → q ≤ j → q ≤ N → ex (bb low high) q ≠ y.toInt := ⟨_, fun _ _ => Iff.rfl⟩
  obtain ⟨mu, hmu⟩ : ∃ mu : Int32 → Int32 → Nat, ∀ e k, mu e k = N + 16 - k.toNatClampNeg := ⟨_, fun _ _ => rfl⟩
  refine ⟨I, mu, (hI _ _).mpr ⟨p, Nat.le_refl _, by omega, rfl, fun _ => rfl, fun q q1 q2 => by omega⟩, ?_⟩
  intro e k hIk
  obtain ⟨j, j1, j2, rfl, je, jn⟩ := (hI e k).mp hIk
  clear hIk
  refine pk_le N j (fun c => h _ (Or.inr ⟨fun q q1 q2 => jn q q1 (by omega) q2, rfl⟩)) (fun c => ?_)
  have je := je (by omega)
  subst je
  have hb1 := ex_b (bb low high) (j + 1)
  have st : wX1_stepAt low high (nI j) (fun r => ∀ x : Int32, x = iI (ex (bb low high) j) + r → ∀ x' : Int32, x' = nI j + 1 → ((¬ x = y → (I x x' ∧ mu x x' < mu (iI (ex (bb low high) j)) (nI j))) ∧ (x = y → post x'))) := by
    refine x_stepAt (by omega) ?_
    rintro _ rfl _ rfl
    rw [step_add, nI_1]
    refine ⟨fun c2 => ⟨(hI _ _).mpr ⟨j + 1, by omega, by omega, rfl, fun _ => rfl, fun q q1 q2 q3 => ?_⟩, ?_⟩, fun c2 => h _ (Or.inl ⟨j + 1, by omega, by omega, ?_, fun q q1 q2 => jn q q1 (by omega) (by omega), rfl⟩)⟩
    · rcases Nat.lt_or_ge j q with z | z
      · rw [show q = j + 1 by omega]
        exact fun e => c2 ((eqI (by omega) (by omega)).mpr e)
      · exact jn q q1 z q3
    · rw [hmu, hmu, nI_clamp (by omega), nI_clamp (by omega)]; omega
    · exact (eqI (by omega) (by omega)).mp c2
  rw [nI_rem16 (by omega), nI_div16 (by omega)]
  refine pk_ne (j % 16) 0 (fun _ => st) (fun c2 => ?_)
  have hb : 16 * (j / 16) = j := by omega
  refine x_reaches hS (b := j / 16) (by omega) hN ⟨fun _ => st, fun z => absurd z (by decide)⟩ (fun hno => ⟨fun z => absurd rfl z, fun _ => ⟨pk_in (j / 16) 8 (by omega), ?_⟩⟩)
  rw [hb] at hno
  obtain ⟨m, M, e1, -⟩ := hS (j / 16) (by omega)
  rw [hb] at e1
  rintro _ rfl _ rfl
  rw [nI_clamp (by omega), e1, iI_add, show nI j + 16 = nI (j + 16) from nI_add j 16]
  refine ⟨(hI _ _).mpr ⟨j + 16, by omega, by omega, rfl, fun z => ?_, fun q q1 q2 q3 => ?_⟩, ?_⟩
  · rw [show min N (j + 16) = j + 16 by omega]; congr 1; omega
  · rcases Nat.lt_or_ge j q with z | z
    · intro e
      have hbq := ex_b (bb low high) q
      have e5 : y = iI (ex (bb low high) q) := ((eqI (by omega) (by omega)).mpr e).symm
      exact hno q z (by omega) (by rw [e5, iI_sub])
    · exact jn q q1 z q3
  · rw [hmu, hmu, nI_clamp (by omega), nI_clamp (by omega)]; omega
theorem x_searchBack {low high : Int64} {N p : Nat} {g lo hi : Nat → Int32} {y : Int32} (hS : SM (bb low high) N g lo hi) (hN : N ≤ 128) (hp : p ≤ N) {post : Int32 → Prop} (h : ∀ r, IsK (bb low high) p y.toInt r → post r) : wX1_searchBack low high g lo hi (nI p) y post := by
  unfold wX1_searchBack
  refine x_excessAt (by omega) ?_
  obtain ⟨I, hI⟩ : ∃ I : Int32 → Int32 → Prop, ∀ e k, I e k ↔ ∃ j, j ≤ p ∧ k = nI j ∧ e = iI (ex (bb low high) j) ∧ ∀ q, j ≤ q → q < p → ex (bb low high) q ≠ y.toInt := ⟨_, fun _ _ => Iff.rfl⟩
  obtain ⟨mu, hmu⟩ : ∃ mu : Int32 → Int32 → Nat, ∀ e k, mu e k = k.toNatClampNeg := ⟨_, fun _ _ => rfl⟩
  refine ⟨I, mu, (hI _ _).mpr ⟨p, Nat.le_refl _, rfl, rfl, fun q q1 q2 => by omega⟩, ?_⟩
  intro e k hIk
  obtain ⟨j, j1, rfl, rfl, jn⟩ := (hI e k).mp hIk
  clear hIk
  refine pk_le j 0 (fun c => h _ (Or.inr ⟨fun q q1 => jn q (by omega) q1, rfl⟩)) (fun c => ?_)
  rintro _ rfl
  rw [show nI j + (-1) = nI (j - 1) from by rw [nI_iI, iI_m1, nI_iI]; congr 1; omega]
  refine x_stepAt (by omega) ?_
  rintro _ rfl
  have hs := step_sub (bb low high) (j - 1)
  rw [show j - 1 + 1 = j by omega] at hs
  rw [hs]
  obtain ⟨I2, hI2⟩ : ∃ I : Int32 → Int32 → Prop, ∀ e k, I e k ↔ ∃ i, i < j ∧ k = nI i ∧ e = iI (ex (bb low high) i) ∧ ∀ q, i < q → q < p → ex (bb low high) q ≠ y.toInt := ⟨_, fun _ _ => Iff.rfl⟩
  refine ⟨I2, mu, (hI2 _ _).mpr ⟨j - 1, by omega, rfl, rfl, fun q q1 q2 => jn q (by omega) q2⟩, ?_⟩
  intro e k hIk
  obtain ⟨i, i1, rfl, rfl, hin⟩ := (hI2 e k).mp hIk
  clear hIk
  have hbi := ex_b (bb low high) i
  -- out of the blocks: is it here?
  have out : (¬ iI (ex (bb low high) i) = y → (I (iI (ex (bb low high) i)) (nI i) ∧ mu (iI (ex (bb low high) i)) (nI i) < mu (iI (ex (bb low high) j)) (nI j))) ∧ (iI (ex (bb low high) i) = y → post (nI i)) := by
    refine ⟨fun c2 => ⟨(hI _ _).mpr ⟨i, by omega, rfl, rfl, fun q q1 q2 => ?_⟩, ?_⟩, fun c2 => h _ (Or.inl ⟨i, by omega, (eqI (by omega) (by omega)).mp c2, fun q q1 q2 => hin q q1 q2, rfl⟩)⟩
    · rcases Nat.eq_or_lt_of_le q1 with z | z
      · rw [← z]; exact fun e => c2 ((eqI (by omega) (by omega)).mpr e)
      · exact hin q z q2
    · rw [hmu, hmu, nI_clamp (by omega), nI_clamp (by omega)]; omega
  refine pk_lt i 16 (fun _ => out) (fun c2 => ?_)
  rw [nI_rem16 (by omega), nI_div16 (by omega)]
  refine pk_ne (i % 16) 0 (fun _ => out) (fun c3 => ?_)
  rw [show nI (i / 16) - 1 = nI (i / 16 - 1) from pk_sub (b := 1) (by omega)]
  refine ⟨pk_in (i / 16 - 1) 8 (by omega), ?_⟩
  have hb : 16 * (i / 16 - 1) + 16 = i := by omega
  obtain ⟨m, M, e1, -⟩ := hS (i / 16 - 1) (by omega)
  rw [show min N (16 * (i / 16 - 1) + 16) = i by omega] at e1
  refine x_reaches hS (b := i / 16 - 1) (by omega) hN ⟨fun _ => out, fun z => absurd z (by decide)⟩ (fun hno => ⟨fun z => absurd rfl z, fun _ => ?_⟩)
  rw [show min N (16 * (i / 16 - 1) + 16) = i by omega, nI_clamp (by omega), e1] at hno
  rintro _ rfl
  rw [show nI i + (-16) = nI (i - 16) from by rw [nI_iI, show (-16 : Int32) = iI (-16) from rfl, iI_add, nI_iI]; congr 1; omega, nI_div16 (by omega)]
  refine ⟨pk_in ((i - 16) / 16) 8 (by omega), ?_⟩
  rintro _ rfl
  rw [nI_clamp (by omega), show (i - 16) / 16 = i / 16 - 1 by omega, e1, iI_sub]
  refine ⟨(hI2 _ _).mpr ⟨i - 16, by omega, rfl, ?_, fun q q1 q2 => ?_⟩, ?_⟩
  · rw [show 16 * (i / 16 - 1) = i - 16 by omega]; congr 1; omega
  · rcases Nat.lt_or_ge i q with z | z
    · exact hin q z q2
    · intro e
      have hbq := ex_b (bb low high) q
      have e5 : y = iI (ex (bb low high) q) := ((eqI (by omega) (by omega)).mpr e).symm
      refine hno q (by omega) z ?_
      rw [e5, iI_sub, iI_add]; congr 1; omega
  · rw [hmu, hmu, nI_clamp (by omega), nI_clamp (by omega)]; omega
/-- the partner of a place -/
def IsP (B : Nat → Bool) (N p : Nat) (r : Nat) : Prop := (B p = true ∧ r = sh B N p) ∨ (B p = false ∧ r < N ∧ B r = true ∧ sh B N r = p)
theorem pt_open {B : Nat → Bool} {N p : Nat} (hT : Tr B N) (hp : p < N) (hB : B p = false) : ∃ q, q < p ∧ ex B q = ex B (p + 1) ∧ B q = true ∧ sh B N q = p ∧ ∀ k, q < k → k ≤ p → ex B q < ex B k := by
  have h1 := ex_f hB
  have h2 := hT.nn (show p + 1 ≤ N by omega)
  obtain ⟨k, k1, k2, k3, k4⟩ := ex_up (B := B) (a := 0) (b := p) (d := ex B (p + 1)) (by omega) (by rw [ex_0]; exact h2) (by omega)
  have k5 : k ≠ p := fun e => by rw [e] at k3; omega
  have k6 : ∀ j, k < j → j ≤ p → ex B k < ex B j := fun j j1 j2 => by
    rcases k4 j j1 j2 with z | z
    · omega
    · exact z.elim
  refine ⟨k, by omega, k3, ?_, sh_eq (by omega) hp k3.symm k6, k6⟩
  have h3 := k6 (k + 1) (by omega) (by omega)
  cases hb : B k with
  | true => rfl
  | false => have := ex_f hb; omega
theorem x_partnerOf {low high : Int64} {N p : Nat} {g lo hi : Nat → Int32} (hS : SM (bb low high) N g lo hi) (hT : Tr (bb low high) N) (hp : p < N) {post : Int32 → Prop} (h : ∀ r, IsP (bb low high) N p r → post (nI r)) : wX1_partnerOf low high (nI N) g lo hi (nI p) post := by
  have hN := hT.1
  unfold wX1_partnerOf
  refine x_bitAt (by omega) ?_
  have hbp := ex_b (bb low high) p
  have hbp1 := ex_b (bb low high) (p + 1)
  cases hb : bb low high p with
  | true =>
    rw [if_pos rfl]
    refine ⟨fun z => absurd rfl z, fun _ => x_excessAt (by omega) (x_searchOn hS hN (by omega) (fun r hr => ?_))⟩
    rw [iI_toInt (by omega) (by omega)] at hr
    obtain ⟨s1, s2, s3, s4⟩ := sh_spec hT hp hb
    have e : r = nI (sh (bb low high) N p + 1) := hr.one (Or.inl ⟨_, by omega, by omega, s3, fun k k1 k2 => by have := s4 k k1 (by omega); omega, rfl⟩)
    rw [e, show nI (sh (bb low high) N p + 1) - 1 = nI (sh (bb low high) N p) from nI_pred _]
    exact h _ (Or.inl ⟨hb, rfl⟩)
  | false =>
    rw [if_neg (by decide)]
    refine ⟨fun _ => ?_, fun z => absurd z (by decide)⟩
    rw [nI_1]
    refine x_excessAt (by omega) (x_searchBack hS hN (by omega) (fun r hr => ?_))
    rw [iI_toInt (by omega) (by omega)] at hr
    obtain ⟨q, q1, q2, q3, q4, q5⟩ := pt_open hT hp hb
    have e : r = nI q := hr.one (Or.inl ⟨q, q1, q2, fun k k1 k2 => by have := q5 k k1 (by omega); omega, rfl⟩)
    rw [e]
    exact h _ (Or.inr ⟨hb, by omega, q3, q4⟩)
/-- the close of an open -/
theorem x_closeOf' {low high : Int64} {N p : Nat} {g lo hi : Nat → Int32} (hS : SM (bb low high) N g lo hi) (hT : Tr (bb low high) N) (hp : p < N) (hb : bb low high p = true) {post : Int32 → Prop} (h : post (nI (sh (bb low high) N p))) : wX1_partnerOf low high (nI N) g lo hi (nI p) post := by
  refine x_partnerOf hS hT hp (fun r hr => ?_)
  rcases hr with ⟨-, rfl⟩ | ⟨z, -⟩
  · exact h
  · rw [hb] at z; cases z
/-- the least (or the greatest) excess at points i to j -/
def IsMn (B : Nat → Bool) (i j : Nat) (m : Int) : Prop := (∃ q, i ≤ q ∧ q ≤ j ∧ ex B q = m) ∧ ∀ q, i ≤ q → q ≤ j → m ≤ ex B q
def IsMx (B : Nat → Bool) (i j : Nat) (m : Int) : Prop := (∃ q, i ≤ q ∧ q ≤ j ∧ ex B q = m) ∧ ∀ q, i ≤ q → q ≤ j → ex B q ≤ m
theorem IsMn.one {B : Nat → Bool} {i j : Nat} {m n : Int} (h : IsMn B i j m) (h' : IsMn B i j n) : m = n := by
  obtain ⟨⟨q, q1, q2, q3⟩, q4⟩ := h
  obtain ⟨⟨r, r1, r2, r3⟩, r4⟩ := h'
  have := q4 r r1 r2
  have := r4 q q1 q2
  omega
theorem IsMx.one {B : Nat → Bool} {i j : Nat} {m n : Int} (h : IsMx B i j m) (h' : IsMx B i j n) : m = n := by
  obtain ⟨⟨q, q1, q2, q3⟩, q4⟩ := h
  obtain ⟨⟨r, r1, r2, r3⟩, r4⟩ := h'
  have := q4 r r1 r2
  have := r4 q q1 q2
  omega
theorem IsMn.bd {B : Nat → Bool} {i j : Nat} {m : Int} (h : IsMn B i j m) : -(j : Int) ≤ m ∧ m ≤ j := by
  obtain ⟨⟨q, q1, q2, q3⟩, q4⟩ := h
  have := ex_b B q
  omega
theorem IsMx.bd {B : Nat → Bool} {i j : Nat} {m : Int} (h : IsMx B i j m) : -(j : Int) ≤ m ∧ m ≤ j := by
  obtain ⟨⟨q, q1, q2, q3⟩, q4⟩ := h
  have := ex_b B q
  omega
theorem ite_min {a b : Int} (ha : -1000 ≤ a ∧ a ≤ 1000) (hb : -1000 ≤ b ∧ b ≤ 1000) : (if iI a < iI b then iI a else iI b) = iI (min a b) := by
  by_cases c : a < b
  · rw [if_pos ((iI_lt (by omega) (by omega) (by omega) (by omega)).mpr c)]; congr 1; omega
  · rw [if_neg (fun z => c ((iI_lt (by omega) (by omega) (by omega) (by omega)).mp z))]; congr 1; omega
theorem ite_max {a b : Int} (ha : -1000 ≤ a ∧ a ≤ 1000) (hb : -1000 ≤ b ∧ b ≤ 1000) : (if iI b < iI a then iI a else iI b) = iI (max a b) := by
  by_cases c : b < a
  · rw [if_pos ((iI_lt (by omega) (by omega) (by omega) (by omega)).mpr c)]; congr 1; omega
  · rw [if_neg (fun z => c ((iI_lt (by omega) (by omega) (by omega) (by omega)).mp z))]; congr 1; omega
theorem x_extremeMn {low high : Int64} {N i j : Nat} {g lo hi : Nat → Int32} (hS : SM (bb low high) N g lo hi) (hN : N ≤ 128) (hij : i ≤ j) (hj : j ≤ N) {post : Int32 → Prop} (h : ∀ m, IsMn (bb low high) i j m → post (iI m)) : wX1_extremeIn low high g lo hi (nI i) (nI j) (0 : Int32) post := by
  unfold wX1_extremeIn
  refine x_excessAt (by omega) ?_
  obtain ⟨I, hI⟩ : ∃ I : Int32 → Int32 → Int32 → Prop, ∀ e b k, I e b k ↔ ∃ q m, i ≤ q ∧ q ≤ j ∧ k = nI q ∧ e = iI (ex (bb low high) q) ∧ b = iI m ∧ IsMn (bb low high) i q m := ⟨_, fun _ _ _ => Iff.rfl⟩
  obtain ⟨mu, hmu⟩ : ∃ mu : Int32 → Int32 → Int32 → Nat, ∀ e b k, mu e b k = j - k.toNatClampNeg := ⟨_, fun _ _ _ => rfl⟩
  refine ⟨I, mu, (hI _ _ _).mpr ⟨i, _, Nat.le_refl _, hij, rfl, rfl, rfl, ⟨i, Nat.le_refl _, Nat.le_refl _, rfl⟩, fun q q1 q2 => by rw [show q = i by omega]; exact Int.le_refl _⟩, ?_⟩
  intro e b k hIk
  obtain ⟨q, m, q1, q2, rfl, rfl, rfl, hm⟩ := (hI e b k).mp hIk
  clear hIk
  refine pk_le j q (fun c => ?_) (fun c => ?_)
  · rw [show q = j by omega] at hm; exact h m hm
  · have hb1 := ex_b (bb low high) (q + 1)
    have hbm := hm.bd
    have st : wX1_stepAt low high (nI q) (fun r => ∀ x : Int32, x = iI (ex (bb low high) q) + r → ∀ x' : Int32, x' = nI q + 1 → (((0 : Int32) = 0 → ∀ y : Int32, y = (if x < iI m then x else iI m) → (I x y x' ∧ mu x y x' < mu (iI (ex (bb low high) q)) (iI m) (nI q))) ∧ (¬ (0 : Int32) = 0 → ∀ y : Int32, y = (if iI m < x then x else iI m) → (I x y x' ∧ mu x y x' < mu (iI (ex (bb low high) q)) (iI m) (nI q))))) := by
      refine x_stepAt (by omega) ?_
      rintro _ rfl _ rfl
      rw [step_add, nI_1]
      refine ⟨fun _ => ?_, fun z => absurd rfl z⟩
      rintro _ rfl
      rw [ite_min (by omega) (by omega)]
      refine ⟨(hI _ _ _).mpr ⟨q + 1, _, by omega, by omega, rfl, rfl, rfl, ?_⟩, by rw [hmu, hmu, nI_clamp (by omega), nI_clamp (by omega)]; omega⟩
      obtain ⟨⟨z, z1, z2, z3⟩, z4⟩ := hm
      refine ⟨?_, fun k k1 k2 => ?_⟩
      · by_cases c9 : ex (bb low high) (q + 1) < m
        · exact ⟨q + 1, by omega, Nat.le_refl _, by omega⟩
        · exact ⟨z, z1, by omega, by omega⟩
      · rcases Nat.lt_or_ge q k with w | w
        · rw [show k = q + 1 by omega]; omega
        · have := z4 k k1 w; omega
    rw [nI_rem16 (by omega), nI_div16 (by omega), show nI q + 16 = nI (q + 16) from nI_add q 16]
    refine pk_ne (q % 16) 0 (fun _ => st) (fun c2 => pk_lt j (q + 16) (fun _ => st) (fun c3 => ?_))
    have hb : 16 * (q / 16) = q := by omega
    obtain ⟨u, v, e1, e2, e3, e4, e5, e6, e7, e8⟩ := hS (q / 16) (by omega)
    rw [hb, show min N (q + 16) = q + 16 by omega] at e1 e6 e7 e8
    have hbq := ex_b (bb low high) q
    have huv := e6 (q + 1) (by omega) (by omega)
    rintro _ rfl
    rw [nI_clamp (by omega), e1, e2, e3]
    refine ⟨fun _ => ⟨pk_in (q / 16) 8 (by omega), ?_⟩, fun z => absurd rfl z⟩
    rintro _ rfl
    refine ⟨pk_in (q / 16) 8 (by omega), ?_⟩
    rintro _ rfl x rfl
    rw [iI_add, iI_add]
    refine ⟨fun _ => ?_, fun z => absurd rfl z⟩
    rintro _ rfl
    rw [ite_min (by omega) (by omega), show ex (bb low high) q + (ex (bb low high) (q + 16) - ex (bb low high) q) = ex (bb low high) (q + 16) by omega]
    refine ⟨(hI _ _ _).mpr ⟨q + 16, _, by omega, by omega, rfl, rfl, rfl, ?_⟩, by rw [hmu, hmu, nI_clamp (by omega), nI_clamp (by omega)]; omega⟩
    obtain ⟨⟨z, z1, z2, z3⟩, z4⟩ := hm
    obtain ⟨y, y1, y2, y3⟩ := e7
    refine ⟨?_, fun k k1 k2 => ?_⟩
    · by_cases c9 : ex (bb low high) q + u < m
      · exact ⟨y, by omega, by omega, by omega⟩
      · exact ⟨z, z1, by omega, by omega⟩
    · rcases Nat.lt_or_ge q k with w | w
      · have := e6 k w (by omega); omega
      · have := z4 k k1 w; omega
theorem x_extremeMx {low high : Int64} {N i j : Nat} {g lo hi : Nat → Int32} (hS : SM (bb low high) N g lo hi) (hN : N ≤ 128) (hij : i ≤ j) (hj : j ≤ N) {post : Int32 → Prop} (h : ∀ m, IsMx (bb low high) i j m → post (iI m)) : wX1_extremeIn low high g lo hi (nI i) (nI j) (1 : Int32) post := by
  unfold wX1_extremeIn
  refine x_excessAt (by omega) ?_
  obtain ⟨I, hI⟩ : ∃ I : Int32 → Int32 → Int32 → Prop, ∀ e b k, I e b k ↔ ∃ q m, i ≤ q ∧ q ≤ j ∧ k = nI q ∧ e = iI (ex (bb low high) q) ∧ b = iI m ∧ IsMx (bb low high) i q m := ⟨_, fun _ _ _ => Iff.rfl⟩
  obtain ⟨mu, hmu⟩ : ∃ mu : Int32 → Int32 → Int32 → Nat, ∀ e b k, mu e b k = j - k.toNatClampNeg := ⟨_, fun _ _ _ => rfl⟩
  refine ⟨I, mu, (hI _ _ _).mpr ⟨i, _, Nat.le_refl _, hij, rfl, rfl, rfl, ⟨i, Nat.le_refl _, Nat.le_refl _, rfl⟩, fun q q1 q2 => by rw [show q = i by omega]; exact Int.le_refl _⟩, ?_⟩
  intro e b k hIk
  obtain ⟨q, m, q1, q2, rfl, rfl, rfl, hm⟩ := (hI e b k).mp hIk
  clear hIk
  refine pk_le j q (fun c => ?_) (fun c => ?_)
  · rw [show q = j by omega] at hm; exact h m hm
  · have hb1 := ex_b (bb low high) (q + 1)
    have hbm := hm.bd
    have st : wX1_stepAt low high (nI q) (fun r => ∀ x : Int32, x = iI (ex (bb low high) q) + r → ∀ x' : Int32, x' = nI q + 1 → (((1 : Int32) = 0 → ∀ y : Int32, y = (if x < iI m then x else iI m) → (I x y x' ∧ mu x y x' < mu (iI (ex (bb low high) q)) (iI m) (nI q))) ∧ (¬ (1 : Int32) = 0 → ∀ y : Int32, y = (if iI m < x then x else iI m) → (I x y x' ∧ mu x y x' < mu (iI (ex (bb low high) q)) (iI m) (nI q))))) := by
      refine x_stepAt (by omega) ?_
      rintro _ rfl _ rfl
      rw [step_add, nI_1]
      refine ⟨fun z => absurd z (by decide), fun _ => ?_⟩
      rintro _ rfl
      rw [ite_max (by omega) (by omega)]
      refine ⟨(hI _ _ _).mpr ⟨q + 1, _, by omega, by omega, rfl, rfl, rfl, ?_⟩, by rw [hmu, hmu, nI_clamp (by omega), nI_clamp (by omega)]; omega⟩
      obtain ⟨⟨z, z1, z2, z3⟩, z4⟩ := hm
      refine ⟨?_, fun k k1 k2 => ?_⟩
      · by_cases c9 : m < ex (bb low high) (q + 1)
        · exact ⟨q + 1, by omega, Nat.le_refl _, by omega⟩
        · exact ⟨z, z1, by omega, by omega⟩
      · rcases Nat.lt_or_ge q k with w | w
        · rw [show k = q + 1 by omega]; omega
        · have := z4 k k1 w; omega
    rw [nI_rem16 (by omega), nI_div16 (by omega), show nI q + 16 = nI (q + 16) from nI_add q 16]
    refine pk_ne (q % 16) 0 (fun _ => st) (fun c2 => pk_lt j (q + 16) (fun _ => st) (fun c3 => ?_))
    have hb : 16 * (q / 16) = q := by omega
    obtain ⟨u, v, e1, e2, e3, e4, e5, e6, e7, e8⟩ := hS (q / 16) (by omega)
    rw [hb, show min N (q + 16) = q + 16 by omega] at e1 e6 e7 e8
    have hbq := ex_b (bb low high) q
    have huv := e6 (q + 1) (by omega) (by omega)
    rintro _ rfl
    rw [nI_clamp (by omega), e1, e2, e3]
    refine ⟨fun z => absurd z (by decide), fun _ => ⟨pk_in (q / 16) 8 (by omega), ?_⟩⟩
    rintro _ rfl
    refine ⟨pk_in (q / 16) 8 (by omega), ?_⟩
    rintro _ rfl x rfl
    rw [iI_add, iI_add]
    refine ⟨fun z => absurd z (by decide), fun _ => ?_⟩
    rintro _ rfl
    rw [ite_max (by omega) (by omega), show ex (bb low high) q + (ex (bb low high) (q + 16) - ex (bb low high) q) = ex (bb low high) (q + 16) by omega]
    refine ⟨(hI _ _ _).mpr ⟨q + 16, _, by omega, by omega, rfl, rfl, rfl, ?_⟩, by rw [hmu, hmu, nI_clamp (by omega), nI_clamp (by omega)]; omega⟩
    obtain ⟨⟨z, z1, z2, z3⟩, z4⟩ := hm
    obtain ⟨y, y1, y2, y3⟩ := e8
    refine ⟨?_, fun k k1 k2 => ?_⟩
    · by_cases c9 : m < ex (bb low high) q + v
      · exact ⟨y, by omega, by omega, by omega⟩
      · exact ⟨z, z1, by omega, by omega⟩
    · rcases Nat.lt_or_ge q k with w | w
      · have := e6 k w (by omega); omega
      · have := z4 k k1 w; omega
