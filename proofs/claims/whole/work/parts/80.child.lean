/-! ancestors, children: on the row -/
/-- q' is the open k above that at q -/
def AN (B : Nat → Bool) (q k q' : Nat) : Prop := q' ≤ q ∧ ex B q' = ex B q - k ∧ ∀ j, q' < j → j ≤ q → ex B q' < ex B j
theorem AN.opn {B : Nat → Bool} {q k q' : Nat} (h : AN B q k q') (hB : B q = true) : B q' = true := by
  obtain ⟨h1, h2, h3⟩ := h
  rcases Nat.eq_or_lt_of_le h1 with e | e
  · rw [e]; exact hB
  · have h4 := h3 (q' + 1) (by omega) (by omega)
    cases hb : B q' with
    | true => rfl
    | false => have := ex_f hb; omega
theorem AN.one {B : Nat → Bool} {q k a b : Nat} (h : AN B q k a) (h' : AN B q k b) : a = b := by
  rcases Nat.lt_trichotomy a b with z | z | z
  · have := h.2.2 b z h'.1; have := h.2.1; have := h'.2.1; omega
  · exact z
  · have := h'.2.2 a z h.1; have := h.2.1; have := h'.2.1; omega
theorem AN_ex {B : Nat → Bool} {q k : Nat} (hk : (k : Int) ≤ ex B q) : ∃ q', AN B q k q' := by
  obtain ⟨z, z1, z2, z3, z4⟩ := ex_up (B := B) (a := 0) (b := q) (d := ex B q - k) (Nat.zero_le _) (by rw [ex_0]; omega) (by omega)
  refine ⟨z, z2, z3, fun j j1 j2 => ?_⟩
  rcases z4 j j1 j2 with w | w
  · omega
  · exact w.elim
theorem AN.zero (B : Nat → Bool) (q : Nat) : AN B q 0 q := ⟨Nat.le_refl _, by omega, fun j j1 j2 => by omega⟩
theorem AN.more {B : Nat → Bool} {q k a b : Nat} (h : AN B q k a) (h' : AN B a 1 b) : AN B q (k + 1) b := by
  refine ⟨by have := h.1; have := h'.1; omega, by have := h.2.1; have := h'.2.1; omega, fun j j1 j2 => ?_⟩
  rcases Nat.lt_or_ge a j with z | z
  · have := h.2.2 j z j2; have := h'.2.1; omega
  · exact h'.2.2 j j1 z
theorem AN.isK {B : Nat → Bool} {q k a : Nat} (h : AN B q k a) : IsK B (q + 1) (ex B q - k) (nI a) := by
  obtain ⟨h1, h2, h3⟩ := h
  exact Or.inl ⟨a, by omega, h2, fun j j1 j2 => by have := h3 j j1 (by omega); omega, rfl⟩
/-- an ancestor's close is behind -/
theorem AN.in {B : Nat → Bool} {N q k a : Nat} (hT : Tr B N) (hq : q < N) (hB : B q = true) (h : AN B q k a) : sh B N q ≤ sh B N a := by
  obtain ⟨h1, h2, h3⟩ := h
  have ha := AN.opn ⟨h1, h2, h3⟩ hB
  obtain ⟨s1, s2, s3, s4⟩ := sh_spec hT hq hB
  obtain ⟨t1, t2, t3, t4⟩ := sh_spec hT (show a < N by omega) ha
  rcases Nat.lt_or_ge (sh B N a) (sh B N q) with z | z
  · have hex : ex B a ≤ ex B q := by omega
    rcases Nat.lt_or_ge (sh B N a) q with w | w
    · have := h3 (sh B N a + 1) (by omega) (by omega); omega
    · rcases Nat.eq_or_lt_of_le w with e | e
      · have := sh_false hT (show a < N by omega) ha
        rw [← e, hB] at this; cases this
      · have := s4 (sh B N a + 1) (by omega) (by omega); omega
  · exact z
/-- opens of the children of the open at q -/
def CQ (B : Nat → Bool) (q k : Nat) : Bool := B k && decide (ex B k = ex B q + 1)
noncomputable def cn (B : Nat → Bool) (N q : Nat) : Nat := fb_ct (CQ B q) (sh B N q) - fb_ct (CQ B q) (q + 1)
/-- where the i-th child begins; the close, behind the last -/
noncomputable def eg (B : Nat → Bool) (N q i : Nat) : Nat := if i < cn B N q then kp (CQ B q) N (fb_ct (CQ B q) (q + 1) + i) else sh B N q
theorem CQ_open {B : Nat → Bool} {q k : Nat} (h : CQ B q k = true) : B k = true ∧ ex B k = ex B q + 1 := by
  unfold CQ at h
  simp at h
  exact h
theorem eg_lt {B : Nat → Bool} {N q i : Nat} (hT : Tr B N) (hq : q < N) (hB : B q = true) (hi : i < cn B N q) : q < eg B N q i ∧ eg B N q i < sh B N q ∧ B (eg B N q i) = true ∧ ex B (eg B N q i) = ex B q + 1 ∧ fb_ct (CQ B q) (eg B N q i) = fb_ct (CQ B q) (q + 1) + i := by
  obtain ⟨s1, s2, s3, s4⟩ := sh_spec hT hq hB
  have hm := fb_ct_mono (CQ B q) (show sh B N q ≤ N by omega)
  have hi2 := hi
  unfold cn at hi2
  obtain ⟨o1, o2, o3⟩ := kp_spec (S := CQ B q) (N := N) (k := fb_ct (CQ B q) (q + 1) + i) (by omega)
  have e : eg B N q i = kp (CQ B q) N (fb_ct (CQ B q) (q + 1) + i) := if_pos hi
  rw [e]
  refine ⟨?_, ?_, (CQ_open o2).1, (CQ_open o2).2, o3⟩
  · rcases Nat.lt_or_ge q (kp (CQ B q) N (fb_ct (CQ B q) (q + 1) + i)) with z | z
    · exact z
    · have h1 := fb_ct_mono (CQ B q) (show kp (CQ B q) N (fb_ct (CQ B q) (q + 1) + i) + 1 ≤ q + 1 by omega)
      rw [fb_ct_succ _ (kp (CQ B q) N (fb_ct (CQ B q) (q + 1) + i)), if_pos o2] at h1
      omega
  · rcases Nat.lt_or_ge (kp (CQ B q) N (fb_ct (CQ B q) (q + 1) + i)) (sh B N q) with z | z
    · exact z
    · have h1 := fb_ct_mono (CQ B q) z
      omega
theorem eg_end {B : Nat → Bool} {N q i : Nat} (hi : cn B N q ≤ i) : eg B N q i = sh B N q := if_neg (by omega)
/-- within an open and its close, the points with the children's excess are opens of children, but for the close -/
theorem pt_child {B : Nat → Bool} {N q k : Nat} (hT : Tr B N) (hq : q < N) (hB : B q = true) (h1 : q < k) (h2 : k < sh B N q) (h3 : ex B k = ex B q + 1) : B k = true := by
  cases hb : B k with
  | true => rfl
  | false =>
    have := ex_f hb
    have := (sh_spec hT hq hB).2.2.2 (k + 1) (by omega) (by omega)
    omega
theorem ex_close {B : Nat → Bool} {N q : Nat} (hT : Tr B N) (hq : q < N) (hB : B q = true) : ex B (sh B N q) = ex B q + 1 := by
  have h1 := sh_spec hT hq hB
  have h2 := ex_f (sh_false hT hq hB)
  omega
/-- from one edge to the next -/
theorem eg_next {B : Nat → Bool} {N q i : Nat} (hT : Tr B N) (hq : q < N) (hB : B q = true) (hi : i < cn B N q) : IsF B N (eg B N q i) (ex B q + 1) (nI (eg B N q (i + 1))) := by
  obtain ⟨s1, s2, s3, s4⟩ := sh_spec hT hq hB
  obtain ⟨a1, a2, a3, a4, a5⟩ := eg_lt hT hq hB hi
  have hcq : ∀ k, q < k → k < sh B N q → ex B k = ex B q + 1 → CQ B q k = true := fun k k1 k2 k3 => by
    unfold CQ; rw [pt_child hT hq hB k1 k2 k3, decide_eq_true k3]; rfl
  have c0 : CQ B q (eg B N q i) = true := hcq _ a1 a2 a4
  rcases Nat.lt_or_ge (i + 1) (cn B N q) with z | z
  · obtain ⟨b1, b2, b3, b4, b5⟩ := eg_lt hT hq hB z
    have hlt : eg B N q i < eg B N q (i + 1) := by
      rcases Nat.lt_or_ge (eg B N q i) (eg B N q (i + 1)) with w | w
      · exact w
      · have := fb_ct_mono (CQ B q) w; omega
    refine Or.inl ⟨_, hlt, by omega, b4, fun k k1 k2 e => ?_, rfl⟩
    have hk := hcq k (by omega) (by omega) e
    have h1 := fb_ct_mono (CQ B q) (show eg B N q i + 1 ≤ k from k1)
    rw [fb_ct_succ, if_pos c0] at h1
    have h2 := fb_ct_mono (CQ B q) (show k + 1 ≤ eg B N q (i + 1) from k2)
    rw [fb_ct_succ, if_pos hk] at h2
    omega
  · rw [eg_end z]
    refine Or.inl ⟨_, a2, by omega, ex_close hT hq hB, fun k k1 k2 e => ?_, rfl⟩
    have hk := hcq k (by omega) (by omega) e
    have h1 := fb_ct_mono (CQ B q) (show eg B N q i + 1 ≤ k from k1)
    rw [fb_ct_succ, if_pos c0] at h1
    have h2 := fb_ct_mono (CQ B q) (show k + 1 ≤ sh B N q from k2)
    rw [fb_ct_succ, if_pos hk] at h2
    unfold cn at hi z
    omega
/-- the first edge is right behind the open -/
theorem eg_0 {B : Nat → Bool} {N q : Nat} (hT : Tr B N) (hq : q < N) (hB : B q = true) : eg B N q 0 = q + 1 := by
  obtain ⟨s1, s2, s3, s4⟩ := sh_spec hT hq hB
  have h1 := ex_t hB
  cases hb : B (q + 1) with
  | true =>
    have hne : q + 1 ≠ sh B N q := fun e => by have := sh_false hT hq hB; rw [← e, hb] at this; cases this
    have c0 : CQ B q (q + 1) = true := by unfold CQ; rw [hb, decide_eq_true h1]; rfl
    have hc : 0 < cn B N q := by
      unfold cn
      have h2 := fb_ct_mono (CQ B q) (show q + 1 + 1 ≤ sh B N q by omega)
      rw [fb_ct_succ _ (q + 1), if_pos c0] at h2
      omega
    unfold eg
    rw [if_pos hc]
    exact kp_eq (by omega) c0 (by omega)
  | false =>
    have h2 := ex_f hb
    have e : sh B N q = q + 1 := sh_eq (by omega) (by omega) (by omega) (fun k k1 k2 => by rw [show k = q + 1 by omega]; omega)
    rw [eg_end, e]
    unfold cn
    rw [e]
    omega
/-- how many points have the children's excess -/
theorem pw_child {B : Nat → Bool} {N q : Nat} (hT : Tr B N) (hq : q < N) (hB : B q = true) : pw B (ex B q + 1) (q + 1) (sh B N q) = cn B N q + 1 := by
  obtain ⟨s1, s2, s3, s4⟩ := sh_spec hT hq hB
  have key : ∀ n, q + 1 + n ≤ sh B N q → fb_ct (fun k => decide (ex B k = ex B q + 1)) (q + 1 + n) + fb_ct (CQ B q) (q + 1) = fb_ct (CQ B q) (q + 1 + n) + fb_ct (fun k => decide (ex B k = ex B q + 1)) (q + 1) := by
    intro n
    induction n with
    | zero => intro _; rw [Nat.add_zero]; omega
    | succ n ih =>
      intro h
      have ih := ih (by omega)
      rw [show q + 1 + (n + 1) = q + 1 + n + 1 by omega, fb_ct_succ _ (q + 1 + n), fb_ct_succ (CQ B q) (q + 1 + n)]
      have : CQ B q (q + 1 + n) = decide (ex B (q + 1 + n) = ex B q + 1) := by
        unfold CQ
        by_cases c : ex B (q + 1 + n) = ex B q + 1
        · rw [pt_child hT hq hB (by omega) (by omega) c]; simp
        · rw [decide_eq_false c]; simp
      rw [this]
      omega
  have h1 := key (sh B N q - (q + 1)) (by omega)
  rw [show q + 1 + (sh B N q - (q + 1)) = sh B N q by omega] at h1
  unfold pw cn
  rw [fb_ct_succ, if_pos (decide_eq_true (ex_close hT hq hB))]
  have h2 := fb_ct_mono (CQ B q) (show q + 1 ≤ sh B N q by omega)
  omega
