/-! the reference's edits of places -/
theorem m_opensPlace {st : Nat → Int32} {p : Nat} {x : Int32} (hp : p ≤ 127) {post : (Nat → Int32) → Prop} (h : ∀ st' : Nat → Int32, (∀ k, st' k = if k < p ∨ 128 ≤ k then st k else if k = p then x else st (k - 1)) → post st') : wX6_opensPlace st (nI p) x post := by
  unfold wX6_opensPlace
  refine ⟨fun y f => ∃ j, y = nI j ∧ p ≤ j ∧ j ≤ 127 ∧ ∀ k, f k = if j < k ∧ k < 128 then st (k - 1) else st k, fun y _ => y.toNatClampNeg, ⟨127, rfl, hp, Nat.le_refl _, fun k => by rw [if_neg (by omega)]⟩, ?_⟩
  rintro y f ⟨j, rfl, j1, j2, hf⟩
  refine pk_le j p (fun c => ⟨pk_in p 579 (by omega), h _ (fun k => ?_)⟩) (fun c => ?_)
  · rw [nI_clamp (by omega)]
    by_cases e : k = p
    · rw [e, pk_us, if_neg (by omega), if_pos rfl]
    · rw [pk_un e, hf k]
      by_cases c2 : k < p ∨ 128 ≤ k
      · rw [if_pos c2, if_neg (by omega)]
      · rw [if_neg c2, if_neg e, if_pos (by omega)]
  · obtain ⟨i, rfl⟩ : ∃ i, j = i + 1 := ⟨j - 1, by omega⟩
    rw [nI_pred]
    refine ⟨pk_in i 579 (by omega), ?_⟩
    rw [nI_clamp (by omega)]
    rintro _ rfl
    refine ⟨pk_in (i + 1) 579 (by omega), ?_⟩
    rintro _ rfl
    rw [pk_m1, nI_clamp (by omega)]
    refine ⟨⟨i, rfl, by omega, by omega, fun k => ?_⟩, ?_⟩
    · by_cases e : k = i + 1
      · rw [e, pk_us, hf i, if_neg (by omega), if_pos (by omega)]; rfl
      · rw [pk_un e, hf k]
        by_cases c2 : i + 1 < k ∧ k < 128
        · rw [if_pos c2, if_pos (by omega)]
        · rw [if_neg c2, if_neg (by omega)]
    · dsimp only; rw [nI_clamp (by omega), nI_clamp (by omega)]; omega
theorem m_shutsPlace {st : Nat → Int32} {p : Nat} (hp : p ≤ 127) {post : (Nat → Int32) → Prop} (h : ∀ st' : Nat → Int32, (∀ k, st' k = if p ≤ k ∧ k < 127 then st (k + 1) else st k) → post st') : wX6_shutsPlace st (nI p) post := by
  unfold wX6_shutsPlace
  refine ⟨fun y f => ∃ j, y = nI j ∧ p ≤ j ∧ j ≤ 127 ∧ ∀ k, f k = if p ≤ k ∧ k < j then st (k + 1) else st k, fun y _ => 127 - y.toNatClampNeg, ⟨p, rfl, Nat.le_refl _, hp, fun k => by rw [if_neg (by omega)]⟩, ?_⟩
  rintro y f ⟨j, rfl, j1, j2, hf⟩
  rw [nI_1]
  refine pk_le 128 (j + 1) (fun c => ?_) (fun c => ⟨pk_in (j + 1) 579 (by omega), ?_⟩)
  · rw [show j = 127 by omega] at hf
    exact h _ hf
  · rw [nI_clamp (by omega)]
    rintro _ rfl
    refine ⟨pk_in j 579 (by omega), ?_⟩
    rintro _ rfl
    rw [nI_clamp (by omega)]
    refine ⟨⟨j + 1, rfl, by omega, by omega, fun k => ?_⟩, ?_⟩
    · by_cases e : k = j
      · rw [e, pk_us, hf (j + 1), if_neg (by omega), if_pos (by omega)]
      · rw [pk_un e, hf k]
        by_cases c2 : p ≤ k ∧ k < j
        · rw [if_pos c2, if_pos (by omega)]
        · rw [if_neg c2, if_neg (by omega)]
    · dsimp only; rw [nI_clamp (by omega), nI_clamp (by omega)]; omega
/-- a pair of places comes in about the places from o to s -/
def WR (B : Nat → Bool) (o s k : Nat) : Bool := if k < o then B k else if k = o then true else if k ≤ s then B (k - 1) else if k = s + 1 then false else B (k - 2)
theorem WR_lo {B : Nat → Bool} {o s k : Nat} (h : k < o) : WR B o s k = B k := if_pos h
theorem WR_o {B : Nat → Bool} {o s : Nat} : WR B o s o = true := by unfold WR; rw [if_neg (by omega), if_pos rfl]
theorem WR_mid {B : Nat → Bool} {o s k : Nat} (h1 : o ≤ k) (h2 : k < s) : WR B o s (k + 1) = B k := by unfold WR; rw [if_neg (by omega), if_neg (by omega), if_pos (by omega), show k + 1 - 1 = k by omega]
theorem WR_s {B : Nat → Bool} {o s : Nat} (h : o ≤ s) : WR B o s (s + 1) = false := by unfold WR; rw [if_neg (by omega), if_neg (by omega), if_neg (by omega), if_pos rfl]
theorem WR_hi {B : Nat → Bool} {o s k : Nat} (h : o ≤ s) (h2 : s ≤ k) : WR B o s (k + 2) = B k := by unfold WR; rw [if_neg (by omega), if_neg (by omega), if_neg (by omega), if_neg (by omega), show k + 2 - 2 = k by omega]
theorem WR_a {B : Nat → Bool} {o s k : Nat} (h : k ≤ o) : fb_ct (WR B o s) k = fb_ct B k := fb_ct_cong (fun i hi => WR_lo (by omega))
theorem WR_b {B : Nat → Bool} {o s : Nat} (h : o ≤ s) : ∀ n, o + n ≤ s → fb_ct (WR B o s) (o + n + 1) = fb_ct B (o + n) + 1
  | 0, _ => by rw [Nat.add_zero, fb_ct_succ, WR_a (Nat.le_refl _), WR_o]; rfl
  | n + 1, hn => by
    rw [show o + (n + 1) = o + n + 1 by omega, fb_ct_succ, WR_b h n (by omega), WR_mid (by omega) (by omega), fb_ct_succ B]
    omega
theorem WR_c {B : Nat → Bool} {o s : Nat} (h : o ≤ s) : ∀ n, fb_ct (WR B o s) (s + n + 2) = fb_ct B (s + n) + 1
  | 0 => by
    have := WR_b (B := B) h (s - o) (by omega)
    rw [show o + (s - o) = s by omega] at this
    rw [Nat.add_zero, show s + 2 = s + 1 + 1 by omega, fb_ct_succ, this, WR_s h]; rfl
  | n + 1 => by
    rw [show s + (n + 1) + 2 = s + n + 2 + 1 by omega, fb_ct_succ, WR_c h n, WR_hi h (by omega), show s + (n + 1) = s + n + 1 by omega, fb_ct_succ B]
    omega
theorem WR_ex {B : Nat → Bool} {o s : Nat} (h : o ≤ s) (k : Nat) : ex (WR B o s) k = if k ≤ o then ex B k else if k ≤ s + 1 then ex B (k - 1) + 1 else ex B (k - 2) := by
  unfold ex
  by_cases c1 : k ≤ o
  · rw [if_pos c1, WR_a c1]
  · rw [if_neg c1]
    by_cases c2 : k ≤ s + 1
    · have := WR_b (B := B) h (k - 1 - o) (by omega)
      rw [show o + (k - 1 - o) = k - 1 by omega, show k - 1 + 1 = k by omega] at this
      rw [if_pos c2, this]; omega
    · have := WR_c (B := B) h (k - 2 - s)
      rw [show s + (k - 2 - s) = k - 2 by omega, show k - 2 + 2 = k by omega] at this
      rw [if_neg c2, this]; omega
theorem WR_Tr {B : Nat → Bool} {N o s : Nat} (hT : Tr B N) (h0 : 0 < o) (h : o ≤ s) (hs : s < N) (hN : N + 2 ≤ 128) : Tr (WR B o s) (N + 2) := by
  refine ⟨hN, ?_, fun p p1 p2 => ?_⟩
  · rw [WR_ex h, if_neg (by omega), if_neg (by omega), show N + 2 - 2 = N by omega]; exact hT.2.1
  · rw [WR_ex h]
    by_cases c1 : p ≤ o
    · rw [if_pos c1]; exact hT.2.2 p p1 (by omega)
    · rw [if_neg c1]
      by_cases c2 : p ≤ s + 1
      · rw [if_pos c2]
        have := hT.nn (show p - 1 ≤ N by omega); omega
      · rw [if_neg c2]; exact hT.2.2 (p - 2) (by omega) (by omega)
/-- the places o and s go -/
def RM (B : Nat → Bool) (o s k : Nat) : Bool := if k < o then B k else if k + 1 < s then B (k + 1) else B (k + 2)
theorem RM_ct {B : Nat → Bool} {o s : Nat} (h : o < s) (ho : B o = true) (hs : B s = false) : ∀ k, (k ≤ o → fb_ct (RM B o s) k = fb_ct B k) ∧ (o ≤ k → k + 1 ≤ s → fb_ct (RM B o s) k + 1 = fb_ct B (k + 1)) ∧ (s ≤ k + 1 → fb_ct (RM B o s) k + 1 = fb_ct B (k + 2))
  | 0 => by
    refine ⟨fun _ => rfl, fun a _ => ?_, fun b => ?_⟩
    · have : o = 0 := by omega
      subst this
      rw [fb_ct_succ, if_pos ho]
      rfl
    · have e : o = 0 := by omega
      have e2 : s = 1 := by omega
      subst e; subst e2
      rw [fb_ct_succ, fb_ct_succ, if_pos ho, if_neg (by rw [hs]; decide)]
      rfl
  | k + 1 => by
    obtain ⟨i1, i2, i3⟩ := RM_ct h ho hs k
    have e := fb_ct_succ (RM B o s) k
    have e1 := fb_ct_succ B k
    have e2 : fb_ct B (k + 2) = fb_ct B (k + 1) + (if B (k + 1) then 1 else 0) := fb_ct_succ B (k + 1)
    have e3 : fb_ct B (k + 3) = fb_ct B (k + 2) + (if B (k + 2) then 1 else 0) := fb_ct_succ B (k + 2)
    by_cases c1 : k < o
    · have r : RM B o s k = B k := if_pos c1
      rw [r, i1 (by omega)] at e
      refine ⟨fun _ => by omega, fun a b => ?_, fun b => ?_⟩
      · rw [show o = k + 1 by omega] at ho
        rw [ho] at e2
        have e2 : fb_ct B (k + 2) = fb_ct B (k + 1) + 1 := e2
        rw [show k + 1 + 1 = k + 2 by omega]
        omega
      · have : o = k + 1 := by omega
        have e4 : s = k + 2 := by omega
        rw [this] at ho
        rw [e4] at hs
        rw [ho] at e2
        rw [hs] at e3
        have e2 : fb_ct B (k + 2) = fb_ct B (k + 1) + 1 := e2
        have e3 : fb_ct B (k + 3) = fb_ct B (k + 2) := e3
        rw [show k + 1 + 2 = k + 3 by omega]
        omega
    · by_cases c2 : k + 1 < s
      · have r : RM B o s k = B (k + 1) := by unfold RM; rw [if_neg c1, if_pos c2]
        rw [r] at e
        have := i2 (by omega) (by omega)
        refine ⟨fun a => by omega, fun a b => by rw [show k + 1 + 1 = k + 2 by omega]; omega, fun b => ?_⟩
        have e4 : s = k + 2 := by omega
        rw [e4] at hs
        rw [hs] at e3
        have e3 : fb_ct B (k + 3) = fb_ct B (k + 2) := e3
        rw [show k + 1 + 2 = k + 3 by omega]
        omega
      · have r : RM B o s k = B (k + 2) := by unfold RM; rw [if_neg c1, if_neg c2]
        rw [r] at e
        have := i3 (by omega)
        refine ⟨fun a => by omega, fun a b => by omega, fun b => ?_⟩
        rw [show k + 1 + 2 = k + 3 by omega]
        omega
theorem RM_ex {B : Nat → Bool} {o s : Nat} (h : o < s) (ho : B o = true) (hs : B s = false) (k : Nat) : ex (RM B o s) k = if k ≤ o then ex B k else if k + 1 ≤ s then ex B (k + 1) - 1 else ex B (k + 2) := by
  obtain ⟨i1, i2, i3⟩ := RM_ct h ho hs k
  unfold ex
  by_cases c1 : k ≤ o
  · rw [if_pos c1, i1 c1]
  · rw [if_neg c1]
    by_cases c2 : k + 1 ≤ s
    · rw [if_pos c2]; have := i2 (by omega) c2; omega
    · rw [if_neg c2]; have := i3 (by omega); omega
