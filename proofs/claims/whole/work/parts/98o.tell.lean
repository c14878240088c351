/-! the text: what a row of tokens tells -/
def ft (kd bf : Nat) (B : Nat → Bool) (P : Nat) : Nat := if kd = 0 then (if 0 < ex B P then 2 else 0) else if kd = 1 then (if bf = 40 then 0 else 2) else if kd = 40 then (if 0 < fb_ct B P ∧ ¬ 0 < ex B P then 2 else if fb_ct B P < 64 then 0 else 5) else if kd = 41 then (if 0 < ex B P then 0 else 2) else 1
theorem ft_0 {bf P : Nat} {B : Nat → Bool} : ft 0 bf B P = if 0 < ex B P then 2 else 0 := if_pos rfl
theorem ft_1 {bf P : Nat} {B : Nat → Bool} : ft 1 bf B P = if bf = 40 then 0 else 2 := by unfold ft; rw [if_neg (by decide), if_pos rfl]
theorem ft_2 {bf P : Nat} {B : Nat → Bool} : ft 2 bf B P = 1 := by unfold ft; rw [if_neg (by decide), if_neg (by decide), if_neg (by decide), if_neg (by decide)]
theorem ft_40 {bf P : Nat} {B : Nat → Bool} : ft 40 bf B P = if 0 < fb_ct B P ∧ ¬ 0 < ex B P then 2 else if fb_ct B P < 64 then 0 else 5 := by unfold ft; rw [if_neg (by decide), if_neg (by decide), if_pos rfl]
theorem ft_41 {bf P : Nat} {B : Nat → Bool} : ft 41 bf B P = if 0 < ex B P then 0 else 2 := by unfold ft; rw [if_neg (by decide), if_neg (by decide), if_neg (by decide), if_pos rfl]
abbrev S5 : Type := Nat × (Nat → Bool) × Nat × (Nat → Int32) × Nat
def aB (B : Nat → Bool) (P : Nat) (b : Bool) (k : Nat) : Bool := if k = P then b else B k
def stp (s : S5) (kd e : Nat) (v : Int32) : S5 := if kd = 1 then (e, s.2.1, s.2.2.1, upd s.2.2.2.1 (fb_ct s.2.1 s.2.2.1 - 1) v, 1) else if kd = 40 then (e, aB s.2.1 s.2.2.1 true, s.2.2.1 + 1, upd s.2.2.2.1 (fb_ct s.2.1 s.2.2.1) 0, 40) else (e, aB s.2.1 s.2.2.1 false, s.2.2.1 + 1, s.2.2.2.1, kd)
theorem stp_1 (s : S5) (e : Nat) (v : Int32) : stp s 1 e v = (e, s.2.1, s.2.2.1, upd s.2.2.2.1 (fb_ct s.2.1 s.2.2.1 - 1) v, 1) := if_pos rfl
theorem stp_40 (s : S5) (e : Nat) (v : Int32) : stp s 40 e v = (e, aB s.2.1 s.2.2.1 true, s.2.2.1 + 1, upd s.2.2.2.1 (fb_ct s.2.1 s.2.2.1) 0, 40) := by unfold stp; rw [if_neg (by decide), if_pos rfl]
theorem stp_41 (s : S5) (e : Nat) (v : Int32) : stp s 41 e v = (e, aB s.2.1 s.2.2.1 false, s.2.2.1 + 1, s.2.2.2.1, 41) := by unfold stp; rw [if_neg (by decide), if_neg (by decide)]
def Run (L : Nat) (tb : Nat → Nat) : Nat → S5 → Prop
  | 0, s => s = (0, fun _ => false, 0, fun _ => 0, 0)
  | n + 1, s' => ∃ s i kd e v, Run L tb n s ∧ TK L tb s.1 i kd e v ∧ ¬ kd = 0 ∧ ft kd s.2.2.2.2 s.2.1 s.2.2.1 = 0 ∧ s' = stp s kd e v
theorem Run.one {L : Nat} {tb : Nat → Nat} : ∀ {n : Nat} {s s' : S5}, Run L tb n s → Run L tb n s' → s = s'
  | 0, s, s', h, h' => by
    have h : s = (0, fun _ => false, 0, fun _ => 0, 0) := h
    have h' : s' = (0, fun _ => false, 0, fun _ => 0, 0) := h'
    rw [h, h']
  | n + 1, s, s', h, h' => by
    obtain ⟨t, i, kd, e, v, a1, a2, a3, a4, a5⟩ := h
    obtain ⟨t', i', kd', e', v', b1, b2, b3, b4, b5⟩ := h'
    have et := Run.one a1 b1
    subst et
    obtain ⟨c1, c2, c3, c4⟩ := a2.one b2
    rw [a5, b5, c2, c3, c4]
theorem Run.pre {L : Nat} {tb : Nat → Nat} {n : Nat} : ∀ {m : Nat} {s : S5}, Run L tb m s → n < m → ∃ t i kd e v, Run L tb n t ∧ TK L tb t.1 i kd e v ∧ ¬ kd = 0 ∧ ft kd t.2.2.2.2 t.2.1 t.2.2.1 = 0
  | 0, s, h, hn => by omega
  | m + 1, s, h, hn => by
    obtain ⟨t, i, kd, e, v, a1, a2, a3, a4, a5⟩ := h
    rcases Nat.lt_or_ge n m with y | y
    · exact Run.pre a1 y
    · have e : n = m := by omega
      subst e
      exact ⟨t, i, kd, _, v, a1, a2, a3, a4⟩
def Out (L : Nat) (tb : Nat → Nat) (f i : Nat) (s : S5) : Prop := ∃ n kd e v, Run L tb n s ∧ TK L tb s.1 i kd e v ∧ f = ft kd s.2.2.2.2 s.2.1 s.2.2.1 ∧ (kd = 0 ∨ ¬ f = 0)
theorem Out.one {L f i f' i' : Nat} {tb : Nat → Nat} {s s' : S5} (h : Out L tb f i s) (h' : Out L tb f' i' s') : f = f' ∧ i = i' ∧ s = s' := by
  obtain ⟨n, kd, e, v, a1, a2, a3, a4⟩ := h
  obtain ⟨n', kd', e', v', b1, b2, b3, b4⟩ := h'
  have key : ∀ {n m kd e i f : Nat} {v : Int32} {s t : S5}, Run L tb n s → TK L tb s.1 i kd e v → f = ft kd s.2.2.2.2 s.2.1 s.2.2.1 → (kd = 0 ∨ ¬ f = 0) → Run L tb m t → ¬ n < m := fun a1 a2 a3 a4 b1 hlt => by
    obtain ⟨t, j, kd2, e2, v2, c1, c2, c3, c4⟩ := b1.pre hlt
    have et := c1.one a1
    subst et
    obtain ⟨d1, d2, d3, d4⟩ := c2.one a2
    subst d2
    rcases a4 with y | y
    · exact c3 y
    · rw [a3] at y; exact y c4
  have h1 := key a1 a2 a3 a4 b1
  have h2 := key b1 b2 b3 b4 a1
  have en : n = n' := by omega
  subst en
  have es := a1.one b1
  subst es
  obtain ⟨d1, d2, d3, d4⟩ := a2.one b2
  subst d2
  exact ⟨by rw [a3, b3], d1, rfl⟩
theorem aB_ct {B : Nat → Bool} {P q : Nat} {b : Bool} (h : q ≤ P) : fb_ct (aB B P b) q = fb_ct B q := fb_ct_cong (fun k hk => if_neg (by omega))
theorem aB_ex {B : Nat → Bool} {P q : Nat} {b : Bool} (h : q ≤ P) : ex (aB B P b) q = ex B q := ex_cong (fun k hk => if_neg (by omega))
theorem aB_P {B : Nat → Bool} {P : Nat} {b : Bool} : aB B P b P = b := if_pos rfl
theorem aB_n {B : Nat → Bool} {P k : Nat} {b : Bool} (h : ¬ k = P) : aB B P b k = B k := if_neg h
def RI (L n : Nat) (s : S5) : Prop := n ≤ s.1 ∧ s.1 ≤ L ∧ fb_ct s.2.1 s.2.2.1 ≤ 64 ∧ 0 ≤ ex s.2.1 s.2.2.1 ∧ (∀ q, 0 < q → q < s.2.2.1 → 0 < ex s.2.1 q) ∧ (∀ k, s.2.2.1 ≤ k → s.2.1 k = false) ∧ (s.2.2.2.2 = 40 → 0 < fb_ct s.2.1 s.2.2.1)
theorem RI.le {L n : Nat} {s : S5} (h : RI L n s) : s.2.2.1 ≤ 2 * fb_ct s.2.1 s.2.2.1 := by
  have := ex_par s.2.1 s.2.2.1
  have := h.2.2.2.1
  omega
theorem RI_s {L n i kd e : Nat} {tb : Nat → Nat} {v : Int32} {s : S5} (h : RI L n s) (hT : TK L tb s.1 i kd e v) (h0 : ¬ kd = 0) (hf : ft kd s.2.2.2.2 s.2.1 s.2.2.1 = 0) : RI L (n + 1) (stp s kd e v) := by
  obtain ⟨a1, a2, a3, a4, a5, a6, a7⟩ := h
  have hle := RI.le ⟨a1, a2, a3, a4, a5, a6, a7⟩
  obtain ⟨b1, b2, b3, b4, b5⟩ := hT.bd
  have b4 := b4 h0
  rcases b5 with rfl | rfl | rfl | rfl | rfl
  · exact absurd rfl h0
  · rw [stp_1]
    exact ⟨by show n + 1 ≤ e; omega, b3, a3, a4, a5, a6, fun z => absurd (show (1 : Nat) = 40 from z) (by decide)⟩
  · rw [ft_2] at hf; omega
  · rw [ft_40] at hf
    rw [stp_40]
    have c1 : ¬ (0 < fb_ct s.2.1 s.2.2.1 ∧ ¬ 0 < ex s.2.1 s.2.2.1) := fun z => by rw [if_pos z] at hf; omega
    rw [if_neg c1] at hf
    have c2 : fb_ct s.2.1 s.2.2.1 < 64 := by
      rcases Nat.lt_or_ge (fb_ct s.2.1 s.2.2.1) 64 with y | y
      · exact y
      · rw [if_neg (by omega)] at hf; omega
    have e1 : fb_ct (aB s.2.1 s.2.2.1 true) (s.2.2.1 + 1) = fb_ct s.2.1 s.2.2.1 + 1 := by rw [fb_ct_succ, aB_ct (Nat.le_refl _), aB_P]; rfl
    have e2 : ex (aB s.2.1 s.2.2.1 true) (s.2.2.1 + 1) = ex s.2.1 s.2.2.1 + 1 := by rw [ex_t aB_P, aB_ex (Nat.le_refl _)]
    refine ⟨by show n + 1 ≤ e; omega, b3, ?_, ?_, fun q q1 q2 => ?_, fun k hk => ?_, fun _ => ?_⟩
    · show fb_ct (aB s.2.1 s.2.2.1 true) (s.2.2.1 + 1) ≤ 64
      omega
    · show 0 ≤ ex (aB s.2.1 s.2.2.1 true) (s.2.2.1 + 1)
      omega
    · have q2 : q < s.2.2.1 + 1 := q2
      show 0 < ex (aB s.2.1 s.2.2.1 true) q
      rw [aB_ex (by omega)]
      rcases Nat.lt_or_ge q s.2.2.1 with y | y
      · exact a5 q q1 y
      · rw [show q = s.2.2.1 by omega]
        rcases Int.lt_or_le 0 (ex s.2.1 s.2.2.1) with w | w
        · exact w
        · exact absurd ⟨by omega, by omega⟩ c1
    · have hk : s.2.2.1 + 1 ≤ k := hk
      show aB s.2.1 s.2.2.1 true k = false
      rw [aB_n (by omega)]; exact a6 k (by omega)
    · show 0 < fb_ct (aB s.2.1 s.2.2.1 true) (s.2.2.1 + 1)
      omega
  · rw [ft_41] at hf
    rw [stp_41]
    have c1 : 0 < ex s.2.1 s.2.2.1 := by
      rcases Int.lt_or_le 0 (ex s.2.1 s.2.2.1) with y | y
      · exact y
      · rw [if_neg (by omega)] at hf; omega
    have e1 : fb_ct (aB s.2.1 s.2.2.1 false) (s.2.2.1 + 1) = fb_ct s.2.1 s.2.2.1 := by rw [fb_ct_succ, aB_ct (Nat.le_refl _), aB_P]; rfl
    have e2 : ex (aB s.2.1 s.2.2.1 false) (s.2.2.1 + 1) = ex s.2.1 s.2.2.1 - 1 := by rw [ex_f aB_P, aB_ex (Nat.le_refl _)]
    refine ⟨by show n + 1 ≤ e; omega, b3, ?_, ?_, fun q q1 q2 => ?_, fun k hk => ?_, fun z => absurd (show (41 : Nat) = 40 from z) (by decide)⟩
    · show fb_ct (aB s.2.1 s.2.2.1 false) (s.2.2.1 + 1) ≤ 64
      omega
    · show 0 ≤ ex (aB s.2.1 s.2.2.1 false) (s.2.2.1 + 1)
      omega
    · have q2 : q < s.2.2.1 + 1 := q2
      show 0 < ex (aB s.2.1 s.2.2.1 false) q
      rw [aB_ex (by omega)]
      rcases Nat.lt_or_ge q s.2.2.1 with y | y
      · exact a5 q q1 y
      · rw [show q = s.2.2.1 by omega]; exact c1
    · have hk : s.2.2.1 + 1 ≤ k := hk
      show aB s.2.1 s.2.2.1 false k = false
      rw [aB_n (by omega)]; exact a6 k (by omega)
theorem Run.inv {L : Nat} {tb : Nat → Nat} : ∀ {n : Nat} {s : S5}, Run L tb n s → RI L n s
  | 0, s, h => by
    have h : s = (0, fun _ => false, 0, fun _ => 0, 0) := h
    subst h
    exact ⟨Nat.le_refl _, Nat.zero_le _, Nat.zero_le _, Int.le_refl _, fun q q1 q2 => absurd q2 (Nat.not_lt_zero _), fun _ _ => rfl, fun z => absurd z (by decide)⟩
  | n + 1, s, h => by
    obtain ⟨t, i, kd, e, v, a1, a2, a3, a4, a5⟩ := h
    rw [a5]
    exact RI_s (Run.inv a1) a2 a3 a4
/-- the class's side -/
theorem x_faultOf {low high : Int64} {P kd bf : Nat} (hP : P ≤ 128) (hM : fb_ct (bb low high) P ≤ 64) (hk : kd = 0 ∨ kd = 1 ∨ kd = 2 ∨ kd = 40 ∨ kd = 41) (hbf : bf < 1000) {post : Int32 → Prop} (h : post (nI (ft kd bf (bb low high) P))) : wX3_faultOf low high (nI P) (nI kd) (nI bf) post := by
  have eb := ex_b (bb low high) P
  unfold wX3_faultOf
  refine x_opensAhead hP (x_excessAt hP ?_)
  have c40 : bf = 40 ↔ nI bf = (40 : Int32) := by rw [show (40 : Int32) = nI 40 from rfl, nI_eq (by omega) (by omega)]
  refine q_le (ex (bb low high) P) 0 (fun c => ?_) (fun c => ?_)
  · rcases hk with rfl | rfl | rfl | rfl | rfl
    · rw [ft_0, if_neg (by omega)] at h
      exact ⟨fun _ => h, fun z => absurd z (by decide), fun z => absurd z (by decide), fun z => absurd z (by decide), fun z => absurd rfl z⟩
    · rw [ft_1] at h
      refine ⟨fun z => absurd z (by decide), fun _ => ⟨fun z => ?_, fun z => ?_⟩, fun z => absurd z (by decide), fun z => absurd z (by decide), fun _ z => absurd rfl z⟩
      · rw [if_neg (fun y => z (c40.mp y))] at h; exact h
      · rw [if_pos (c40.mpr z)] at h; exact h
    · rw [ft_2] at h
      exact ⟨fun z => absurd z (by decide), fun z => absurd z (by decide), fun z => absurd z (by decide), fun z => absurd z (by decide), fun _ _ _ _ => h⟩
    · rw [ft_40] at h
      refine ⟨fun z => absurd z (by decide), fun z => absurd z (by decide), fun _ => pk_le (fb_ct (bb low high) P) 0 (fun z => ?_) (fun z => ?_), fun z => absurd z (by decide), fun _ _ z => absurd rfl z⟩
      · rw [if_neg (by omega)] at h
        refine pk_le 64 (fb_ct (bb low high) P) (fun y => ?_) (fun y => ?_)
        · rw [if_neg (by omega)] at h; exact h
        · rw [if_pos y] at h; exact h
      · rw [if_pos ⟨z, by omega⟩] at h; exact h
    · rw [ft_41, if_neg (by omega)] at h
      exact ⟨fun z => absurd z (by decide), fun z => absurd z (by decide), fun z => absurd z (by decide), fun _ => h, fun _ _ _ z => absurd rfl z⟩
  · rcases hk with rfl | rfl | rfl | rfl | rfl
    · rw [ft_0, if_pos c] at h
      exact ⟨fun _ => h, fun z => absurd z (by decide), fun z => absurd z (by decide), fun z => absurd z (by decide), fun z => absurd rfl z⟩
    · rw [ft_1] at h
      refine ⟨fun z => absurd z (by decide), fun _ => ⟨fun z => ?_, fun z => ?_⟩, fun z => absurd z (by decide), fun z => absurd z (by decide), fun _ z => absurd rfl z⟩
      · rw [if_neg (fun y => z (c40.mp y))] at h; exact h
      · rw [if_pos (c40.mpr z)] at h; exact h
    · rw [ft_2] at h
      exact ⟨fun z => absurd z (by decide), fun z => absurd z (by decide), fun z => absurd z (by decide), fun z => absurd z (by decide), fun _ _ _ _ => h⟩
    · rw [ft_40, if_neg (by omega)] at h
      have g : ((64 : Int32) ≤ nI (fb_ct (bb low high) P) → post 5) ∧ (¬ (64 : Int32) ≤ nI (fb_ct (bb low high) P) → post 0) := pk_le 64 (fb_ct (bb low high) P) (fun y => by rw [if_neg (by omega)] at h; exact h) (fun y => by rw [if_pos y] at h; exact h)
      exact ⟨fun z => absurd z (by decide), fun z => absurd z (by decide), fun _ => ⟨fun _ => g, fun _ => g⟩, fun z => absurd z (by decide), fun _ _ z => absurd rfl z⟩
    · rw [ft_41, if_pos c] at h
      exact ⟨fun z => absurd z (by decide), fun z => absurd z (by decide), fun z => absurd z (by decide), fun _ => h, fun _ _ _ z => absurd rfl z⟩
theorem x_take {L n i kd e : Nat} {tb : Nat → Nat} {v num : Int32} {s : S5} {low high : Int64} {wc : Nat → Int32} (hR : RI L n s) (hT : TK L tb s.1 i kd e v) (h0 : ¬ kd = 0) (hf : ft kd s.2.2.2.2 s.2.1 s.2.2.1 = 0) (hnum : kd = 1 → num = v) (hB : bb low high = s.2.1) (hw : ∀ i, i < fb_ct s.2.1 s.2.2.1 → wc i = s.2.2.2.1 i) {post : (Int64 × Int64 × Int32 × (Nat → Int32)) → Prop} (h : ∀ low' high' wc', bb low' high' = (stp s kd e v).2.1 → (∀ i, i < fb_ct (stp s kd e v).2.1 (stp s kd e v).2.2.1 → wc' i = (stp s kd e v).2.2.2.1 i) → post (low', high', nI (stp s kd e v).2.2.1, wc')) : wX3_take num low high (nI s.2.2.1) wc (nI kd) post := by
  have hR' := RI_s hR hT h0 hf
  have hle := hR.le
  obtain ⟨a1, a2, a3, a4, a5, a6, a7⟩ := hR
  obtain ⟨s1, B, P, w, bf⟩ := s
  have hB : bb low high = B := hB
  subst hB
  have a3 : fb_ct (bb low high) P ≤ 64 := a3
  have hle : P ≤ 2 * fb_ct (bb low high) P := hle
  have out : ∀ k, P ≤ k → bb low high k = false := a6
  obtain ⟨b1, b2, b3, b4, b5⟩ := hT.bd
  show wX3_take num low high (nI P) wc (nI kd) post
  unfold wX3_take
  rcases b5 with rfl | rfl | rfl | rfl | rfl
  · exact absurd rfl h0
  · rw [ft_1] at hf
    have c40 : bf = 40 := by
      rcases Nat.decEq bf 40 with y | y
      · rw [if_neg y] at hf; omega
      · exact y
    have hM0 : 0 < fb_ct (bb low high) P := a7 c40
    rw [stp_1] at h
    refine ⟨fun _ => x_opensAhead (by omega) ⟨fun _ => ⟨fun z => absurd rfl z, fun _ => pk_le (fb_ct (bb low high) P) 0 (fun z => by omega) (fun _ => ?_)⟩, fun z => absurd z (by decide)⟩, fun z => absurd z (by decide)⟩
    have e1 : nI (fb_ct (bb low high) P) - 1 = nI (fb_ct (bb low high) P - 1) := pk_sub (a := fb_ct (bb low high) P) (b := 1) hM0
    rw [e1, nI_clamp (by omega)]
    refine ⟨pk_in (fb_ct (bb low high) P - 1) 64 (by omega), h low high _ rfl (fun j hj => ?_)⟩
    have hj : j < fb_ct (bb low high) P := hj
    show upd wc (fb_ct (bb low high) P - 1) num j = upd w (fb_ct (bb low high) P - 1) v j
    by_cases ee : j = fb_ct (bb low high) P - 1
    · rw [ee, pk_us, pk_us, hnum rfl]
    · rw [pk_un ee, pk_un ee]; exact hw j hj
  · rw [ft_2] at hf; omega
  · rw [stp_40] at h hR'
    have c2 : fb_ct (bb low high) P < 64 := by
      have := hR'.2.2.1
      have this : fb_ct (aB (bb low high) P true) (P + 1) ≤ 64 := this
      rw [fb_ct_succ, aB_ct (Nat.le_refl _), aB_P] at this
      exact this
    refine ⟨fun _ => x_opensAhead (by omega) ⟨fun z => absurd rfl z, fun _ => pk_le 64 (fb_ct (bb low high) P) (fun z => by omega) (fun _ => ?_)⟩, fun z => absurd z (by decide)⟩
    refine x_append (b := true) (by omega) out (fun low' high' hab => ⟨pk_in (fb_ct (bb low high) P) 64 c2, ?_⟩)
    rw [nI_clamp (by omega)]
    refine h low' high' _ (funext hab) (fun j hj => ?_)
    have hj : j < fb_ct (aB (bb low high) P true) (P + 1) := hj
    rw [fb_ct_succ, aB_ct (Nat.le_refl _), aB_P] at hj
    have hj : j < fb_ct (bb low high) P + 1 := hj
    show upd wc (fb_ct (bb low high) P) 0 j = upd w (fb_ct (bb low high) P) 0 j
    by_cases ee : j = fb_ct (bb low high) P
    · rw [ee, pk_us, pk_us]
    · rw [pk_un ee, pk_un ee]; exact hw j (by show j < fb_ct (bb low high) P; omega)
  · rw [stp_41] at h
    rw [ft_41] at hf
    have c1 : 0 < ex (bb low high) P := by
      rcases Int.lt_or_le 0 (ex (bb low high) P) with y | y
      · exact y
      · rw [if_neg (by show ¬ 0 < ex (bb low high) P; omega)] at hf; omega
    have := ex_par (bb low high) P
    refine ⟨fun z => absurd rfl z, fun _ => ?_⟩
    refine x_append (b := false) (by omega) out (fun low' high' hab => ?_)
    refine h low' high' _ (funext hab) (fun j hj => ?_)
    have hj : j < fb_ct (aB (bb low high) P false) (P + 1) := hj
    rw [fb_ct_succ, aB_ct (Nat.le_refl _), aB_P] at hj
    exact hw j hj
theorem x_tell {L : Nat} {tb : Nat → Nat} {by_ : Nat → Int32} (hL : L ≤ 160) (hb : TB L tb by_) {at0 st0 num fa : Int32} {l0 h0 : Int64} {p0 : Int32} {g lo hi w0 : Nat → Int32} {post : (Int32 × Int32 × Int32 × Int32 × Int64 × Int64 × Int32 × (Nat → Int32) × (Nat → Int32) × (Nat → Int32) × (Nat → Int32)) → Prop} (h : ∀ f i s a nm low high g' lo' hi' w', Out L tb f i s → bb low high = s.2.1 → SM (bb low high) s.2.2.1 g' lo' hi' → (∀ j, j < fb_ct s.2.1 s.2.2.1 → w' j = s.2.2.2.1 j) → post (a, nI i, nm, nI f, low, high, nI s.2.2.1, g', lo', hi', w')) : wX3_tell (nI L) at0 st0 num fa by_ l0 h0 p0 g lo hi w0 post := by
  unfold wX3_tell wX1_clear
  refine ⟨fun x4 x5 a st nm fl lw hg pl wc => ∃ n s, Run L tb n s ∧ x4 = nI s.2.2.2.2 ∧ x5 = nI n ∧ a = nI s.1 ∧ bb lw hg = s.2.1 ∧ pl = nI s.2.2.1 ∧ (s.2.2.2.2 < 1000) ∧ ∀ j, j < fb_ct s.2.1 s.2.2.1 → wc j = s.2.2.2.1 j, fun _ x5 _ _ _ _ _ _ _ _ => 200 - x5.toNatClampNeg, ⟨0, (0, fun _ => false, 0, fun _ => 0, 0), rfl, rfl, rfl, rfl, funext (fun k => bb_00 k), rfl, by decide, fun j hj => absurd hj (Nat.not_lt_zero _)⟩, ?_⟩
  rintro x4 x5 a st nm fl lw hg pl wc ⟨n, s, hR, rfl, rfl, rfl, hB, rfl, hbf, hw⟩
  have hI := hR.inv
  have hle := hI.le
  obtain ⟨a1, a2, a3, a4, a5, a6, a7⟩ := hI
  have hP : s.2.2.1 ≤ 128 := by omega
  refine pk_lt L n (fun z => by omega) (fun z => ?_)
  refine x_nextToken hL a2 hb (fun i kd e v num' hTK hnum => ?_)
  obtain ⟨b1, b2, b3, b4, b5⟩ := hTK.bd
  refine x_faultOf hP (by rw [hB]; exact a3) b5 hbf ?_
  have fin : ∀ f, f = ft kd s.2.2.2.2 s.2.1 s.2.2.1 → (kd = 0 ∨ ¬ f = 0) → wX1_summarise lw hg (nI s.2.2.1) g lo hi (0 : Int32) (fun u => post (nI e, nI i, num', nI f, lw, hg, nI s.2.2.1, u.1, u.2.1, u.2.2, wc)) := fun f hf hf0 =>
    x_summarise (p := 0) hP (by omega) (fun b hb => by omega) (fun g' lo' hi' hs => h f i s _ _ lw hg g' lo' hi' wc ⟨n, kd, e, v, hR, hTK, hf, hf0⟩ hB hs hw)
  rw [hB]
  have hfl : ft kd s.2.2.2.2 s.2.1 s.2.2.1 < 10 := by
    rcases b5 with rfl | rfl | rfl | rfl | rfl
    · rw [ft_0]; split <;> omega
    · rw [ft_1]; split <;> omega
    · rw [ft_2]; omega
    · rw [ft_40]; split
      · omega
      · split <;> omega
    · rw [ft_41]; split <;> omega
  refine pk_ne (ft kd s.2.2.2.2 s.2.1 s.2.2.1) 0 (fun c => fin _ rfl (Or.inr c)) (fun c => ?_)
  refine pk_ne kd 0 (fun c2 => ?_) (fun c2 => fin _ rfl (Or.inl c2))
  refine x_take ⟨a1, a2, a3, a4, a5, a6, a7⟩ hTK c2 c hnum hB hw (fun low' high' wc' k1 k2 => ?_)
  rintro _ rfl
  rw [nI_1]
  have e1 : (stp s kd e v).1 = e ∧ (stp s kd e v).2.2.2.2 = kd := by
    rcases b5 with rfl | rfl | rfl | rfl | rfl
    · exact absurd rfl c2
    · rw [stp_1]; exact ⟨rfl, rfl⟩
    · rw [ft_2] at c; omega
    · rw [stp_40]; exact ⟨rfl, rfl⟩
    · rw [stp_41]; exact ⟨rfl, rfl⟩
  refine ⟨⟨n + 1, stp s kd e v, ⟨s, i, kd, e, v, hR, hTK, c2, c, rfl⟩, by rw [e1.2], rfl, by rw [e1.1], k1, rfl, by rw [e1.2]; omega, k2⟩, ?_⟩
  dsimp only
  rw [nI_clamp (by omega), nI_clamp (by omega)]; omega
