/-! depths: both sides -/
def FI (B : Nat → Bool) (N : Nat) (d : Int) (a n : Nat) (x : Int32) : Prop := (∃ f, a ≤ f ∧ f < n ∧ ex B (kp B N f) = d ∧ (∀ u, a ≤ u → u < f → ex B (kp B N u) ≠ d) ∧ x = nI f) ∨ ((∀ u, a ≤ u → u < n → ex B (kp B N u) ≠ d) ∧ x = -4)
def LA (B : Nat → Bool) (N : Nat) (d : Int) (n : Nat) (x : Int32) : Prop := (∃ l, l < n ∧ ex B (kp B N l) = d ∧ (∀ u, l < u → u < n → ex B (kp B N u) ≠ d) ∧ x = nI l) ∨ ((∀ u, u < n → ex B (kp B N u) ≠ d) ∧ x = -4)
theorem FI.one {B : Nat → Bool} {N : Nat} {d : Int} {a n : Nat} {x y : Int32} (h : FI B N d a n x) (h' : FI B N d a n y) : x = y := by
  rcases h with ⟨f, f1, f2, f3, f4, rfl⟩ | ⟨f4, rfl⟩ <;> rcases h' with ⟨e, e1, e2, e3, e4, rfl⟩ | ⟨e4, rfl⟩
  · rcases Nat.lt_trichotomy f e with z | z | z
    · exact absurd f3 (e4 f f1 z)
    · rw [z]
    · exact absurd e3 (f4 e e1 z)
  · exact absurd f3 (e4 f f1 f2)
  · exact absurd e3 (f4 e e1 e2)
  · rfl
theorem LA.one {B : Nat → Bool} {N : Nat} {d : Int} {n : Nat} {x y : Int32} (h : LA B N d n x) (h' : LA B N d n y) : x = y := by
  rcases h with ⟨f, f2, f3, f4, rfl⟩ | ⟨f4, rfl⟩ <;> rcases h' with ⟨e, e2, e3, e4, rfl⟩ | ⟨e4, rfl⟩
  · rcases Nat.lt_trichotomy f e with z | z | z
    · exact absurd e3 (f4 e z e2)
    · rw [z]
    · exact absurd f3 (e4 f z f2)
  · exact absurd f3 (e4 f f2)
  · exact absurd e3 (f4 e e2)
  · rfl
theorem kp_ge {B : Nat → Bool} {N p u : Nat} (hu : u < fb_ct B N) (h : fb_ct B p ≤ u) : p ≤ kp B N u := by
  obtain ⟨o1, o2, o3⟩ := kp_spec hu
  rcases Nat.lt_or_ge (kp B N u) p with z | z
  · have := fb_ct_mono B (show kp B N u + 1 ≤ p from z)
    rw [fb_ct_succ, if_pos o2] at this
    omega
  · exact z
theorem kp_lt' {B : Nat → Bool} {N p u : Nat} (hu : u < fb_ct B N) (h : u < fb_ct B p) : kp B N u < p := by
  obtain ⟨o1, o2, o3⟩ := kp_spec hu
  rcases Nat.lt_or_ge (kp B N u) p with z | z
  · exact z
  · have := fb_ct_mono B z
    omega
theorem m4_eq : ¬ (¬ (-4 : Int32) = -4) := fun z => z rfl
theorem x_firstOfDepth {low high : Int64} {N : Nat} {g lo hi : Nat → Int32} (hX : XT low high N g lo hi) {p : Nat} {d : Int} {x y : Int32} (hp : p ≤ N) (hd : ex (bb low high) p ≤ d) (hxy : y = x + 1) (hy : ∀ e : Int, -128 ≤ e → e ≤ 128 → (e = y.toInt ↔ e = d + 1)) {post : Int32 → Prop} (h : ∀ r, FI (bb low high) N d (fb_ct (bb low high) p) (fb_ct (bb low high) N) r → post r) : wX4_firstOfDepth low high (nI N) g lo hi x (nI p) post := by
  have hN := hX.1.1
  unfold wX4_firstOfDepth
  rw [← hxy]
  have hyy : ∀ k, k ≤ N → (ex (bb low high) k = y.toInt ↔ ex (bb low high) k = d + 1) := fun k hk => by have := ex_b (bb low high) k; exact hy _ (by omega) (by omega)
  refine x_searchOn hX.2.2 hN hp (fun r hr => ?_)
  rcases hr with ⟨q, q1, q2, q3, q4, rfl⟩ | ⟨q4, rfl⟩
  · refine ⟨fun _ => ?_, fun z => absurd z (m4_ne (by omega))⟩
    obtain ⟨j, rfl⟩ : ∃ j, q = j + 1 := ⟨q - 1, by omega⟩
    rw [hyy _ q2] at q3
    have q4 : ∀ k, p < k → k < j + 1 → ex (bb low high) k ≠ d + 1 := fun k k1 k2 e => q4 k k1 k2 ((hyy k (by omega)).mpr e)
    have hb : bb low high j = true := by
      cases hb : bb low high j with
      | true => rfl
      | false =>
        have e1 := ex_f hb
        obtain ⟨z, z1, z2, z3, _⟩ := ex_up (B := (bb low high)) (a := p) (b := j) (d := d + 1) (by omega) (by omega) (by omega)
        rcases Nat.eq_or_lt_of_le z1 with e | e
        · rw [← e] at z3; omega
        · exact absurd z3 (q4 z e (by omega))
    have e1 := ex_t hb
    rw [nI_pred]
    refine x_opensAhead (by omega) (h _ ?_)
    obtain ⟨c1, c2⟩ := kp_ct' (show j < N by omega) hb
    refine Or.inl ⟨fb_ct (bb low high) j, fb_ct_mono (bb low high) (by omega), c2, by rw [c1]; omega, fun u u1 u2 e => ?_, rfl⟩
    obtain ⟨o1, o2, o3⟩ := kp_spec (S := (bb low high)) (N := N) (k := u) (by omega)
    have g1 := kp_ge (show u < fb_ct (bb low high) N by omega) u1
    have g2 := kp_lt' (show u < fb_ct (bb low high) N by omega) u2
    have e2 := ex_t o2
    exact q4 (kp (bb low high) N u + 1) (by omega) (by omega) (by omega)
  · refine ⟨fun z => absurd rfl z, fun _ => h _ (Or.inr ⟨fun u u1 u2 e => ?_, rfl⟩)⟩
    obtain ⟨o1, o2, o3⟩ := kp_spec u2
    have g1 := kp_ge u2 u1
    have e2 := ex_t o2
    exact q4 (kp (bb low high) N u + 1) (by omega) (by omega) ((hyy _ (by omega)).mpr (by omega))
theorem x_lastOfDepth {low high : Int64} {N : Nat} {g lo hi : Nat → Int32} (hX : XT low high N g lo hi) {p : Nat} {d : Int} {x y : Int32} (hp : p ≤ N) (hd : ex (bb low high) p ≤ d) (hxy : y = x + 1) (hy : ∀ e : Int, -128 ≤ e → e ≤ 128 → (e = y.toInt ↔ e = d + 1)) {post : Int32 → Prop} (h : ∀ r, LA (bb low high) N d (fb_ct (bb low high) p) r → post r) : wX4_lastOfDepth low high (nI N) g lo hi x (nI p) post := by
  have hN := hX.1.1
  unfold wX4_lastOfDepth
  rw [← hxy]
  have hyy : ∀ k, k ≤ N → (ex (bb low high) k = y.toInt ↔ ex (bb low high) k = d + 1) := fun k hk => by have := ex_b (bb low high) k; exact hy _ (by omega) (by omega)
  have hmp := fb_ct_mono (bb low high) hp
  refine x_searchBack hX.2.2 hN hp (fun r hr => ?_)
  rcases hr with ⟨q, q1, q3, q4, rfl⟩ | ⟨q4, rfl⟩
  · refine ⟨fun _ => ?_, fun z => absurd z (m4_ne (by omega))⟩
    rw [hyy _ (by omega)] at q3
    have q4 : ∀ k, q < k → k < p → ex (bb low high) k ≠ d + 1 := fun k k1 k2 e => q4 k k1 k2 ((hyy k (by omega)).mpr e)
    have hb : bb low high q = false := by
      cases hb : bb low high q with
      | false => rfl
      | true =>
        have e1 := ex_t hb
        obtain ⟨z, z1, z2, z3, _⟩ := ex_down (B := (bb low high)) (a := q + 1) (b := p) (d := d + 1) (by omega) (by omega) (by omega)
        rcases Nat.eq_or_lt_of_le z2 with e | e
        · rw [e] at z3; omega
        · exact absurd z3 (q4 z (by omega) e)
    have e1 := ex_f hb
    obtain ⟨o, o1, o2, o3, o4, o5⟩ := pt_open hX.1 (show q < N by omega) hb
    rw [← o4]
    obtain ⟨c1, c2⟩ := kp_ct' (show o < N by omega) o3
    refine x_nodeAtShut hX (by omega) o3 (h _ (Or.inl ⟨fb_ct (bb low high) o, ?_, by rw [c1]; omega, fun u u1 u2 e => ?_, rfl⟩))
    · have := fb_ct_mono (bb low high) (show o + 1 ≤ p by omega)
      rw [fb_ct_succ, if_pos o3] at this; omega
    · obtain ⟨g1, g2, g3⟩ := kp_spec (S := (bb low high)) (N := N) (k := u) (by omega)
      have g4 := kp_lt' (show u < fb_ct (bb low high) N by omega) u2
      have g5 := kp_ge (p := o + 1) (show u < fb_ct (bb low high) N by omega) (by rw [fb_ct_succ, if_pos o3]; omega)
      have e2 := ex_t g2
      rcases Nat.lt_or_ge q (kp (bb low high) N u + 1) with w | w
      · rcases Nat.eq_or_lt_of_le (show kp (bb low high) N u + 1 ≤ p by omega) with w2 | w2
        · rw [w2] at e2; omega
        · exact q4 _ w w2 (by omega)
      · have := o5 (kp (bb low high) N u) (by omega) (by omega)
        omega
  · refine ⟨fun z => absurd rfl z, fun _ => h _ (Or.inr ⟨fun u u2 e => ?_, rfl⟩)⟩
    obtain ⟨g1, g2, g3⟩ := kp_spec (S := (bb low high)) (N := N) (k := u) (by omega)
    have g4 := kp_lt' (show u < fb_ct (bb low high) N by omega) u2
    have e2 := ex_t g2
    rcases Nat.eq_or_lt_of_le (show kp (bb low high) N u + 1 ≤ p by omega) with w2 | w2
    · rw [w2] at e2; omega
    · exact q4 _ w2 ((hyy _ (by omega)).mpr (by omega))
def DQ (B : Nat → Bool) (d : Int) (k : Nat) : Bool := B k && decide (ex B k = d)
theorem DQ_sub (B : Nat → Bool) (d : Int) : ∀ j, DQ B d j = true → B j = true := fun j h => by
  unfold DQ at h
  cases hb : B j with
  | true => rfl
  | false => rw [hb] at h; cases h
theorem x_howMany {low high : Int64} {N : Nat} {g lo hi : Nat → Int32} (hX : XT low high N g lo hi) {d : Nat} (hd : d < 2147483648) {post : Int32 → Prop} (h : post (nI (fb_ct (DQ (bb low high) d) N))) : wX4_howManyOfDepth low high (nI N) (nI d) post := by
  have hN := hX.1.1
  unfold wX4_howManyOfDepth
  obtain ⟨I, hI⟩ : ∃ I : Int32 → Int32 → Int32 → Prop, ∀ a c x, I a c x ↔ ∃ p, p ≤ N ∧ a = nI (fb_ct (DQ (bb low high) d) p) ∧ c = iI (ex (bb low high) p) ∧ x = nI p := ⟨_, fun _ _ _ => Iff.rfl⟩
  obtain ⟨mu, hmu⟩ : ∃ mu : Int32 → Int32 → Int32 → Nat, ∀ a c x, mu a c x = N - x.toNatClampNeg := ⟨_, fun _ _ _ => rfl⟩
  refine ⟨I, mu, (hI _ _ _).mpr ⟨0, Nat.zero_le _, rfl, by rw [ex_0]; rfl, rfl⟩, ?_⟩
  intro a c x hIk
  obtain ⟨p, p1, rfl, rfl, rfl⟩ := (hI a c x).mp hIk
  clear hIk
  refine pk_le N p (fun c => by rw [show p = N by omega]; exact h) (fun c => ?_)
  refine x_stepAt (by omega) ?_
  have hst := fb_ct_succ (DQ (bb low high) d) p
  have hb := ex_b (bb low high) p
  have hstep := step_add (bb low high) p
  have go : ∀ (a : Int32), a = nI (fb_ct (DQ (bb low high) d) (p + 1)) → (I a (iI (ex (bb low high) (p + 1))) (nI (p + 1)) ∧ mu a (iI (ex (bb low high) (p + 1))) (nI (p + 1)) < mu (nI (fb_ct (DQ (bb low high) d) p)) (iI (ex (bb low high) p)) (nI p)) := by
    rintro _ rfl
    refine ⟨(hI _ _ _).mpr ⟨p + 1, by omega, rfl, rfl, rfl⟩, ?_⟩
    rw [hmu, hmu, nI_clamp (by omega), nI_clamp (by omega)]; omega
  cases hbp : bb low high p with
  | false =>
    rw [hbp] at hstep
    rw [show DQ (bb low high) d p = false from by unfold DQ; rw [hbp]; rfl] at hst
    refine ⟨fun _ => ?_, fun z => absurd z (by decide)⟩
    rintro _ rfl _ rfl
    rw [hstep, nI_1]
    exact go _ (by rw [hst]; rfl)
  | true =>
    rw [hbp] at hstep
    refine ⟨fun z => absurd rfl z, fun _ => ?_⟩
    refine q_ne (ex (bb low high) p) (d : Int) (fun c2 => ?_) (fun c2 => ?_) rfl (nI_iI d)
    · rw [show DQ (bb low high) d p = false from by unfold DQ; rw [hbp, decide_eq_false c2]; rfl] at hst
      rintro _ rfl _ rfl
      rw [hstep, nI_1]
      exact go _ (by rw [hst]; rfl)
    · rw [show DQ (bb low high) d p = true from by unfold DQ; rw [hbp, decide_eq_true c2]; rfl] at hst
      rintro _ rfl _ rfl _ rfl
      rw [hstep, nI_1, nI_1]
      exact go _ (by rw [hst]; rfl)
theorem m_level {st : Nat → Int32} {B : Nat → Bool} {N d s : Nat} (hS : MB st B N) (h192 : st 192 = nI (fb_ct B N)) (hT : Tr B N) (hd : d < 2147483648) (hs : s ≤ 2) {post : Int32 → Prop} (h : ∀ a b, FI B N d 0 (fb_ct B N) a → LA B N d (fb_ct B N) b → post (if s = 0 then a else if s = 1 then b else nI (fb_ct (DQ B d) N))) : wX6_level st (nI d) (nI s) post := by
  have hN := hT.1
  have h2 := hT.two
  unfold wX6_level
  refine ⟨fun z => absurd z (nI_pos (by omega)), fun _ => ?_⟩
  refine m_in_y (by rw [nI_toInt (by omega)]; show (0 : Int) ≤ _; omega) (by rw [nI_toInt (by omega)]; show _ ≤ (2 : Int); omega) (t1b ?_)
  obtain ⟨I, hI⟩ : ∃ I : Int32 → Int32 → Int32 → Int32 → Prop, ∀ a b c x, I a b c x ↔ ∃ v, v ≤ fb_ct B N ∧ FI B N d 0 v a ∧ LA B N d v b ∧ c = nI (fb_ct (DQ B d) (kp B N v)) ∧ x = nI v := ⟨_, fun _ _ _ _ => Iff.rfl⟩
  obtain ⟨mu, hmu⟩ : ∃ mu : Int32 → Int32 → Int32 → Int32 → Nat, ∀ a b c x, mu a b c x = fb_ct B N - x.toNatClampNeg := ⟨_, fun _ _ _ _ => rfl⟩
  refine ⟨I, mu, (hI _ _ _ _).mpr ⟨0, Nat.zero_le _, Or.inr ⟨fun u _ u2 => by omega, rfl⟩, Or.inr ⟨fun u u2 => by omega, rfl⟩, ?_, rfl⟩, ?_⟩
  · have : fb_ct (DQ B d) (kp B N 0) = fb_ct (DQ B d) 0 := ct_same (DQ_sub B d) (by rw [kp_ct B N 0 (Nat.zero_le _)]; rfl)
    rw [this]; rfl
  intro a b c x hIk
  obtain ⟨v, v1, ha, hb, rfl, rfl⟩ := (hI a b c x).mp hIk
  clear hIk
  refine m_many h192 ?_
  refine pk_le (fb_ct B N) v (fun c => ?_) (fun c => ?_)
  · have e : v = fb_ct B N := by omega
    rw [e] at ha hb
    have hc : fb_ct (DQ B d) (kp B N v) = fb_ct (DQ B d) N := ct_same (DQ_sub B d) (by rw [kp_ct B N v v1, e])
    rw [hc]
    have := h a b ha hb
    refine pk_ne s 0 (fun e => pk_ne s 1 (fun e2 => ?_) (fun e2 => ?_)) (fun e => ?_)
    · rw [if_neg e, if_neg e2] at this; exact this
    · rw [if_neg e, if_pos e2] at this; exact this
    · rw [if_pos e] at this; exact this
  · refine m_depthOf hS hN c ?_
    obtain ⟨o1, o2, o3⟩ := kp_spec c
    have hst := ct_node (Q := DQ B d) c (DQ_sub B d)
    have hbx := ex_b B (kp B N v)
    refine q_ne (ex B (kp B N v)) (d : Int) (fun c2 => ?_) (fun c2 => ?_) rfl (nI_iI d)
    · rw [if_neg (by unfold DQ; rw [o2, decide_eq_false c2]; decide)] at hst
      rintro _ rfl
      rw [nI_1]
      refine ⟨(hI _ _ _ _).mpr ⟨v + 1, c, ?_, ?_, by rw [hst]; rfl, rfl⟩, ?_⟩
      · rcases ha with ⟨f, f1, f2, f3, f4, rfl⟩ | ⟨f4, rfl⟩
        · exact Or.inl ⟨f, f1, by omega, f3, f4, rfl⟩
        · refine Or.inr ⟨fun u u1 u2 => ?_, rfl⟩
          rcases Nat.eq_or_lt_of_le (Nat.lt_succ_iff.mp u2) with e | e
          · rw [e]; exact c2
          · exact f4 u u1 e
      · rcases hb with ⟨l, l2, l3, l4, rfl⟩ | ⟨l4, rfl⟩
        · refine Or.inl ⟨l, by omega, l3, fun u u1 u2 => ?_, rfl⟩
          rcases Nat.eq_or_lt_of_le (Nat.lt_succ_iff.mp u2) with e | e
          · rw [e]; exact c2
          · exact l4 u u1 e
        · refine Or.inr ⟨fun u u2 => ?_, rfl⟩
          rcases Nat.eq_or_lt_of_le (Nat.lt_succ_iff.mp u2) with e | e
          · rw [e]; exact c2
          · exact l4 u e
      · rw [hmu, hmu, nI_clamp (by omega), nI_clamp (by omega)]; omega
    · rw [if_pos (by unfold DQ; rw [o2, decide_eq_true c2]; decide)] at hst
      have hl : LA B N d (v + 1) (nI v) := Or.inl ⟨v, by omega, c2, fun u u1 u2 => by omega, rfl⟩
      rcases ha with ⟨f, f1, f2, f3, f4, rfl⟩ | ⟨f4, rfl⟩
      · refine ⟨fun _ => ?_, fun z => absurd z (m4_ne (by omega))⟩
        rintro _ rfl _ rfl
        rw [nI_1, nI_1]
        refine ⟨(hI _ _ _ _).mpr ⟨v + 1, c, Or.inl ⟨f, f1, by omega, f3, f4, rfl⟩, hl, by rw [hst], rfl⟩, ?_⟩
        rw [hmu, hmu, nI_clamp (by omega), nI_clamp (by omega)]; omega
      · refine ⟨fun z => absurd rfl z, fun _ => ?_⟩
        rintro _ rfl _ rfl
        rw [nI_1, nI_1]
        refine ⟨(hI _ _ _ _).mpr ⟨v + 1, c, Or.inl ⟨v, Nat.zero_le _, by omega, c2, fun u u1 u2 => f4 u u1 u2, rfl⟩, hl, by rw [hst], rfl⟩, ?_⟩
        rw [hmu, hmu, nI_clamp (by omega), nI_clamp (by omega)]; omega
theorem big_1 {d : Nat} (hd : d < 2147483648) : ∀ e : Int, -128 ≤ e → e ≤ 128 → (e = (nI d + 1).toInt ↔ e = (d : Int) + 1) := by
  intro e e1 e2
  rcases Nat.lt_or_ge d 2147483647 with z | z
  · rw [nI_1, nI_toInt (by omega)]; omega
  · have : d = 2147483647 := by omega
    subst this
    have : (nI 2147483647 + 1).toInt = -2147483648 := by decide
    rw [this]; omega
theorem o_level {low high : Int64} {N : Nat} {g lo hi st w : Nat → Int32} (hX : XT low high N g lo hi) (hM : MT st (bb low high) N w) {p s : Int32} {Q : Prop} (hQ : Q) : wX5_level low high (nI N) g lo hi p s (fun r1 => wX6_level st p s (fun r2 => r1 = r2 ∧ Q)) := by
  have hN := hX.1.1
  unfold wX5_level
  refine ⟨fun c => ?_, fun c => ?_⟩
  · obtain ⟨d, d1, rfl⟩ := nI_of (x := p) (fun z => by rw [neg_iff] at z; rw [Int32.le_iff_toInt_le] at c; have c : (0 : Int) ≤ p.toInt := c; omega)
    have ml : ∀ (k : Nat) (r1 : Int32), k ≤ 2 → (∀ a b, FI (bb low high) N d 0 (fb_ct (bb low high) N) a → LA (bb low high) N d (fb_ct (bb low high) N) b → r1 = (if k = 0 then a else if k = 1 then b else nI (fb_ct (DQ (bb low high) d) N))) → wX6_level st (nI d) (nI k) (fun r2 => r1 = r2 ∧ Q) := fun k r1 hk hr => m_level hM.1 hM.2.1 hX.1 d1 hk (fun a b ha hb => ⟨hr a b ha hb, hQ⟩)
    refine ⟨?_, ?_, ?_, ?_⟩
    · rintro rfl
      have e : wX4_firstOfDepth low high (nI N) g lo hi (nI d) (nI 0) (fun r1 => wX6_level st (nI d) 0 (fun r2 => r1 = r2 ∧ Q)) := by
        refine x_firstOfDepth (d := d) hX (by omega) (by rw [ex_0]; omega) rfl (big_1 d1) (fun r hr => ml 0 r (by omega) (fun a b ha _ => ?_))
        rw [if_pos rfl]; exact hr.one ha
      exact e
    · rintro rfl
      refine x_lastOfDepth (d := d) hX (Nat.le_refl _) (by rw [hX.1.2.1]; omega) rfl (big_1 d1) (fun r hr => ml 1 r (by omega) (fun a b _ hb => ?_))
      rw [if_neg (by decide), if_pos rfl]; exact hr.one hb
    · rintro rfl
      refine x_howMany hX d1 (ml 2 _ (by omega) (fun a b _ hb => ?_))
      rw [if_neg (by decide), if_neg (by decide)]
    · intro n0 n1 n2
      unfold wX6_level
      refine ⟨fun z => absurd z (nI_pos (by omega)), fun _ => ?_⟩
      refine m_in_n (fun z => ?_) (t0b ⟨rfl, hQ⟩)
      have z : (0 : Int) ≤ s.toInt ∧ s.toInt ≤ 2 := z
      rcases upto s 2 with ⟨k, k1, rfl⟩ | c
      · have hk : k = 0 ∨ k = 1 ∨ k = 2 := by omega
        rcases hk with rfl | rfl | rfl
        · exact n0 rfl
        · exact n1 rfl
        · exact n2 rfl
      · omega
  · unfold wX6_level
    refine ⟨fun _ => ⟨rfl, hQ⟩, fun z => ?_⟩
    rw [neg_iff] at z
    rw [Int32.le_iff_toInt_le] at c
    have c : ¬ (0 : Int) ≤ p.toInt := c
    omega
