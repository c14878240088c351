/-! a subtree goes: the class; prune: both sides -/
def RS (B : Nat → Bool) (q n k : Nat) : Bool := if k < q then B k else B (k + 2 * n)
theorem x_removeSubtree {low high : Int64} {N : Nat} {g lo hi : Nat → Int32} (hX : XT low high N g lo hi) {w : Nat → Int32} {v : Nat} (hv : v < fb_ct (bb low high) N) (hC : fb_ct (bb low high) N ≤ 64) {post : (Int64 × Int64 × Int32 × (Nat → Int32) × (Nat → Int32) × (Nat → Int32) × (Nat → Int32)) → Prop} (h : ∀ low' high' g' lo' hi' w', (∀ k, bb low' high' k = RS (bb low high) (kp (bb low high) N v) (sz (bb low high) N v) k) → SM (bb low' high') (N - 2 * sz (bb low high) N v) g' lo' hi' → (∀ i, i < v → w' i = w i) → (∀ i, v ≤ i → i + sz (bb low high) N v < fb_ct (bb low high) N → w' i = w (i + sz (bb low high) N v)) → post (low', high', nI (N - 2 * sz (bb low high) N v), g', lo', hi', w')) : wX4_removeSubtree low high (nI N) g lo hi w (nI v) post := by
  have hN := hX.1.1
  obtain ⟨o1, o2, o3⟩ := kp_spec hv
  have hs := sh_spec hX.1 o1 o2
  obtain ⟨z1, z2, z3, z4⟩ := sz_eq hX.1 hv
  unfold wX4_removeSubtree
  refine x_nodesOf hX hv (x_openOf hX hv ?_)
  refine x_closeWeights hX z3 hC (fun u hu1 hu2 => ?_)
  rw [show (2 : Int32) = nI 2 from rfl, pk_mul]
  refine x_remove hX.2.2 hN (by omega) (fun low' high' g' lo' hi' h1 h2 => ?_)
  refine h low' high' g' lo' hi' u (fun k => ?_) h2 hu1 hu2
  rcases Nat.lt_or_ge k 128 with z | z
  · rw [h1 k z]; rfl
  · rw [bb_big z]
    unfold RS
    rw [if_neg (by omega), bb_big (by omega)]
theorem cn_sz {B : Nat → Bool} {N v : Nat} (hT : Tr B N) (hv : v < fb_ct B N) : 0 < cn B N (kp B N v) ↔ 1 < sz B N v := by
  obtain ⟨o1, o2, o3⟩ := kp_spec hv
  obtain ⟨z1, z2, z3, z4⟩ := sz_eq hT hv
  rw [← cn_0 hT o1 o2]
  have h1 := sz_one hT hv
  rw [SG2, o2] at h1
  constructor
  · intro h
    rw [h] at h1
    have : sz B N v ≠ 1 := fun z => by have := h1.mp z; cases this
    omega
  · intro h
    cases hb : B (kp B N v + 1) with
    | true => rfl
    | false => rw [hb] at h1; have := h1.mpr rfl; omega
theorem RS_RM {B : Nat → Bool} {q : Nat} (k : Nat) : RS B q 1 k = RM B q (q + 1) k := by
  unfold RS RM
  by_cases c : k < q
  · rw [if_pos c, if_pos c]
  · rw [if_neg c, if_neg c, if_neg (by omega)]
theorem o_prune {low high : Int64} {N : Nat} {g lo hi st w : Nat → Int32} (hX : XT low high N g lo hi) (hM : MT st (bb low high) N w) {p : Int32} {Q : U7 → (Nat → Int32) → Prop} (hQ : ∀ u st', RR u st' → (∀ k, 193 ≤ k → st' k = st k) → Q u st') : wX5_prune low high (nI N) g lo hi w p (fun r1 u1 => wX6_prune st p (fun r2 u2 => r1 = r2 ∧ Q u1 u2)) := by
  have hN := hX.1.1
  have h64 := hM.m64 hX.1
  have hNc := hX.1.two
  have hQ0 : Q (low, high, nI N, g, lo, hi, w) st := hQ _ st ⟨N, rfl, hX, hM⟩ (fun _ _ => rfl)
  unfold wX5_prune
  rcases node_or p (fb_ct (bb low high) N) with ⟨v, hv, rfl⟩ | c
  · obtain ⟨o1, o2, o3⟩ := kp_spec hv
    obtain ⟨z1, z2, z3, z4⟩ := sz_eq hX.1 hv
    have hs := sh_spec hX.1 o1 o2
    have hcs := cn_sz hX.1 hv
    refine x_has_y hX hv (t1b (x_firstChildOf hX hv (fun c1 => ?_) (fun c1 => ?_)))
    · have hle := eg_le (i := 0) hX.1 o1 o2
      have := fb_ct_le (bb low high) (eg (bb low high) N (kp (bb low high) N v) 0)
      refine ⟨fun z => absurd z (m4_ne (by omega)), fun _ => ?_⟩
      unfold wX6_prune
      exact m_node1 hM.2.1 h64 hv (t1b (m_sizeOf hM.1 hX.1 hv (pk_le (sz (bb low high) N v) 1 (fun z => by have := hcs.mp c1; omega) (fun _ => ⟨rfl, hQ0⟩))))
    · have e1 : sz (bb low high) N v = 1 := by
        rcases Nat.lt_or_ge 1 (sz (bb low high) N v) with y | y
        · have := hcs.mpr y; omega
        · omega
      have es : sh (bb low high) N (kp (bb low high) N v) = kp (bb low high) N v + 1 := by omega
      refine ⟨fun _ => ?_, fun z => absurd rfl z⟩
      refine x_removeSubtree hX hv h64 (fun low' high' g' lo' hi' w' h1 h2 h3 h3' => ?_)
      rw [e1] at h1 h2 h3' ⊢
      have h1 : ∀ k, bb low' high' k = RM (bb low high) (kp (bb low high) N v) (sh (bb low high) N (kp (bb low high) N v)) k := fun k => by rw [h1 k, es]; exact RS_RM k
      have h3 : ∀ i, i + 1 < fb_ct (bb low high) N → w' i = if i < v then w i else w (i + 1) := fun i hi => by
        by_cases c : i < v
        · rw [if_pos c, h3 i c]
        · rw [if_neg c, h3' i (by omega) hi]
      have hc : 0 < kp (bb low high) N v ∨ N = 2 ∨ cn (bb low high) N 0 = 1 := by
        rcases Nat.eq_zero_or_pos (kp (bb low high) N v) with y | y
        · have hr := (sh_root hX.1 o1 o2 (by rw [y, ex_0]; decide)).2
          exact Or.inr (Or.inl (by omega))
        · exact Or.inl y
      have hxt : XT low' high' (N - 2) g' lo' hi' := by
        refine ⟨(RM_Tr hX.1 o1 o2 hc).cong (fun k _ => (h1 k).symm), fun k hk => ?_, h2⟩
        rw [h1 k, RM_hi (by omega) (by omega), hX.2.1 _ (by omega)]
      refine x_nodes hxt ?_
      unfold wX6_prune
      refine m_node1 hM.2.1 h64 hv (t1b (m_sizeOf hM.1 hX.1 hv (pk_le (sz (bb low high) N v) 1 (fun _ => m_goesOut hM hX.1 hv (fun st' h4 h5 => ?_)) (fun z => by omega))))
      obtain ⟨k1, k2, k3, k4⟩ := rr_rm hX hv hc h1 h2 h3 h4
      exact m_many k4.2.1 ⟨rfl, hQ _ st' k1 h5⟩
  · refine x_has_n hX c (t0b ?_)
    unfold wX6_prune
    exact m_node_n hM.2.1 h64 c (t0b ⟨rfl, hQ0⟩)
