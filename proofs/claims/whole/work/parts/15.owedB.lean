/-! the questions -/
theorem i_vc_weight {k : Nat} {u : SX} {v : SY} (I : i_Rel k u v) (hk : k + 4 ≤ 2048) (v1 : Int32) : wpX_weight (fun r => wpY_weight (fun r' v' => r' = r ∧ i_Rel (k + 4) u v') v v1) u v1 := by
  obtain ⟨m, F, S, sh, ho, pt, co, hQ, rfl, rfl⟩ := I
  obtain ⟨A, B, hR⟩ := ns_QR hQ
  unfold wpX_weight wpY_weight
  dsimp only
  rcases ns_mk v1 with h | ⟨s, hs, rfl⟩
  · refine ns_xmk0 h (br_t rfl ?_)
    refine ns_ymk0 h (br_t rfl ?_)
    exact ⟨rfl, ns_rel hQ _ _⟩
  · refine ns_xmk1 hs (br_f (by decide) ?_)
    refine ns_xqW hR hs ?_
    refine ns_ymk1 hs (br_f (by decide) ?_)
    exact ns_yqW hR hs (fun pt => ⟨rfl, ns_rel hQ _ _⟩)
theorem i_vc_states {k : Nat} {u : SX} {v : SY} (I : i_Rel k u v) (hk : k + 4 ≤ 2048) (v1 : Int32) (v2 : Int32) : wpX_states (fun r => wpY_states (fun r' v' => r' = r ∧ i_Rel (k + 4) u v') v v1 v2) u v1 v2 := by
  obtain ⟨m, F, S, sh, ho, pt, co, hQ, rfl, rfl⟩ := I
  obtain ⟨A, B, hR⟩ := ns_QR hQ
  unfold wpX_states wpY_states
  dsimp only
  rcases ns_mk v1 with h | ⟨s, hs, rfl⟩
  · refine ns_xmk0 h (br_t rfl ?_)
    refine ns_ymk0 h (br_t rfl ?_)
    exact ⟨rfl, ns_rel hQ _ _⟩
  · refine ns_xmk1 hs (br_f (by decide) ?_)
    refine ns_xqS hR hs ?_
    refine ns_ymk1 hs (br_f (by decide) ?_)
    exact ns_yqS hR hs (fun pt => ⟨rfl, ns_rel hQ _ _⟩)
theorem i_vc_parts {k : Nat} {u : SX} {v : SY} (I : i_Rel k u v) (hk : k + 4 ≤ 2048) (v1 : Int32) : wpX_parts (fun r => wpY_parts (fun r' v' => r' = r ∧ i_Rel (k + 4) u v') v v1) u v1 := by
  obtain ⟨m, F, S, sh, ho, pt, co, hQ, rfl, rfl⟩ := I
  obtain ⟨A, B, hR⟩ := ns_QR hQ
  unfold wpX_parts wpY_parts
  dsimp only
  refine ns_xqP hR ?_
  exact ns_yqP hR (fun pt => ⟨rfl, ns_rel hQ _ _⟩)
theorem i_vc_pairs {k : Nat} {u : SX} {v : SY} (I : i_Rel k u v) (hk : k + 4 ≤ 2048) : wpX_pairs (fun r => wpY_pairs (fun r' v' => r' = r ∧ i_Rel (k + 4) u v') v) u := by
  obtain ⟨m, F, S, sh, ho, pt, co, hQ, rfl, rfl⟩ := I
  obtain ⟨A, B, hR⟩ := ns_QR hQ
  unfold wpX_pairs wpY_pairs
  dsimp only
  refine ns_xqQ hR ?_
  exact ns_yqQ hR (fun pt => ⟨rfl, ns_rel hQ _ _⟩)
theorem i_vc_pivotal {k : Nat} {u : SX} {v : SY} (I : i_Rel k u v) (hk : k + 4 ≤ 2048) (v1 : Int32) (v2 : Int32) : wpX_pivotal (fun r => wpY_pivotal (fun r' v' => r' = r ∧ i_Rel (k + 4) u v') v v1 v2) u v1 v2 := by
  obtain ⟨m, F, S, sh, ho, pt, co, hQ, rfl, rfl⟩ := I
  obtain ⟨A, B, hR⟩ := ns_QR hQ
  have hm := hQ.1
  unfold wpX_pivotal wpY_pivotal
  dsimp only
  rcases ns_mk v1 with h | ⟨s, hs, rfl⟩
  · refine ns_xmk0 h (br_t rfl ?_)
    refine ns_ymk0 h (br_t rfl ?_)
    exact ⟨rfl, ns_rel hQ _ _⟩
  · refine ns_xmk1 hs (br_f (by decide) ?_)
    rcases pk_ix v2 (n := m) (by omega) with h | h | ⟨i, hi, rfl⟩
    · refine ns_xed0 (Or.inl h) (br_t rfl ?_)
      refine ns_ymk1 hs (br_f (by decide) ?_)
      refine ns_yed0 (Or.inl h) (br_t rfl ?_)
      exact ⟨rfl, ns_rel hQ _ _⟩
    · refine ns_xed0 (Or.inr h) (br_t rfl ?_)
      refine ns_ymk1 hs (br_f (by decide) ?_)
      refine ns_yed0 (Or.inr h) (br_t rfl ?_)
      exact ⟨rfl, ns_rel hQ _ _⟩
    · refine ns_xed1 hm hi (br_f (by decide) ?_)
      refine ns_xqV hR hs hi ?_
      refine ns_ymk1 hs (br_f (by decide) ?_)
      refine ns_yed1 hm hi (br_f (by decide) ?_)
      exact ns_yqV hR hs hi (fun pt => ⟨(ns_pvE A B sh ho hi).symm, ns_rel hQ _ _⟩)
theorem i_vc_worst {k : Nat} {u : SX} {v : SY} (I : i_Rel k u v) (hk : k + 4 ≤ 2048) (v1 : Int32) : wpX_worst (fun r => wpY_worst (fun r' v' => r' = r ∧ i_Rel (k + 4) u v') v v1) u v1 := by
  obtain ⟨m, F, S, sh, ho, pt, co, hQ, rfl, rfl⟩ := I
  obtain ⟨A, B, hR⟩ := ns_QR hQ
  have hm := hQ.1
  have hf := ns_full hm
  unfold wpX_worst wpY_worst
  dsimp only
  rcases ns_mk v1 with h | ⟨s, hs, rfl⟩
  · refine ns_xmk0 h (br_t rfl ?_)
    refine ns_ymk0 h (br_t rfl ?_)
    exact ⟨rfl, ns_rel hQ _ _⟩
  · refine ns_xmk1 hs (br_f (by decide) ?_)
    unfold wpX_worstState
    dsimp only
    refine ns_xmk1 hs (br_f (by decide) ?_)
    refine ns_xqX (A := A) (B := B) hR hs ?_
    have fi := ns_FstI A B sh ho m s
    have fin : ∀ r, (ns_fo (ns_gX A B sh ho m s) (2 ^ m) 0 (0, -2)).1 = r → wpY_isMask (fun r_1 => ((r_1 = 0 → ((-1 : Int64) = r ∧ i_Rel (k + 4) (nI m, F, S, sh, ho) (nI m, F, S, sh, ho, pt, co))) ∧ (¬ r_1 = 0 → wpY_worstWeight (fun r_10 u => match u with | (f_edges_11, a_from_12, a_to_13, a_shares_14, a_held_15, a_part_16, a_colour_17) => (r_10 = r ∧ i_Rel (k + 4) (nI m, F, S, sh, ho) (f_edges_11, a_from_12, a_to_13, a_shares_14, a_held_15, a_part_16, a_colour_17))) (nI m, F, S, sh, ho, pt, co) (nI s)))) (nI m, F, S, sh, ho, pt, co) (nI s) := by
      intro r hr
      refine ns_ymk1 hs (br_f (by decide) ?_)
      exact ns_yqX (A := A) (B := B) hR hs (fun pt => ⟨hr, ns_rel hQ _ _⟩)
    rcases fi.2 with ⟨h2, h3⟩ | ⟨h2, t0, h3, g1, g2, g3, g4, g5⟩
    · rw [h3]
      exact br_f (by decide) (fin 0 h2)
    · rw [g4]
      refine br_t (nI_pos' (by omega)) (ns_xwt hm (by omega) ?_)
      exact fin _ g3.symm
theorem i_vc_worstState {k : Nat} {u : SX} {v : SY} (I : i_Rel k u v) (hk : k + 4 ≤ 2048) (v1 : Int32) : wpX_worstState (fun r => wpY_worstState (fun r' v' => r' = r ∧ i_Rel (k + 4) u v') v v1) u v1 := by
  obtain ⟨m, F, S, sh, ho, pt, co, hQ, rfl, rfl⟩ := I
  obtain ⟨A, B, hR⟩ := ns_QR hQ
  unfold wpX_worstState wpY_worstState
  dsimp only
  rcases ns_mk v1 with h | ⟨s, hs, rfl⟩
  · refine ns_xmk0 h (br_t rfl ?_)
    refine ns_ymk0 h (br_t rfl ?_)
    exact ⟨rfl, ns_rel hQ _ _⟩
  · refine ns_xmk1 hs (br_f (by decide) ?_)
    refine ns_xqX (A := A) (B := B) hR hs ?_
    refine ns_ymk1 hs (br_f (by decide) ?_)
    refine ns_yqX (A := A) (B := B) hR hs (fun pt => ?_)
    exact ns_yqZ hR hs (ns_FstI A B sh ho m s) (fun pt => ⟨rfl, ns_rel hQ _ _⟩)
theorem i_vc_cuts {k : Nat} {u : SX} {v : SY} (I : i_Rel k u v) (hk : k + 4 ≤ 2048) (v1 : Int32) (v2 : Int32) : wpX_cuts (fun r => wpY_cuts (fun r' v' => r' = r ∧ i_Rel (k + 4) u v') v v1 v2) u v1 v2 := by
  obtain ⟨m, F, S, sh, ho, pt, co, hQ, rfl, rfl⟩ := I
  obtain ⟨A, B, hR⟩ := ns_QR hQ
  unfold wpX_cuts wpY_cuts
  dsimp only
  rcases ns_mk v1 with h | ⟨s, hs, rfl⟩
  · refine ns_xmk0 h (br_t rfl ?_)
    refine ns_ymk0 h (br_t rfl ?_)
    exact ⟨rfl, ns_rel hQ _ _⟩
  · refine ns_xmk1 hs (br_f (by decide) ?_)
    refine ns_xqC hR hs ?_
    refine ns_ymk1 hs (br_f (by decide) ?_)
    exact ns_yqC hR hs (fun pt => ⟨rfl, ns_rel hQ _ _⟩)
theorem i_vc_trees {k : Nat} {u : SX} {v : SY} (I : i_Rel k u v) (hk : k + 4 ≤ 2048) : wpX_trees (fun r => wpY_trees (fun r' v' => r' = r ∧ i_Rel (k + 4) u v') v) u := by
  obtain ⟨m, F, S, sh, ho, pt, co, hQ, rfl, rfl⟩ := I
  obtain ⟨A, B, hR⟩ := ns_QR hQ
  unfold wpX_trees wpY_trees
  dsimp only
  refine ns_xqT hR ?_
  exact ns_yqT hR (fun pt => ⟨rfl, ns_rel hQ _ _⟩)
theorem i_vc_forests {k : Nat} {u : SX} {v : SY} (I : i_Rel k u v) (hk : k + 4 ≤ 2048) (v1 : Int32) : wpX_forests (fun r => wpY_forests (fun r' v' => r' = r ∧ i_Rel (k + 4) u v') v v1) u v1 := by
  obtain ⟨m, F, S, sh, ho, pt, co, hQ, rfl, rfl⟩ := I
  obtain ⟨A, B, hR⟩ := ns_QR hQ
  unfold wpX_forests wpY_forests
  dsimp only
  refine ns_xqF hR ?_
  exact ns_yqF hR (fun pt => ⟨rfl, ns_rel hQ _ _⟩)
theorem ns_5p (q : Nat) : (((nI q * nI q) * nI q) * nI q) * nI q = nI (q ^ 5) := by
  rw [pk_mul, pk_mul, pk_mul, pk_mul]
  congr 1
  rw [show q ^ 5 = q ^ 4 * q from Nat.pow_succ _ _, show q ^ 4 = q ^ 3 * q from Nat.pow_succ _ _, show q ^ 3 = q ^ 2 * q from Nat.pow_succ _ _, show q ^ 2 = q ^ 1 * q from Nat.pow_succ _ _, Nat.pow_one]
theorem i_vc_colourings {k : Nat} {u : SX} {v : SY} (I : i_Rel k u v) (hk : k + 4 ≤ 2048) (v1 : Int32) : wpX_colourings (fun r => wpY_colourings (fun r' v' => r' = r ∧ i_Rel (k + 4) u v') v v1) u v1 := by
  obtain ⟨m, F, S, sh, ho, pt, co, hQ, rfl, rfl⟩ := I
  obtain ⟨A, B, hR⟩ := ns_QR hQ
  unfold wpX_colourings wpY_colourings
  dsimp only
  by_cases h0 : v1 < 0
  · exact br_t h0 (br_t h0 ⟨rfl, ns_rel hQ _ _⟩)
  · by_cases h4 : v1 ≤ 4
    · obtain ⟨q, hq, rfl⟩ := nI_of2 (x := v1) (M := 4) (n := 4) (by decide) h0 h4
      refine br_f h0 (br_t h4 ?_)
      refine ns_xqK hR hq ?_
      refine br_f h0 (br_t h4 (nm_r (ns_5p q) ?_))
      exact ns_yqK hR hq (fun co => ⟨(ns_colE (ns_RE hR) hq).symm, ns_rel hQ _ _⟩)
    · exact br_f h0 (br_f h4 (br_f h0 (br_f h4 ⟨rfl, ns_rel hQ _ _⟩)))
theorem i_vc_polynomial {k : Nat} {u : SX} {v : SY} (I : i_Rel k u v) (hk : k + 4 ≤ 2048) (v1 : Int32) (v2 : Int32) : wpX_polynomial (fun r => wpY_polynomial (fun r' v' => r' = r ∧ i_Rel (k + 4) u v') v v1 v2) u v1 v2 := by
  obtain ⟨m, F, S, sh, ho, pt, co, hQ, rfl, rfl⟩ := I
  obtain ⟨A, B, hR⟩ := ns_QR hQ
  have hm := hQ.1
  have hf := ns_full hm
  unfold wpX_polynomial wpY_polynomial wpX_isBase
  dsimp only
  by_cases a1 : v1 < -3
  · exact br_t a1 (br_t rfl (br_t a1 ⟨rfl, ns_rel hQ _ _⟩))
  · by_cases a2 : 3 < v1
    · exact br_f a1 (br_t a2 (br_t rfl (br_f a1 (br_t a2 ⟨rfl, ns_rel hQ _ _⟩))))
    · refine br_f a1 (br_f a2 (br_f (by decide) ?_))
      by_cases b1 : v2 < -3
      · exact br_t b1 (br_t rfl (br_f a1 (br_f a2 (br_t b1 ⟨rfl, ns_rel hQ _ _⟩))))
      · by_cases b2 : 3 < v2
        · exact br_f b1 (br_t b2 (br_t rfl (br_f a1 (br_f a2 (br_f b1 (br_f (Int32.not_le.mpr b2) ⟨rfl, ns_rel hQ _ _⟩))))))
        · refine br_f b1 (br_f b2 (br_f (by decide) ?_))
          rw [ns_fullI hm]
          refine ns_xpt hR (by omega) ?_
          refine ns_xqY hR ?_
          refine br_f a1 (br_f a2 (br_f b1 (br_t (Int32.not_lt.mp b2) ?_)))
          refine ns_ycp hR (by omega) (fun pt => ?_)
          exact ns_yqY hR (fun pt => ⟨rfl, ns_rel hQ _ _⟩)
