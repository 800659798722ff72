/-! the relation, and the calls that write -/
def ns_Q (m : Nat) (F S ho : Nat → Int32) : Prop := m ≤ 12 ∧ ∀ i, i < m → (∃ a, a < 5 ∧ F i = nI a) ∧ (∃ b, b < 5 ∧ S i = nI b) ∧ (ho i = 0 ∨ ho i = 1 ∨ ho i = 2)
theorem ns_QR {m : Nat} {F S ho : Nat → Int32} (h : ns_Q m F S ho) : ∃ A B, ns_R m F S ho A B := by
  refine ⟨fun i => (F i).toNatClampNeg, fun i => (S i).toNatClampNeg, h.1, fun i hi => ?_⟩
  obtain ⟨⟨a, ha, ea⟩, ⟨b, hb, eb⟩, hh⟩ := h.2 i hi
  have e1 : (F i).toNatClampNeg = a := by rw [ea]; exact nI_clamp (by omega)
  have e2 : (S i).toNatClampNeg = b := by rw [eb]; exact nI_clamp (by omega)
  dsimp only
  rw [e1, e2]
  exact ⟨ea, ha, eb, hb, hh⟩
def i_Rel (k : Nat) (u : SX) (v : SY) : Prop := ∃ m F S sh ho pt co, ns_Q m F S ho ∧ u = (nI m, F, S, sh, ho) ∧ v = (nI m, F, S, sh, ho, pt, co)
theorem ns_rel {k m : Nat} {F S sh ho : Nat → Int32} (h : ns_Q m F S ho) (pt co : Nat → Int32) : i_Rel k (nI m, F, S, sh, ho) (nI m, F, S, sh, ho, pt, co) := ⟨m, F, S, sh, ho, pt, co, h, rfl, rfl⟩
theorem i_up {k : Nat} {u : SX} {v : SY} (h : i_Rel k u v) : i_Rel (k + 4) u v := h
theorem i_vc0 : wpX_init (fun u => wpY_init (fun v => i_Rel 0 u v)) :=
  ⟨0, fun _ => 0, fun _ => 0, fun _ => 0, fun _ => 0, fun _ => 0, fun _ => 0, ⟨by decide, fun i hi => absurd hi (Nat.not_lt_zero i)⟩, rfl, rfl⟩
theorem ns_nd (x : Int32) : (x < 0 ∨ (¬ x < 0 ∧ 5 ≤ x ∧ 4 < x)) ∨ ∃ s, s < 5 ∧ x = nI s := by
  rcases pk_ix x (n := 5) (by decide) with h | h | h
  · exact Or.inl (Or.inl h)
  · obtain ⟨k, hk, rfl⟩ := nI_of (x := x) (by
      intro q
      exact absurd (Int32.le_trans h (Int32.le_of_lt q)) (by decide))
    have h2 := h
    rw [nI_leI (by decide) hk] at h2
    exact Or.inl (Or.inr ⟨nI_pos hk, h, nI_lt (a := 4) (by omega) hk⟩)
  · exact Or.inr h
theorem ns_xnd0 {post : Int32 → Prop} {x : Int32} (hx : x < 0 ∨ (¬ x < 0 ∧ 5 ≤ x ∧ 4 < x)) (h : post 0) : wpX_isNode post x := by
  unfold wpX_isNode
  rcases hx with hx | ⟨h1, h2, h3⟩
  · exact br_t hx h
  · exact br_f h1 (br_t h2 h)
theorem ns_xnd1 {post : Int32 → Prop} {s : Nat} (hs : s < 5) (h : post 1) : wpX_isNode post (nI s) := by
  unfold wpX_isNode
  exact br_f (nI_pos (by omega)) (br_f (nI_ge (b := 5) hs (by decide)) h)
theorem ns_ynd0 {post : Int32 → Prop} {x e : Int32} {F S sh ho pt co : Nat → Int32} (hx : x < 0 ∨ (¬ x < 0 ∧ 5 ≤ x ∧ 4 < x)) (h : post 0) : wpY_isNode post (e, F, S, sh, ho, pt, co) x := by
  unfold wpY_isNode
  dsimp only
  rcases hx with hx | ⟨h1, h2, h3⟩
  · exact br_t hx h
  · exact br_f h1 (br_t h3 h)
theorem ns_ynd1 {post : Int32 → Prop} {s : Nat} {e : Int32} {F S sh ho pt co : Nat → Int32} (hs : s < 5) (h : post 1) : wpY_isNode post (e, F, S, sh, ho, pt, co) (nI s) := by
  unfold wpY_isNode
  dsimp only
  exact br_f (nI_pos (by omega)) (br_f (nI_nlt (a := 4) (by omega) (by decide)) h)
theorem ns_xed0 {post : Int32 → Prop} {x e : Int32} {F S sh ho : Nat → Int32} (hx : x < 0 ∨ e ≤ x) (h : post 0) : wpX_isEdge post (e, F, S, sh, ho) x := by
  unfold wpX_isEdge
  dsimp only
  by_cases h0 : x < 0
  · exact br_t h0 h
  · exact br_f h0 (br_t (hx.resolve_left h0) h)
theorem ns_xed1 {post : Int32 → Prop} {m i : Nat} {F S sh ho : Nat → Int32} (hm : m ≤ 12) (hi : i < m) (h : post 1) : wpX_isEdge post (nI m, F, S, sh, ho) (nI i) := by
  unfold wpX_isEdge
  dsimp only
  exact br_f (nI_pos (by omega)) (br_f (nI_ge hi (by omega)) h)
theorem ns_yed0 {post : Int32 → Prop} {x e : Int32} {F S sh ho pt co : Nat → Int32} (hx : x < 0 ∨ e ≤ x) (h : post 0) : wpY_isEdge post (e, F, S, sh, ho, pt, co) x := by
  unfold wpY_isEdge
  dsimp only
  by_cases h0 : x < 0
  · exact br_t h0 h
  · exact br_f h0 (br_t (hx.resolve_left h0) h)
theorem ns_yed1 {post : Int32 → Prop} {m i : Nat} {F S sh ho pt co : Nat → Int32} (hm : m ≤ 12) (hi : i < m) (h : post 1) : wpY_isEdge post (nI m, F, S, sh, ho, pt, co) (nI i) := by
  unfold wpY_isEdge
  dsimp only
  exact br_f (nI_pos (by omega)) (br_f (nI_ge hi (by omega)) h)
theorem ns_xsh0 {post : Int32 → Prop} {x : Int32} (hx : x < 0 ∨ (¬ x < 0 ∧ 16 < x)) (h : post 0) : wpX_isShare post x := by
  unfold wpX_isShare
  rcases hx with hx | ⟨h1, h2⟩
  · exact br_t hx h
  · exact br_f h1 (br_t h2 h)
theorem ns_xsh1 {post : Int32 → Prop} {x : Int32} (h1 : ¬ x < 0) (h2 : ¬ 16 < x) (h : post 1) : wpX_isShare post x := by
  unfold wpX_isShare
  exact br_f h1 (br_f h2 h)
theorem ns_shc (x : Int32) : (x < 0 ∨ (¬ x < 0 ∧ 16 < x)) ∨ (¬ x < 0 ∧ ¬ 16 < x) := by
  by_cases h1 : x < 0
  · exact Or.inl (Or.inl h1)
  · by_cases h2 : 16 < x
    · exact Or.inl (Or.inr ⟨h1, h2⟩)
    · exact Or.inr ⟨h1, h2⟩
theorem ns_ysh0 {A B C : Prop} {x : Int32} (hx : x < 0 ∨ (¬ x < 0 ∧ 16 < x)) (h : A) (h' : C) : (x < 0 → A) ∧ (¬ x < 0 → ((x ≤ 16 → B) ∧ (¬ x ≤ 16 → C))) := by
  rcases hx with hx | ⟨h1, h2⟩
  · exact br_t hx h
  · exact br_f h1 (br_f (Int32.not_le.mpr h2) h')
theorem ns_Qu {m : Nat} {F S ho : Nat → Int32} {a b : Nat} {x : Int32} (h : ns_Q m F S ho) (hm : m < 12) (ha : a < 5) (hb : b < 5) (hx : x = 0 ∨ x = 1 ∨ x = 2) : ns_Q (m + 1) (upd F m (nI a)) (upd S m (nI b)) (upd ho m x) := by
  refine ⟨by omega, fun i hi => ?_⟩
  by_cases e : i = m
  · rw [e, pk_us, pk_us, pk_us]
    exact ⟨⟨a, ha, rfl⟩, ⟨b, hb, rfl⟩, hx⟩
  · rw [pk_un e, pk_un e, pk_un e]
    exact h.2 i (by omega)
theorem i_vc_link {k : Nat} {u : SX} {v : SY} (I : i_Rel k u v) (hk : k + 4 ≤ 2048) (v1 : Int32) (v2 : Int32) (v3 : Int32) : wpX_link (fun r u' => wpY_link (fun r' v' => r' = r ∧ i_Rel (k + 4) u' v') v v1 v2 v3) u v1 v2 v3 := by
  obtain ⟨m, F, S, sh, ho, pt, co, hQ, rfl, rfl⟩ := I
  have hm := hQ.1
  unfold wpX_link wpY_link
  dsimp only
  rcases ns_nd v1 with h1 | ⟨a, ha, rfl⟩
  · refine ns_xnd0 h1 (br_t rfl ?_)
    refine ns_ynd0 h1 (br_t rfl ?_)
    exact ⟨rfl, ns_rel hQ _ _⟩
  · refine ns_xnd1 ha (br_f (by decide) ?_)
    rcases ns_nd v2 with h2 | ⟨b, hb, rfl⟩
    · refine ns_xnd0 h2 (br_t rfl ?_)
      refine ns_ynd1 ha (br_f (by decide) ?_)
      refine ns_ynd0 h2 (br_t rfl ?_)
      exact ⟨rfl, ns_rel hQ _ _⟩
    · refine ns_xnd1 hb (br_f (by decide) ?_)
      by_cases e : nI a = nI b
      · refine br_t e ?_
        refine ns_ynd1 ha (br_f (by decide) ?_)
        refine ns_ynd1 hb (br_f (by decide) ?_)
        exact br_t e ⟨rfl, ns_rel hQ _ _⟩
      · refine br_f e ?_
        rcases ns_shc v3 with h3 | ⟨h3, h4⟩
        · refine ns_xsh0 h3 (br_t rfl ?_)
          refine ns_ynd1 ha (br_f (by decide) ?_)
          refine ns_ynd1 hb (br_f (by decide) ?_)
          exact br_f e (ns_ysh0 h3 ⟨rfl, ns_rel hQ _ _⟩ ⟨rfl, ns_rel hQ _ _⟩)
        · refine ns_xsh1 h3 h4 (br_f (by decide) ?_)
          refine pk_lt m 12 (fun q => ?_) (fun q => ?_)
          · have hin : vp_in (nI m) 12 := vp_in_nI q (by decide)
            have ec : (nI m).toNatClampNeg = m := nI_clamp (by omega)
            rw [ec]
            refine ⟨hin, nm_e ⟨hin, nm_e ⟨hin, nm_e ⟨hin, nm_e (ns_nx ?_)⟩⟩⟩⟩
            refine ns_ynd1 ha (br_f (by decide) ?_)
            refine ns_ynd1 hb (br_f (by decide) ?_)
            refine br_f e (br_f h3 (br_t (Int32.not_lt.mp h4) (pk_eq m 12 (fun z => absurd z (by omega)) (fun _ => ?_))))
            refine ⟨hin, nm_e ⟨hin, nm_e ⟨hin, nm_e ⟨hin, nm_e (ns_nx ?_)⟩⟩⟩⟩
            exact ⟨nI_pred m, ns_rel (ns_Qu hQ q ha hb (Or.inr (Or.inr rfl))) _ _⟩
          · refine ns_ynd1 ha (br_f (by decide) ?_)
            refine ns_ynd1 hb (br_f (by decide) ?_)
            exact br_f e (br_f h3 (br_t (Int32.not_lt.mp h4) (pk_eq m 12 (fun z => ⟨rfl, ns_rel hQ _ _⟩) (fun z => absurd z (by omega)))))
/-! unlink -/
def ns_gU (a : (Nat → Int32) × (Nat → Int32) × (Nat → Int32) × (Nat → Int32)) (j : Nat) : (Nat → Int32) × (Nat → Int32) × (Nat → Int32) × (Nat → Int32) := (upd a.1 j (a.1 (j + 1)), upd a.2.1 j (a.2.1 (j + 1)), upd a.2.2.1 j (a.2.2.1 (j + 1)), upd a.2.2.2 j (a.2.2.2 (j + 1)))
theorem ns_xul {post : Int32 → SX → Prop} {m : Nat} (hm : m + 1 ≤ 12) : ∀ d j a, j + d = m → post (nI m) (nI m, (ns_fo ns_gU d j a).1, (ns_fo ns_gU d j a).2.1, (ns_fo ns_gU d j a).2.2.1, (ns_fo ns_gU d j a).2.2.2) → wX_unlink_12 post (nI (m + 1)) (d + 1) (nI j) a.1 a.2.1 a.2.2.1 a.2.2.2 := by
  have ep : nI (m + 1) - 1 = nI m := nI_pred m
  refine ns_loop (fun n a j => wX_unlink_12 post (nI (m + 1)) n (nI j) a.1 a.2.1 a.2.2.1 a.2.2.2) ns_gU (fun a => post (nI m) (nI m, a.1, a.2.1, a.2.2.1, a.2.2.2)) m ?_ ?_
  · intro n a h
    rw [wX_unlink_12]
    rw [ep]
    exact br_t (nI_le (Nat.le_refl m) (by omega)) (nm_e h)
  · intro n a j hj h
    have i1 : vp_in (nI j) 12 := vp_in_nI (by omega) (by decide)
    have i2 : vp_in (nI (j + 1)) 12 := vp_in_nI (by omega) (by decide)
    have e1 : (nI j).toNatClampNeg = j := nI_clamp (by omega)
    have e2 : (nI (j + 1)).toNatClampNeg = j + 1 := nI_clamp (by omega)
    rw [wX_unlink_12]
    dsimp only
    rw [ep, nI_1, e1, e2]
    exact br_f (nI_ge hj (by omega)) ⟨i2, i1, nm_e ⟨i2, i1, nm_e ⟨i2, i1, nm_e ⟨i2, i1, nm_e (nm_e h)⟩⟩⟩⟩
theorem ns_yul {post : Int32 → SY → Prop} {m : Nat} {pt co : Nat → Int32} (hm : m + 1 ≤ 12) : ∀ d j a, j + d = m → post (nI m) (nI m, (ns_fo ns_gU d j a).1, (ns_fo ns_gU d j a).2.1, (ns_fo ns_gU d j a).2.2.1, (ns_fo ns_gU d j a).2.2.2, pt, co) → wY_unlink_22 post (nI m) (d + 1) (nI j) a.1 a.2.1 a.2.2.1 a.2.2.2 pt co := by
  refine ns_loop (fun n a j => wY_unlink_22 post (nI m) n (nI j) a.1 a.2.1 a.2.2.1 a.2.2.2 pt co) ns_gU (fun a => post (nI m) (nI m, a.1, a.2.1, a.2.2.1, a.2.2.2, pt, co)) m ?_ ?_
  · intro n a h
    exact br_t (nI_le (Nat.le_refl m) (by omega)) h
  · intro n a j hj h
    have i1 : vp_in (nI j) 12 := vp_in_nI (by omega) (by decide)
    have i2 : vp_in (nI (j + 1)) 12 := vp_in_nI (by omega) (by decide)
    have e1 : (nI j).toNatClampNeg = j := nI_clamp (by omega)
    have e2 : (nI (j + 1)).toNatClampNeg = j + 1 := nI_clamp (by omega)
    rw [wY_unlink_22]
    dsimp only
    rw [nI_1, e1, e2]
    exact br_f (nI_ge hj (by omega)) ⟨i2, i1, nm_e ⟨i2, i1, nm_e ⟨i2, i1, nm_e ⟨i2, i1, nm_e (nm_e h)⟩⟩⟩⟩
theorem ns_ulQ {m i : Nat} {F S sh ho : Nat → Int32} (h : ns_Q (m + 1) F S ho) (hi : i ≤ m) : ns_Q m (ns_fo ns_gU (m - i) i (F, S, sh, ho)).1 (ns_fo ns_gU (m - i) i (F, S, sh, ho)).2.1 (ns_fo ns_gU (m - i) i (F, S, sh, ho)).2.2.2 := by
  have key := ns_foI ns_gU (fun _ a => ns_Q (m + 1) a.1 a.2.1 a.2.2.2) m ?_ (m - i) i (F, S, sh, ho) (by omega) h
  · exact ⟨Nat.le_of_succ_le key.1, fun j hj => key.2 j (by omega)⟩
  · rintro a j hj ⟨h1, h2⟩
    refine ⟨h1, fun k hk => ?_⟩
    unfold ns_gU
    dsimp only
    by_cases e : k = j
    · rw [e, pk_us, pk_us, pk_us]
      exact h2 (j + 1) (by omega)
    · rw [pk_un e, pk_un e, pk_un e]
      exact h2 k hk
theorem i_vc_unlink {k : Nat} {u : SX} {v : SY} (I : i_Rel k u v) (hk : k + 4 ≤ 2048) (v1 : Int32) : wpX_unlink (fun r u' => wpY_unlink (fun r' v' => r' = r ∧ i_Rel (k + 4) u' v') v v1) u v1 := by
  obtain ⟨m, F, S, sh, ho, pt, co, hQ, rfl, rfl⟩ := I
  have hm := hQ.1
  unfold wpX_unlink wpY_unlink
  dsimp only
  rcases pk_ix v1 (n := m) (by omega) with h | h | ⟨i, hi, rfl⟩
  · refine ns_xed0 (Or.inl h) (br_t rfl ?_)
    refine ns_yed0 (Or.inl h) (br_t rfl ?_)
    exact ⟨rfl, ns_rel hQ _ _⟩
  · refine ns_xed0 (Or.inr h) (br_t rfl ?_)
    refine ns_yed0 (Or.inr h) (br_t rfl ?_)
    exact ⟨rfl, ns_rel hQ _ _⟩
  · obtain ⟨m, rfl⟩ : ∃ q, m = q + 1 := ⟨m - 1, by omega⟩
    refine ns_xed1 hm hi (br_f (by decide) ⟨m - i + 1, ?_⟩)
    refine ns_xul (by omega) (m - i) i (F, S, sh, ho) (by omega) ?_
    refine ns_yed1 hm hi (br_f (by decide) (nm_r (nI_pred m) ⟨m - i + 1, ?_⟩))
    refine ns_yul (by omega) (m - i) i (F, S, sh, ho) (by omega) ?_
    exact ⟨rfl, ns_rel (ns_ulQ hQ (by omega)) _ _⟩
theorem i_vc_share {k : Nat} {u : SX} {v : SY} (I : i_Rel k u v) (hk : k + 4 ≤ 2048) (v1 : Int32) (v2 : Int32) : wpX_share (fun r u' => wpY_share (fun r' v' => r' = r ∧ i_Rel (k + 4) u' v') v v1 v2) u v1 v2 := by
  obtain ⟨m, F, S, sh, ho, pt, co, hQ, rfl, rfl⟩ := I
  have hm := hQ.1
  unfold wpX_share wpY_share
  dsimp only
  rcases pk_ix v1 (n := m) (by omega) with h | h | ⟨i, hi, rfl⟩
  · refine ns_xed0 (Or.inl h) (br_t rfl ?_)
    refine ns_yed0 (Or.inl h) (br_t rfl ?_)
    exact ⟨rfl, ns_rel hQ _ _⟩
  · refine ns_xed0 (Or.inr h) (br_t rfl ?_)
    refine ns_yed0 (Or.inr h) (br_t rfl ?_)
    exact ⟨rfl, ns_rel hQ _ _⟩
  · refine ns_xed1 hm hi (br_f (by decide) ?_)
    rcases ns_shc v2 with h3 | ⟨h3, h4⟩
    · refine ns_xsh0 h3 (br_t rfl ?_)
      refine ns_yed1 hm hi (br_f (by decide) ?_)
      exact ns_ysh0 h3 ⟨rfl, ns_rel hQ _ _⟩ ⟨rfl, ns_rel hQ _ _⟩
    · have hin : vp_in (nI i) 12 := vp_in_nI (by omega) (by decide)
      refine ns_xsh1 h3 h4 (br_f (by decide) ⟨hin, nm_e ⟨hin, nm_e ?_⟩⟩)
      refine ns_yed1 hm hi (br_f (by decide) ?_)
      exact br_f h3 (br_t (Int32.not_lt.mp h4) ⟨hin, nm_e ⟨hin, nm_e ⟨rfl, ns_rel hQ _ _⟩⟩⟩)
theorem i_vc_hold {k : Nat} {u : SX} {v : SY} (I : i_Rel k u v) (hk : k + 4 ≤ 2048) (v1 : Int32) (v2 : Int32) : wpX_hold (fun r u' => wpY_hold (fun r' v' => r' = r ∧ i_Rel (k + 4) u' v') v v1 v2) u v1 v2 := by
  obtain ⟨m, F, S, sh, ho, pt, co, hQ, rfl, rfl⟩ := I
  have hm := hQ.1
  unfold wpX_hold wpY_hold
  dsimp only
  rcases pk_ix v1 (n := m) (by omega) with h | h | ⟨i, hi, rfl⟩
  · refine ns_xed0 (Or.inl h) (br_t rfl ?_)
    refine ns_yed0 (Or.inl h) (br_t rfl ?_)
    exact ⟨rfl, ns_rel hQ _ _⟩
  · refine ns_xed0 (Or.inr h) (br_t rfl ?_)
    refine ns_yed0 (Or.inr h) (br_t rfl ?_)
    exact ⟨rfl, ns_rel hQ _ _⟩
  · refine ns_xed1 hm hi (br_f (by decide) ?_)
    have hin : vp_in (nI i) 12 := vp_in_nI (by omega) (by decide)
    have ec : (nI i).toNatClampNeg = i := nI_clamp (by omega)
    by_cases h0 : v2 < 0
    · refine br_t h0 ?_
      refine ns_yed1 hm hi (br_f (by decide) ?_)
      exact br_t h0 ⟨rfl, ns_rel hQ _ _⟩
    · refine br_f h0 ?_
      by_cases h2 : v2 ≤ 2
      · refine br_t h2 ⟨hin, nm_e ⟨hin, nm_e ?_⟩⟩
        refine ns_yed1 hm hi (br_f (by decide) ?_)
        refine br_f h0 (br_t h2 ⟨hin, nm_e ⟨hin, nm_e ⟨rfl, ?_⟩⟩⟩)
        refine ns_rel ⟨hm, fun j hj => ?_⟩ _ _
        have hj0 := hQ.2 j hj
        refine ⟨hj0.1, hj0.2.1, ?_⟩
        rw [ec]
        by_cases e : j = i
        · rw [e, pk_us]
          obtain ⟨c, hc, rfl⟩ := nI_of2 (x := v2) (M := 2) (n := 2) (by decide) h0 h2
          have cc : c = 0 ∨ c = 1 ∨ c = 2 := by omega
          rcases cc with cc | cc | cc <;> subst cc
          · exact Or.inl rfl
          · exact Or.inr (Or.inl rfl)
          · exact Or.inr (Or.inr rfl)
        · rw [pk_un e]; exact hj0.2.2
      · refine br_f h2 ?_
        refine ns_yed1 hm hi (br_f (by decide) ?_)
        exact br_f h0 (br_f h2 ⟨rfl, ns_rel hQ _ _⟩)
theorem i_vc_clear {k : Nat} {u : SX} {v : SY} (I : i_Rel k u v) (hk : k + 4 ≤ 2048) : wpX_clear (fun r u' => wpY_clear (fun r' v' => r' = r ∧ i_Rel (k + 4) u' v') v) u := by
  obtain ⟨m, F, S, sh, ho, pt, co, hQ, rfl, rfl⟩ := I
  unfold wpX_clear wpY_clear
  dsimp only
  exact ⟨rfl, ns_rel (m := 0) ⟨by decide, fun i hi => absurd hi (Nat.not_lt_zero i)⟩ pt co⟩
