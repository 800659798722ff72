/-! the questions that both sides ask in the same order -/
theorem ns_top {m j : Nat} (hm : m ≤ 12) (hj : j < 2 ^ m) : ¬ ((1 : Int32) <<< (nI m &&& 31)) ≤ nI j := by
  have hf := ns_full hm
  rw [ns_shl (by omega)]
  exact nI_ge hj (by omega)
theorem ns_end {m : Nat} (hm : m ≤ 12) : ((1 : Int32) <<< (nI m &&& 31)) ≤ nI (2 ^ m) := by
  have hf := ns_full hm
  rw [ns_shl (by omega)]
  exact nI_le (Nat.le_refl _) (by omega)
theorem ns_mk (x : Int32) : (x < 0 ∨ (¬ x < 0 ∧ 31 < x)) ∨ ∃ s, s < 32 ∧ x = nI s := by
  rcases pk_ix x (n := 32) (by decide) with h | h | h
  · exact Or.inl (Or.inl h)
  · obtain ⟨k, hk, rfl⟩ := nI_of (x := x) (by
      intro q
      exact absurd (Int32.le_trans h (Int32.le_of_lt q)) (by decide))
    rw [nI_leI (by decide) hk] at h
    exact Or.inl (Or.inr ⟨nI_pos hk, nI_lt (a := 31) (by omega) hk⟩)
  · exact Or.inr h
theorem ns_xmk0 {post : Int32 → Prop} {x : Int32} (hx : x < 0 ∨ (¬ x < 0 ∧ 31 < x)) (h : post 0) : wpX_isMask post x := by
  unfold wpX_isMask
  rcases hx with hx | ⟨h1, h2⟩
  · exact br_t hx h
  · exact br_f h1 (br_t h2 h)
theorem ns_xmk1 {post : Int32 → Prop} {s : Nat} (hs : s < 32) (h : post 1) : wpX_isMask post (nI s) := by
  unfold wpX_isMask
  exact br_f (nI_pos (by omega)) (br_f (nI_nlt (a := 31) (by omega) (by decide)) h)
theorem ns_ymk0 {post : Int32 → Prop} {x e : Int32} {F S sh ho pt co : Nat → Int32} (hx : x < 0 ∨ (¬ x < 0 ∧ 31 < x)) (h : post 0) : wpY_isMask post (e, F, S, sh, ho, pt, co) x := by
  unfold wpY_isMask
  dsimp only
  rcases hx with hx | ⟨h1, h2⟩
  · exact br_t hx h
  · exact br_f h1 (br_t h2 h)
theorem ns_ymk1 {post : Int32 → Prop} {s : Nat} {e : Int32} {F S sh ho pt co : Nat → Int32} (hs : s < 32) (h : post 1) : wpY_isMask post (e, F, S, sh, ho, pt, co) (nI s) := by
  unfold wpY_isMask
  dsimp only
  exact br_f (nI_pos (by omega)) (br_f (nI_nlt (a := 31) (by omega) (by decide)) h)
/-! weight -/
noncomputable def ns_gW (A B : Nat → Nat) (sh ho : Nat → Int32) (m s : Nat) (a : Int64) (t : Nat) : Int64 := cond (ns_st ho m t (-1)) (cond (ns_cn A B t m s) (a + ns_wt sh ho m t (-1)) a) a
theorem ns_xqW {post : Int64 → Prop} {m s : Nat} {F S sh ho : Nat → Int32} {A B : Nat → Nat} (hR : ns_R m F S ho A B) (hs : s < 32) (h : post (ns_fo (ns_gW A B sh ho m s) (2 ^ m) 0 0)) : ∃ n, wX_weight_16 post (nI s) (nI m) F S sh ho n 0 0 := by
  have hm := hR.1
  have hf := ns_full hm
  refine ⟨2 ^ m + 1, ns_loop (fun n a j => wX_weight_16 post (nI s) (nI m) F S sh ho n a (nI j)) (ns_gW A B sh ho m s) post (2 ^ m) ?_ ?_ (2 ^ m) 0 0 (Nat.zero_add _) h⟩
  · intro n a h
    exact br_t (ns_end hm) h
  · intro n a j hj h
    unfold ns_gW at h
    have ht : j < 2 ^ 31 := by omega
    refine br_f (ns_top hm hj) (ns_xst hm ht (ns_br (fun z1 => ns_nx ?_) (fun z1 => ns_xcn hR ht hs (ns_br (fun z2 => ns_nx ?_) (fun z2 => ns_xwt hm ht (nm_e (ns_nx ?_)))))))
    · rw [z1] at h; exact h
    · rw [z1, z2] at h; exact h
    · rw [z1, z2] at h; exact h
theorem ns_yqW {post : Int64 → SY → Prop} {m s : Nat} {F S sh ho pt co : Nat → Int32} {A B : Nat → Nat} (hR : ns_R m F S ho A B) (hs : s < 32) (h : ∀ pt, post (ns_fo (ns_gW A B sh ho m s) (2 ^ m) 0 0) (nI m, F, S, sh, ho, pt, co)) : ∃ n, wY_weight_17 post (nI s) n 0 0 (nI m) F S sh ho pt co := by
  have hm := hR.1
  have hf := ns_full hm
  refine ⟨2 ^ m + 1, ns_loop (fun n a j => ∀ pt, wY_weight_17 post (nI s) n a (nI j) (nI m) F S sh ho pt co) (ns_gW A B sh ho m s) (fun a => ∀ pt, post a (nI m, F, S, sh, ho, pt, co)) (2 ^ m) ?_ ?_ (2 ^ m) 0 0 (Nat.zero_add _) h pt⟩
  · intro n a h pt
    rw [wY_weight_17]
    refine ns_ysets hm ?_
    exact br_t (nI_le (Nat.le_refl _) (by omega)) (h pt)
  · intro n a j hj h pt
    unfold ns_gW at h
    have ht : j < 2 ^ 31 := by omega
    rw [wY_weight_17]
    refine ns_ysets hm ?_
    refine br_f (nI_ge hj (by omega)) (ns_yst hR ht (ns_br (fun z1 => ns_nx ?_) (fun z1 => ns_ycn hR ht hs (fun pt' => ns_br (fun z2 => ns_nx ?_) (fun z2 => ns_ywt hm ht (nm_e (ns_nx ?_)))))))
    · rw [z1] at h; exact h pt
    · rw [z1, z2] at h; exact h pt'
    · rw [z1, z2] at h; exact h pt'
/-! states -/
noncomputable def ns_gS (A B : Nat → Nat) (ho : Nat → Int32) (m s : Nat) (k : Int32) (a : Int32) (t : Nat) : Int32 := cond (decide (nI (ns_pp t 12) = k)) (cond (ns_st ho m t (-1)) (cond (ns_cn A B t m s) (a + 1) a) a) a
theorem ns_xqS {post : Int32 → Prop} {m s : Nat} {k : Int32} {F S sh ho : Nat → Int32} {A B : Nat → Nat} (hR : ns_R m F S ho A B) (hs : s < 32) (h : post (ns_fo (ns_gS A B ho m s k) (2 ^ m) 0 0)) : ∃ n, wX_states_14 post (nI s) k (nI m) F S sh ho n 0 0 := by
  have hm := hR.1
  have hf := ns_full hm
  refine ⟨2 ^ m + 1, ns_loop (fun n a j => wX_states_14 post (nI s) k (nI m) F S sh ho n a (nI j)) (ns_gS A B ho m s k) post (2 ^ m) ?_ ?_ (2 ^ m) 0 0 (Nat.zero_add _) h⟩
  · intro n a h
    exact br_t (ns_end hm) h
  · intro n a j hj h
    unfold ns_gS at h
    have ht : j < 2 ^ 31 := by omega
    refine br_f (ns_top hm hj) (ns_xsz ht (br_c (fun q => ns_xst hm ht (ns_br (fun z1 => ns_nx ?_) (fun z1 => ns_xcn hR ht hs (ns_br (fun z2 => ns_nx ?_) (fun z2 => nm_e (ns_nx ?_)))))) (fun q => ns_nx ?_)))
    · rw [decide_eq_true q, z1] at h; exact h
    · rw [decide_eq_true q, z1, z2] at h; exact h
    · rw [decide_eq_true q, z1, z2] at h; exact h
    · rw [decide_eq_false q] at h; exact h
theorem ns_yqS {post : Int32 → SY → Prop} {m s : Nat} {k : Int32} {F S sh ho pt co : Nat → Int32} {A B : Nat → Nat} (hR : ns_R m F S ho A B) (hs : s < 32) (h : ∀ pt, post (ns_fo (ns_gS A B ho m s k) (2 ^ m) 0 0) (nI m, F, S, sh, ho, pt, co)) : ∃ n, wY_states_15 post (nI s) k n 0 0 (nI m) F S sh ho pt co := by
  have hm := hR.1
  have hf := ns_full hm
  refine ⟨2 ^ m + 1, ns_loop (fun n a j => ∀ pt, wY_states_15 post (nI s) k n a (nI j) (nI m) F S sh ho pt co) (ns_gS A B ho m s k) (fun a => ∀ pt, post a (nI m, F, S, sh, ho, pt, co)) (2 ^ m) ?_ ?_ (2 ^ m) 0 0 (Nat.zero_add _) h pt⟩
  · intro n a h pt
    rw [wY_states_15]
    refine ns_ysets hm ?_
    exact br_t (nI_le (Nat.le_refl _) (by omega)) (h pt)
  · intro n a j hj h pt
    unfold ns_gS at h
    have ht : j < 2 ^ 31 := by omega
    rw [wY_states_15]
    refine ns_ysets hm ?_
    refine br_f (nI_ge hj (by omega)) (ns_yon ht (br_c (fun q => ns_yst hR ht (ns_br (fun z1 => ns_nx ?_) (fun z1 => ns_ycn hR ht hs (fun pt' => ns_br (fun z2 => ns_nx ?_) (fun z2 => nm_e (ns_nx ?_)))))) (fun q => ns_nx ?_)))
    · rw [decide_eq_true q, z1] at h; exact h pt
    · rw [decide_eq_true q, z1, z2] at h; exact h pt'
    · rw [decide_eq_true q, z1, z2] at h; exact h pt'
    · rw [decide_eq_false q] at h; exact h pt
/-! parts -/
def ns_gP (A B : Nat → Nat) (sh ho : Nat → Int32) (m : Nat) (k : Int32) (a : Int64) (t : Nat) : Int64 := cond (ns_st ho m t (-1)) (cond (decide (nI (ns_cp (ns_lb A B t m)) = k)) (a + ns_wt sh ho m t (-1)) a) a
theorem ns_xqP {post : Int64 → Prop} {m : Nat} {k : Int32} {F S sh ho : Nat → Int32} {A B : Nat → Nat} (hR : ns_R m F S ho A B) (h : post (ns_fo (ns_gP A B sh ho m k) (2 ^ m) 0 0)) : ∃ n, wX_parts_5 post k (nI m) F S sh ho n 0 0 := by
  have hm := hR.1
  have hf := ns_full hm
  refine ⟨2 ^ m + 1, ns_loop (fun n a j => wX_parts_5 post k (nI m) F S sh ho n a (nI j)) (ns_gP A B sh ho m k) post (2 ^ m) ?_ ?_ (2 ^ m) 0 0 (Nat.zero_add _) h⟩
  · intro n a h
    exact br_t (ns_end hm) h
  · intro n a j hj h
    unfold ns_gP at h
    have ht : j < 2 ^ 31 := by omega
    refine br_f (ns_top hm hj) (ns_xst hm ht (ns_br (fun z1 => ns_nx ?_) (fun z1 => ns_xpt hR ht (br_c (fun q => ns_xwt hm ht (nm_e (ns_nx ?_))) (fun q => ns_nx ?_)))))
    · rw [z1] at h; exact h
    · rw [z1, decide_eq_true q] at h; exact h
    · rw [z1, decide_eq_false q] at h; exact h
theorem ns_yqP {post : Int64 → SY → Prop} {m : Nat} {k : Int32} {F S sh ho pt co : Nat → Int32} {A B : Nat → Nat} (hR : ns_R m F S ho A B) (h : ∀ pt, post (ns_fo (ns_gP A B sh ho m k) (2 ^ m) 0 0) (nI m, F, S, sh, ho, pt, co)) : ∃ n, wY_parts_5 post k n 0 0 (nI m) F S sh ho pt co := by
  have hm := hR.1
  have hf := ns_full hm
  refine ⟨2 ^ m + 1, ns_loop (fun n a j => ∀ pt, wY_parts_5 post k n a (nI j) (nI m) F S sh ho pt co) (ns_gP A B sh ho m k) (fun a => ∀ pt, post a (nI m, F, S, sh, ho, pt, co)) (2 ^ m) ?_ ?_ (2 ^ m) 0 0 (Nat.zero_add _) h pt⟩
  · intro n a h pt
    rw [wY_parts_5]
    refine ns_ysets hm ?_
    exact br_t (nI_le (Nat.le_refl _) (by omega)) (h pt)
  · intro n a j hj h pt
    unfold ns_gP at h
    have ht : j < 2 ^ 31 := by omega
    rw [wY_parts_5]
    refine ns_ysets hm ?_
    refine br_f (nI_ge hj (by omega)) (ns_yst hR ht (ns_br (fun z1 => ns_nx ?_) (fun z1 => ns_ycp hR ht (fun pt' => br_c (fun q => ns_ywt hm ht (nm_e (ns_nx ?_))) (fun q => ns_nx ?_)))))
    · rw [z1] at h; exact h pt
    · rw [z1, decide_eq_true q] at h; exact h pt'
    · rw [z1, decide_eq_false q] at h; exact h pt'
/-! pairs -/
def ns_gQ (A B : Nat → Nat) (sh ho : Nat → Int32) (m : Nat) (a : Int64) (t : Nat) : Int64 := cond (ns_st ho m t (-1)) (a + ns_wt sh ho m t (-1) * (nI (ns_pr (ns_lb A B t m))).toInt64) a
theorem ns_xqQ {post : Int64 → Prop} {m : Nat} {F S sh ho : Nat → Int32} {A B : Nat → Nat} (hR : ns_R m F S ho A B) (h : post (ns_fo (ns_gQ A B sh ho m) (2 ^ m) 0 0)) : ∃ n, wX_pairs_4 post (nI m) F S sh ho n 0 0 := by
  have hm := hR.1
  have hf := ns_full hm
  refine ⟨2 ^ m + 1, ns_loop (fun n a j => wX_pairs_4 post (nI m) F S sh ho n a (nI j)) (ns_gQ A B sh ho m) post (2 ^ m) ?_ ?_ (2 ^ m) 0 0 (Nat.zero_add _) h⟩
  · intro n a h
    exact br_t (ns_end hm) h
  · intro n a j hj h
    unfold ns_gQ at h
    have ht : j < 2 ^ 31 := by omega
    refine br_f (ns_top hm hj) (ns_xst hm ht (ns_br (fun z1 => ns_nx ?_) (fun z1 => ns_xwt hm ht (ns_xpr hR ht (nm_e (ns_nx ?_))))))
    · rw [z1] at h; exact h
    · rw [z1] at h; exact h
theorem ns_yqQ {post : Int64 → SY → Prop} {m : Nat} {F S sh ho pt co : Nat → Int32} {A B : Nat → Nat} (hR : ns_R m F S ho A B) (h : ∀ pt, post (ns_fo (ns_gQ A B sh ho m) (2 ^ m) 0 0) (nI m, F, S, sh, ho, pt, co)) : ∃ n, wY_pairs_4 post n 0 0 (nI m) F S sh ho pt co := by
  have hm := hR.1
  have hf := ns_full hm
  refine ⟨2 ^ m + 1, ns_loop (fun n a j => ∀ pt, wY_pairs_4 post n a (nI j) (nI m) F S sh ho pt co) (ns_gQ A B sh ho m) (fun a => ∀ pt, post a (nI m, F, S, sh, ho, pt, co)) (2 ^ m) ?_ ?_ (2 ^ m) 0 0 (Nat.zero_add _) h pt⟩
  · intro n a h pt
    rw [wY_pairs_4]
    refine ns_ysets hm ?_
    exact br_t (nI_le (Nat.le_refl _) (by omega)) (h pt)
  · intro n a j hj h pt
    unfold ns_gQ at h
    have ht : j < 2 ^ 31 := by omega
    rw [wY_pairs_4]
    refine ns_ysets hm ?_
    refine br_f (nI_ge hj (by omega)) (ns_yst hR ht (ns_br (fun z1 => ns_nx ?_) (fun z1 => ns_ypr hR ht (fun pt' => ns_ywt hm ht (nm_e (ns_nx ?_))))))
    · rw [z1] at h; exact h pt
    · rw [z1] at h; exact h pt'
