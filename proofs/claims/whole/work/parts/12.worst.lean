/-! worst, worstState -/
noncomputable def ns_gX (A B : Nat → Nat) (sh ho : Nat → Int32) (m s : Nat) (a : Int64 × Int32) (t : Nat) : Int64 × Int32 := cond (ns_st ho m t (-1)) (cond (ns_cn A B t m s) a (if ns_wt sh ho m t (-1) ≤ a.1 then a else (ns_wt sh ho m t (-1), nI t))) a
noncomputable def ns_gV (A B : Nat → Nat) (sh ho : Nat → Int32) (m s : Nat) (a : Int64) (t : Nat) : Int64 := if ns_wt sh ho m t (-1) ≤ a then a else cond (ns_st ho m t (-1)) (cond (ns_cn A B t m s) a (ns_wt sh ho m t (-1))) a
theorem ns_gXV (A B : Nat → Nat) (sh ho : Nat → Int32) (m s : Nat) : ∀ d j a l, (ns_fo (ns_gX A B sh ho m s) d j (a, l)).1 = ns_fo (ns_gV A B sh ho m s) d j a := by
  intro d
  induction d with
  | zero => intro j a l; rfl
  | succ d ih =>
    intro j a l
    show (ns_fo (ns_gX A B sh ho m s) d (j + 1) ((ns_gX A B sh ho m s (a, l) j).1, (ns_gX A B sh ho m s (a, l) j).2)).1 = ns_fo (ns_gV A B sh ho m s) d (j + 1) (ns_gV A B sh ho m s a j)
    rw [ih]
    congr 1
    unfold ns_gX ns_gV
    by_cases c : ns_wt sh ho m j (-1) ≤ a
    · rw [if_pos c]
      have c2 : ns_wt sh ho m j (-1) ≤ (a, l).1 := c
      rw [if_pos c2]
      cases ns_st ho m j (-1) <;> cases ns_cn A B j m s <;> rfl
    · rw [if_neg c]
      have c2 : ¬ ns_wt sh ho m j (-1) ≤ (a, l).1 := c
      rw [if_neg c2]
      cases ns_st ho m j (-1) <;> cases ns_cn A B j m s <;> rfl
/-- t is the first of the failing states with the greatest weight a -/
def ns_Fst (A B : Nat → Nat) (sh ho : Nat → Int32) (m s : Nat) (a : Int64) (l : Int32) (j : Nat) : Prop :=
  (∀ t, t < j → ns_st ho m t (-1) = true → ns_cn A B t m s = false → ns_wt sh ho m t (-1) ≤ a) ∧
  ((a = 0 ∧ l = -2) ∨ (0 < a ∧ ∃ t0, t0 < j ∧ ns_st ho m t0 (-1) = true ∧ ns_cn A B t0 m s = false ∧ ns_wt sh ho m t0 (-1) = a ∧ l = nI t0 ∧ ∀ t, t < t0 → ns_st ho m t (-1) = true → ns_cn A B t m s = false → ¬ ns_wt sh ho m t (-1) = a))
theorem ns_FstI (A B : Nat → Nat) (sh ho : Nat → Int32) (m s : Nat) : ns_Fst A B sh ho m s (ns_fo (ns_gX A B sh ho m s) (2 ^ m) 0 (0, -2)).1 (ns_fo (ns_gX A B sh ho m s) (2 ^ m) 0 (0, -2)).2 (2 ^ m) := by
  refine ns_foI (ns_gX A B sh ho m s) (fun j a => ns_Fst A B sh ho m s a.1 a.2 j) (2 ^ m) ?_ (2 ^ m) 0 (0, -2) (Nat.zero_add _) ⟨fun t ht => absurd ht (Nat.not_lt_zero t), Or.inl ⟨rfl, rfl⟩⟩
  rintro ⟨a, l⟩ j hj ⟨h1, h2⟩
  have skip : (ns_st ho m j (-1) = true → ns_cn A B j m s = false → ns_wt sh ho m j (-1) ≤ a) → ns_Fst A B sh ho m s a l (j + 1) := by
    intro q
    refine ⟨fun t ht => ?_, ?_⟩
    · by_cases e : t = j
      · rw [e]; exact q
      · exact h1 t (by omega)
    · rcases h2 with h2 | ⟨h2, t0, h3, h4⟩
      · exact Or.inl h2
      · exact Or.inr ⟨h2, t0, by omega, h4⟩
  unfold ns_gX
  cases z1 : ns_st ho m j (-1)
  · exact skip (fun q => by rw [z1] at q; exact absurd q (by decide))
  · cases z2 : ns_cn A B j m s
    · by_cases c : ns_wt sh ho m j (-1) ≤ a
      · have c2 : ns_wt sh ho m j (-1) ≤ (a, l).1 := c
        show ns_Fst A B sh ho m s (if ns_wt sh ho m j (-1) ≤ (a, l).1 then (a, l) else (ns_wt sh ho m j (-1), nI j)).1 (if ns_wt sh ho m j (-1) ≤ (a, l).1 then (a, l) else (ns_wt sh ho m j (-1), nI j)).2 (j + 1)
        rw [if_pos c2]
        exact skip (fun _ _ => c)
      · have c2 : ¬ ns_wt sh ho m j (-1) ≤ (a, l).1 := c
        show ns_Fst A B sh ho m s (if ns_wt sh ho m j (-1) ≤ (a, l).1 then (a, l) else (ns_wt sh ho m j (-1), nI j)).1 (if ns_wt sh ho m j (-1) ≤ (a, l).1 then (a, l) else (ns_wt sh ho m j (-1), nI j)).2 (j + 1)
        rw [if_neg c2]
        have gt : a < ns_wt sh ho m j (-1) := Int64.not_le.mp c
        have a0 : (0 : Int64) ≤ a := by
          rcases h2 with ⟨h2, _⟩ | ⟨h2, _⟩
          · have h2 : a = 0 := h2
            rw [h2]; exact Int64.le_refl 0
          · exact Int64.le_of_lt h2
        refine ⟨fun t ht g1 g2 => ?_, Or.inr ⟨Int64.lt_of_le_of_lt a0 gt, j, by omega, z1, z2, rfl, rfl, fun t ht g1 g2 q => ?_⟩⟩
        · by_cases e : t = j
          · rw [e]; exact Int64.le_refl _
          · exact Int64.le_trans (h1 t (by omega) g1 g2) (Int64.le_of_lt gt)
        · have := h1 t ht g1 g2
          rw [q] at this
          exact c this
    · exact skip (fun _ q => by rw [z2] at q; exact absurd q (by decide))
theorem ns_xqX {post : Int32 → Prop} {m s : Nat} {F S sh ho : Nat → Int32} {A B : Nat → Nat} (hR : ns_R m F S ho A B) (hs : s < 32) (h : post (ns_fo (ns_gX A B sh ho m s) (2 ^ m) 0 (0, -2)).2) : ∃ n, wX_worstState_18 post (nI s) (nI m) F S sh ho n 0 (-2) 0 := by
  have hm := hR.1
  have hf := ns_full hm
  refine ⟨2 ^ m + 1, ns_loop (fun n a j => wX_worstState_18 post (nI s) (nI m) F S sh ho n a.1 a.2 (nI j)) (ns_gX A B sh ho m s) (fun a => post a.2) (2 ^ m) ?_ ?_ (2 ^ m) 0 (0, -2) (Nat.zero_add _) h⟩
  · intro n a h
    exact br_t (ns_end hm) h
  · intro n a j hj h
    unfold ns_gX at h
    have ht : j < 2 ^ 31 := by omega
    refine br_f (ns_top hm hj) (ns_xst hm ht (ns_br (fun z1 => ns_nx ?_) (fun z1 => ns_xcn hR ht hs (ns_br (fun z2 => ns_xwt hm ht (br_c (fun q => ns_nx ?_) (fun q => ns_nx ?_))) (fun z2 => ns_nx ?_)))))
    · rw [z1] at h; exact h
    · rw [z1, z2, if_pos q] at h; exact h
    · rw [z1, z2, if_neg q] at h; exact h
    · rw [z1, z2] at h; exact h
theorem ns_yqX {post : Int64 → SY → Prop} {m s : Nat} {F S sh ho pt co : Nat → Int32} {A B : Nat → Nat} (hR : ns_R m F S ho A B) (hs : s < 32) (h : ∀ pt, post (ns_fo (ns_gX A B sh ho m s) (2 ^ m) 0 (0, -2)).1 (nI m, F, S, sh, ho, pt, co)) : wpY_worstWeight post (nI m, F, S, sh, ho, pt, co) (nI s) := by
  have hm := hR.1
  have hf := ns_full hm
  rw [ns_gXV] at h
  unfold wpY_worstWeight
  dsimp only
  refine ⟨2 ^ m + 1, ns_loop (fun n a j => ∀ pt, wY_worstWeight_5 post (nI s) n a (nI j) (nI m) F S sh ho pt co) (ns_gV A B sh ho m s) (fun a => ∀ pt, post a (nI m, F, S, sh, ho, pt, co)) (2 ^ m) ?_ ?_ (2 ^ m) 0 0 (Nat.zero_add _) h pt⟩
  · intro n a h pt
    rw [wY_worstWeight_5]
    refine ns_ysets hm ?_
    exact br_t (nI_le (Nat.le_refl _) (by omega)) (h pt)
  · intro n a j hj h pt
    unfold ns_gV at h
    have ht : j < 2 ^ 31 := by omega
    rw [wY_worstWeight_5]
    refine ns_ysets hm ?_
    refine br_f (nI_ge hj (by omega)) (ns_ywt hm ht (br_c (fun q => ns_nx ?_) (fun q => ns_yst hR ht (ns_br (fun z1 => ns_nx ?_) (fun z1 => ns_ycn hR ht hs (fun pt' => ns_br (fun z2 => ns_nx ?_) (fun z2 => ns_nx ?_)))))))
    · rw [if_pos q] at h; exact h pt
    · rw [if_neg q, z1] at h; exact h pt
    · rw [if_neg q, z1, z2] at h; exact h pt'
    · rw [if_neg q, z1, z2] at h; exact h pt'
theorem ns_yqZ {post : Int32 → SY → Prop} {m s : Nat} {a : Int64} {l : Int32} {F S sh ho pt co : Nat → Int32} {A B : Nat → Nat} (hR : ns_R m F S ho A B) (hs : s < 32) (hI : ns_Fst A B sh ho m s a l (2 ^ m)) (h : ∀ pt, post l (nI m, F, S, sh, ho, pt, co)) : ∃ n, wY_worstState_19 post (nI s) a n 0 (nI m) F S sh ho pt co := by
  have hm := hR.1
  have hf := ns_full hm
  obtain ⟨h1, ⟨h2, h3⟩ | ⟨h2, t0, h3, g1, g2, g3, g4, g5⟩⟩ := hI
  · refine ⟨2 ^ m + 1, ns_loop (fun n (_ : Unit) j => ∀ pt, wY_worstState_19 post (nI s) a n (nI j) (nI m) F S sh ho pt co) (fun u _ => u) (fun _ => ∀ pt, post l (nI m, F, S, sh, ho, pt, co)) (2 ^ m) ?_ ?_ (2 ^ m) 0 () (Nat.zero_add _) h pt⟩
    · intro n _ h pt
      rw [wY_worstState_19]
      refine ns_ysets hm ?_
      rw [← h3]
      exact br_t (nI_le (Nat.le_refl _) (by omega)) (h pt)
    · intro n _ j hj h pt
      rw [wY_worstState_19]
      refine ns_ysets hm ?_
      exact br_f (nI_ge hj (by omega)) (br_t (by rw [h2]; exact Int64.le_refl 0) (ns_nx (h pt)))
  · refine ⟨t0 + 1, ns_loop (fun n (_ : Unit) j => ∀ pt, wY_worstState_19 post (nI s) a n (nI j) (nI m) F S sh ho pt co) (fun u _ => u) (fun _ => ∀ pt, post l (nI m, F, S, sh, ho, pt, co)) t0 ?_ ?_ t0 0 () (Nat.zero_add _) h pt⟩
    · intro n _ h pt
      rw [wY_worstState_19]
      refine ns_ysets hm ?_
      refine br_f (nI_ge h3 (by omega)) (br_f (Int64.not_le.mpr h2) (ns_ywt hm (by omega) (br_t g3 (ns_yst hR (by omega) ?_))))
      rw [g1]
      refine br_f (by decide) (ns_ycn hR (by omega) hs (fun pt' => ?_))
      rw [g2]
      refine br_t rfl ?_
      rw [← g4]
      exact h pt'
    · intro n _ j hj h pt
      have ht : j < 2 ^ 31 := by omega
      rw [wY_worstState_19]
      refine ns_ysets hm ?_
      refine br_f (nI_ge (by omega) (by omega)) (br_f (Int64.not_le.mpr h2) (ns_ywt hm ht (br_c (fun q => ns_yst hR ht (ns_br (fun z1 => ns_nx (h pt)) (fun z1 => ns_ycn hR ht hs (fun pt' => ns_br (fun z2 => ?_) (fun z2 => ns_nx (h pt')))))) (fun q => ns_nx (h pt)))))
      exact absurd q (g5 j hj z1 z2)
