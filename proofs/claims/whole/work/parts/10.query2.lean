/-! cuts -/
noncomputable def ns_gC (A B : Nat → Nat) (m s : Nat) (k : Int32) (a : Int32) (d : Nat) : Int32 := cond (decide (nI (ns_pp d 12) = k)) (cond (ns_lc A B m s d) (a + 1) a) a
theorem ns_xqC {post : Int32 → Prop} {m s : Nat} {k : Int32} {F S sh ho : Nat → Int32} {A B : Nat → Nat} (hR : ns_R m F S ho A B) (hs : s < 32) (h : post (ns_fo (ns_gC A B m s k) (2 ^ m) 0 0)) : ∃ n, wX_cuts_14 post (nI s) k (nI m) F S sh ho n 0 0 := by
  have hm := hR.1
  have hf := ns_full hm
  refine ⟨2 ^ m + 1, ns_loop (fun n a j => wX_cuts_14 post (nI s) k (nI m) F S sh ho n a (nI j)) (ns_gC A B m s k) post (2 ^ m) ?_ ?_ (2 ^ m) 0 0 (Nat.zero_add _) h⟩
  · intro n a h
    exact br_t (ns_end hm) h
  · intro n a j hj h
    unfold ns_gC at h
    have ht : j < 2 ^ 31 := by omega
    refine br_f (ns_top hm hj) (ns_xsz ht (br_c (fun q => ns_xlc hR hj hs (ns_br (fun z1 => ns_nx ?_) (fun z1 => nm_e (ns_nx ?_)))) (fun q => ns_nx ?_)))
    · rw [decide_eq_true q, z1] at h; exact h
    · rw [decide_eq_true q, z1] at h; exact h
    · rw [decide_eq_false q] at h; exact h
theorem ns_yqC {post : Int32 → SY → Prop} {m s : Nat} {k : Int32} {F S sh ho pt co : Nat → Int32} {A B : Nat → Nat} (hR : ns_R m F S ho A B) (hs : s < 32) (h : ∀ pt, post (ns_fo (ns_gC A B m s k) (2 ^ m) 0 0) (nI m, F, S, sh, ho, pt, co)) : ∃ n, wY_cuts_15 post (nI s) k n 0 0 (nI m) F S sh ho pt co := by
  have hm := hR.1
  have hf := ns_full hm
  refine ⟨2 ^ m + 1, ns_loop (fun n a j => ∀ pt, wY_cuts_15 post (nI s) k n a (nI j) (nI m) F S sh ho pt co) (ns_gC A B m s k) (fun a => ∀ pt, post a (nI m, F, S, sh, ho, pt, co)) (2 ^ m) ?_ ?_ (2 ^ m) 0 0 (Nat.zero_add _) h pt⟩
  · intro n a h pt
    rw [wY_cuts_15]
    refine ns_ysets hm ?_
    exact br_t (nI_le (Nat.le_refl _) (by omega)) (h pt)
  · intro n a j hj h pt
    unfold ns_gC ns_lc at h
    have ht : j < 2 ^ 31 := by omega
    have e : nI (2 ^ m) - 1 = nI (2 ^ m - 1) := pk_sub (b := 1) (Nat.two_pow_pos m)
    rw [wY_cuts_15]
    refine ns_ysets hm ?_
    refine br_f (nI_ge hj (by omega)) (ns_ysets hm ?_)
    refine nm_r (e' := nI (2 ^ m - 1 - j)) (by rw [e]; exact ns_cmp hj) (ns_yon ht (br_c (fun q => ns_ycn hR (by omega) hs (fun pt' => ns_br (fun z1 => ns_ymd hR hj hs (fun pt2 => ns_br (fun z2 => ns_nx ?_) (fun z2 => nm_e (ns_nx ?_)))) (fun z1 => ns_nx ?_))) (fun q => ns_nx ?_)))
    · rw [decide_eq_true q, z1, z2] at h; exact h pt2
    · rw [decide_eq_true q, z1, z2] at h; exact h pt2
    · rw [decide_eq_true q, z1] at h; exact h pt'
    · rw [decide_eq_false q] at h; exact h pt
/-! trees -/
noncomputable def ns_gT (A B : Nat → Nat) (m : Nat) (a : Int32) (t : Nat) : Int32 := cond (ns_tr A B m t) (a + 1) a
theorem ns_xqT {post : Int32 → Prop} {m : Nat} {F S sh ho : Nat → Int32} {A B : Nat → Nat} (hR : ns_R m F S ho A B) (h : post (ns_fo (ns_gT A B m) (2 ^ m) 0 0)) : ∃ n, wX_trees_4 post (nI m) F S sh ho n 0 0 := by
  have hm := hR.1
  have hf := ns_full hm
  refine ⟨2 ^ m + 1, ns_loop (fun n a j => wX_trees_4 post (nI m) F S sh ho n a (nI j)) (ns_gT A B m) post (2 ^ m) ?_ ?_ (2 ^ m) 0 0 (Nat.zero_add _) h⟩
  · intro n a h
    exact br_t (ns_end hm) h
  · intro n a j hj h
    unfold ns_gT at h
    refine br_f (ns_top hm hj) (ns_xtr hR hj (ns_br (fun z1 => ns_nx ?_) (fun z1 => nm_e (ns_nx ?_))))
    · rw [z1] at h; exact h
    · rw [z1] at h; exact h
theorem ns_yqT {post : Int32 → SY → Prop} {m : Nat} {F S sh ho pt co : Nat → Int32} {A B : Nat → Nat} (hR : ns_R m F S ho A B) (h : ∀ pt, post (ns_fo (ns_gT A B m) (2 ^ m) 0 0) (nI m, F, S, sh, ho, pt, co)) : ∃ n, wY_trees_4 post n 0 0 (nI m) F S sh ho pt co := by
  have hm := hR.1
  have hf := ns_full hm
  refine ⟨2 ^ m + 1, ns_loop (fun n a j => ∀ pt, wY_trees_4 post n a (nI j) (nI m) F S sh ho pt co) (ns_gT A B m) (fun a => ∀ pt, post a (nI m, F, S, sh, ho, pt, co)) (2 ^ m) ?_ ?_ (2 ^ m) 0 0 (Nat.zero_add _) h pt⟩
  · intro n a h pt
    rw [wY_trees_4]
    refine ns_ysets hm ?_
    exact br_t (nI_le (Nat.le_refl _) (by omega)) (h pt)
  · intro n a j hj h pt
    unfold ns_gT at h
    rw [wY_trees_4]
    refine ns_ysets hm ?_
    refine br_f (nI_ge hj (by omega)) (ns_ytr hR hj (fun pt' => ns_br (fun z1 => ns_nx ?_) (fun z1 => nm_e (ns_nx ?_))))
    · rw [z1] at h; exact h pt'
    · rw [z1] at h; exact h pt'
/-! forests -/
noncomputable def ns_gF (A B : Nat → Nat) (m : Nat) (k : Int32) (a : Int32) (t : Nat) : Int32 := cond (decide (nI (ns_pp t 12) = k)) (cond (ns_nc A B m t) (a + 1) a) a
theorem ns_ppm {t m : Nat} (ht : t < 2 ^ m) : ∀ d, ns_pp t (m + d) = ns_pp t m := by
  intro d
  induction d with
  | zero => rfl
  | succ d ih =>
    rw [← Nat.add_assoc, ns_pp, ih, Nat.testBit_lt_two_pow (Nat.lt_of_lt_of_le ht (ns_p2 (by omega)))]
    rfl
theorem ns_ncI {A B : Nat → Nat} {t m : Nat} (hE : ns_E A B m) (hm : m ≤ 12) (ht : t < 2 ^ m) : ns_nc A B m t = true ↔ ns_cp (ns_lb A B t m) + ns_pp t 12 = 5 := by
  have e : ns_pp t 12 = ns_pp t m := by
    have := ns_ppm ht (12 - m)
    rw [show m + (12 - m) = 12 by omega] at this
    exact this
  rw [e, ← ns_forest hE t]
  unfold ns_nc
  rw [ns_allI]
  constructor
  · intro h i hi
    have := h i (Nat.zero_le i) (by omega)
    unfold ns_cws at this
    rw [Bool.not_eq_true'] at this
    rintro ⟨h1, h2⟩
    rw [h1, h2] at this
    exact absurd this (by decide)
  · intro h i _ hi
    have := h i (by omega)
    unfold ns_cws
    rw [Bool.not_eq_true', Bool.eq_false_iff]
    intro q
    rw [Bool.and_eq_true] at q
    exact this q
theorem ns_fk {c p : Nat} {k : Int32} (hc : c ≤ 5) (hp : p ≤ 12) (hk : nI p = k) : nI c = 5 - k ↔ c + p = 5 := by
  rw [← hk]
  constructor
  · intro h
    have h2 : nI c + nI p = nI 5 := by
      rw [h, Int32.sub_add_cancel]; rfl
    rw [nI_add, nI_eq (by omega) (by decide)] at h2
    exact h2
  · intro h
    have h2 : nI 5 - nI p = nI (5 - p) := pk_sub (by omega)
    rw [show c = 5 - p by omega, ← h2]
    rfl
theorem ns_xqF {post : Int32 → Prop} {m : Nat} {k : Int32} {F S sh ho : Nat → Int32} {A B : Nat → Nat} (hR : ns_R m F S ho A B) (h : post (ns_fo (ns_gF A B m k) (2 ^ m) 0 0)) : ∃ n, wX_forests_4 post k (nI m) F S sh ho n 0 0 := by
  have hm := hR.1
  have hf := ns_full hm
  refine ⟨2 ^ m + 1, ns_loop (fun n a j => wX_forests_4 post k (nI m) F S sh ho n a (nI j)) (ns_gF A B m k) post (2 ^ m) ?_ ?_ (2 ^ m) 0 0 (Nat.zero_add _) h⟩
  · intro n a h
    exact br_t (ns_end hm) h
  · intro n a j hj h
    unfold ns_gF at h
    have ht : j < 2 ^ 31 := by omega
    refine br_f (ns_top hm hj) (ns_xsz ht (br_c (fun q => ns_xcw hR hj (ns_br (fun z1 => nm_e (ns_nx ?_)) (fun z1 => ns_nx ?_))) (fun q => ns_nx ?_)))
    · rw [Bool.not_eq_false'] at z1
      rw [decide_eq_true q, z1] at h; exact h
    · rw [Bool.not_eq_true'] at z1
      rw [decide_eq_true q, z1] at h; exact h
    · rw [decide_eq_false q] at h; exact h
theorem ns_yqF {post : Int32 → SY → Prop} {m : Nat} {k : Int32} {F S sh ho pt co : Nat → Int32} {A B : Nat → Nat} (hR : ns_R m F S ho A B) (h : ∀ pt, post (ns_fo (ns_gF A B m k) (2 ^ m) 0 0) (nI m, F, S, sh, ho, pt, co)) : ∃ n, wY_forests_4 post k n 0 0 (nI m) F S sh ho pt co := by
  have hm := hR.1
  have hf := ns_full hm
  refine ⟨2 ^ m + 1, ns_loop (fun n a j => ∀ pt, wY_forests_4 post k n a (nI j) (nI m) F S sh ho pt co) (ns_gF A B m k) (fun a => ∀ pt, post a (nI m, F, S, sh, ho, pt, co)) (2 ^ m) ?_ ?_ (2 ^ m) 0 0 (Nat.zero_add _) h pt⟩
  · intro n a h pt
    rw [wY_forests_4]
    refine ns_ysets hm ?_
    exact br_t (nI_le (Nat.le_refl _) (by omega)) (h pt)
  · intro n a j hj h pt
    unfold ns_gF at h
    have ht : j < 2 ^ 31 := by omega
    have iff1 := ns_ncI (ns_RE hR) hm hj
    have iff2 : nI (ns_pp j 12) = k → (nI (ns_cp (ns_lb A B j m)) = 5 - k ↔ ns_nc A B m j = true) := fun q => (ns_fk (ns_cpL _) (ns_ppL j 12) q).trans iff1.symm
    rw [wY_forests_4]
    refine ns_ysets hm ?_
    refine br_f (nI_ge hj (by omega)) (ns_yon ht (br_c (fun q => ns_ycp hR ht (fun pt' => ns_if (iff2 q) (fun z1 => nm_e (ns_nx ?_)) (fun z1 => ns_nx ?_))) (fun q => ns_nx ?_)))
    · rw [decide_eq_true q, z1] at h; exact h pt'
    · rw [decide_eq_true q, Bool.eq_false_iff.mpr z1] at h; exact h pt'
    · rw [decide_eq_false q] at h; exact h pt
/-! polynomial -/
def ns_gY (A B : Nat → Nat) (m : Nat) (x y few : Int32) (a : Int32) (t : Nat) : Int32 := a + ns_pw x (nI (ns_cp (ns_lb A B t m)) - few) * ns_pw y (nI (ns_pp t 12) + nI (ns_cp (ns_lb A B t m)) - 5)
theorem ns_xqY {post : Int32 → Prop} {m : Nat} {x y few : Int32} {F S sh ho : Nat → Int32} {A B : Nat → Nat} (hR : ns_R m F S ho A B) (h : post (ns_fo (ns_gY A B m x y few) (2 ^ m) 0 0)) : ∃ n, wX_polynomial_36 post x y few (nI m) F S sh ho n 0 0 := by
  have hm := hR.1
  have hf := ns_full hm
  refine ⟨2 ^ m + 1, ns_loop (fun n a j => wX_polynomial_36 post x y few (nI m) F S sh ho n a (nI j)) (ns_gY A B m x y few) post (2 ^ m) ?_ ?_ (2 ^ m) 0 0 (Nat.zero_add _) h⟩
  · intro n a h
    exact br_t (ns_end hm) h
  · intro n a j hj h
    have ht : j < 2 ^ 31 := by omega
    exact br_f (ns_top hm hj) (ns_xpt hR ht (ns_xpw (ns_xsz ht (nm_e (ns_xpw (nm_e (ns_nx h)))))))
theorem ns_yqY {post : Int32 → SY → Prop} {m : Nat} {x y few : Int32} {F S sh ho pt co : Nat → Int32} {A B : Nat → Nat} (hR : ns_R m F S ho A B) (h : ∀ pt, post (ns_fo (ns_gY A B m x y few) (2 ^ m) 0 0) (nI m, F, S, sh, ho, pt, co)) : ∃ n, wY_polynomial_44 post x y few n 0 0 (nI m) F S sh ho pt co := by
  have hm := hR.1
  have hf := ns_full hm
  refine ⟨2 ^ m + 1, ns_loop (fun n a j => ∀ pt, wY_polynomial_44 post x y few n a (nI j) (nI m) F S sh ho pt co) (ns_gY A B m x y few) (fun a => ∀ pt, post a (nI m, F, S, sh, ho, pt, co)) (2 ^ m) ?_ ?_ (2 ^ m) 0 0 (Nat.zero_add _) h pt⟩
  · intro n a h pt
    rw [wY_polynomial_44]
    refine ns_ysets hm ?_
    exact br_t (nI_le (Nat.le_refl _) (by omega)) (h pt)
  · intro n a j hj h pt
    have ht : j < 2 ^ 31 := by omega
    rw [wY_polynomial_44]
    refine ns_ysets hm ?_
    exact br_f (nI_ge hj (by omega)) (ns_ycp hR ht (fun pt' => ns_yon ht (ns_ypw (ns_ypw (nm_e (ns_nx (h pt')))))))
