/-! Y: states, weights, sizes, pairs, cuts, trees, powers -/
theorem ns_ysets {post : Int32 → Prop} {m : Nat} {F S sh ho pt co : Nat → Int32} (hm : m ≤ 12) (h : post (nI (2 ^ m))) : wpY_sets post (nI m, F, S, sh, ho, pt, co) := by
  unfold wpY_sets
  dsimp only
  rw [ns_shl (by omega)]
  exact h
theorem ns_nar (b : Bool) : narrow .boolean (.int (ns_b b)) = .int (ns_b b) := by
  cases b
  · exact lw_bz_n 0
  · exact lw_bz_n 1
theorem ns_y51 {post : Int32 → Prop} {J5 : Int32 → Int32 → Prop} {t j : Nat} {lo e : Int32} {a : Bool} {F S sh ho pt co : Nat → Int32} (ht : t < 2 ^ 31) (hj : j < 32) (h : J5 (ns_b (decide (ns_b a = ns_b (t.testBit j)))) (nI (j + 1))) : wY_isState_51 post J5 (nI t) lo (nI j) (ns_b a) e F S sh ho pt co := by
  unfold wY_isState_51
  refine ns_yin ht hj (br_c (fun q => ns_nx ?_) (fun q => ns_nx ?_))
  · rw [decide_eq_true q] at h; exact h
  · rw [decide_eq_false q] at h; exact h
theorem ns_yst {post : Int32 → Prop} {t m : Nat} {lo : Int32} {F S sh ho pt co : Nat → Int32} {A B : Nat → Nat} (hR : ns_R m F S ho A B) (ht : t < 2 ^ 31) (h : post (ns_b (ns_st ho m t lo))) : wpY_isState post (nI m, F, S, sh, ho, pt, co) (nI t) lo := by
  have hm := hR.1
  unfold wpY_isState
  dsimp only
  refine ⟨m + 1, ?_⟩
  have h0 : post (ns_b (ns_fo (fun a j => a && ns_sc ho t lo j) m 0 true)) := by
    rw [ns_allA]; exact h
  refine ns_loop (fun n (a : Bool) j => wY_isState_5 post (nI t) lo (nI m) F S sh ho pt co n (ns_b a) (nI j)) (fun a j => a && ns_sc ho t lo j) (fun a => post (ns_b a)) m ?_ ?_ m 0 true (Nat.zero_add m) h0
  · intro n a h
    exact br_t (nI_le (Nat.le_refl m) (by omega)) ⟨ns_nar a, h⟩
  · intro n a j hj h
    have e : (nI j).toNatClampNeg = j := nI_clamp (by omega)
    have hin : vp_in (nI j) 12 := vp_in_nI (by omega) (by decide)
    have hh := (hR.2 j hj).2.2.2.2
    refine br_f (nI_ge hj (by omega)) (ns_br (fun z => ns_nx ?_) (fun z => ?_))
    · rw [z] at h; exact h
    · rw [z, Bool.true_and] at h
      unfold ns_sc at h
      refine br_c (fun q => ns_nx ?_) (fun q => ⟨hin, ?_⟩)
      · rw [decide_eq_true q] at h; exact h
      · rw [decide_eq_false q, Bool.false_or] at h
        rw [e]
        refine br_c (fun w => ns_nx ?_) (fun w => ⟨hin, ?_⟩)
        · rw [decide_eq_true w] at h; exact h
        · rw [decide_eq_false w, Bool.false_or] at h
          refine br_c (fun x => ns_y51 (a := true) ht (by omega) ?_) (fun x => ns_y51 (a := false) ht (by omega) ?_)
          · rw [x] at h; exact h
          · have x0 : ho j = 0 := by
              rcases hh with hh | hh | hh
              · exact hh
              · exact absurd hh x
              · exact absurd hh w
            rw [x0] at h; exact h
theorem ns_y71 {post : Int64 → Prop} {J5 : Int64 → Int32 → Prop} {x1 lo e : Int32} {p f : Int64} {j : Nat} {F S sh ho pt co : Nat → Int32} (h : J5 (if nI j = lo then p else p * f) (nI (j + 1))) : wY_weightOf_71 post J5 x1 lo p (nI j) f e F S sh ho pt co := by
  unfold wY_weightOf_71
  refine br_c (fun q => ns_nx ?_) (fun q => nm_e (ns_nx ?_))
  · rw [if_pos q] at h; exact h
  · rw [if_neg q] at h; exact h
theorem ns_16 : (16 : Int32).toInt64 = 16 := by decide
theorem ns_ywt {post : Int64 → Prop} {t m : Nat} {lo : Int32} {F S sh ho pt co : Nat → Int32} (hm : m ≤ 12) (ht : t < 2 ^ 31) (h : post (ns_wt sh ho m t lo)) : wpY_weightOf post (nI m, F, S, sh, ho, pt, co) (nI t) lo := by
  unfold wpY_weightOf
  dsimp only
  refine ⟨12 + 1, ?_⟩
  refine ns_loop (fun n p j => wY_weightOf_5 post (nI t) lo (nI m) F S sh ho pt co n p (nI j)) (ns_wg sh ho m t lo) post 12 ?_ ?_ 12 0 1 rfl h
  · intro n p h
    exact br_t (nI_le (b := 12) (Nat.le_refl 12) (by decide)) h
  · intro n p j hj h
    have e : (nI j).toNatClampNeg = j := nI_clamp (by omega)
    have hin : vp_in (nI j) 12 := vp_in_nI (by omega) (by decide)
    unfold ns_wg ns_ew at h
    refine br_f (nI_ge (b := 12) hj (by decide)) (pk_le m j (fun q => ns_y71 ?_) (fun q => ⟨hin, ?_⟩))
    · rw [if_pos q, ns_16] at h; exact h
    · rw [if_neg (show ¬ m ≤ j by omega)] at h
      rw [e]
      refine br_c (fun w => ns_yin ht (by omega) (ns_br (fun z => ⟨hin, ns_y71 ?_⟩) (fun z => ⟨hin, ns_y71 ?_⟩))) (fun w => ns_y71 ?_)
      · rw [if_pos w, if_neg (show ¬ t.testBit j = true by rw [z]; decide)] at h; exact h
      · rw [if_pos w, if_pos z] at h; exact h
      · rw [if_neg w, ns_16] at h; exact h
theorem ns_yon {post : Int32 → Prop} {t : Nat} {e : Int32} {F S sh ho pt co : Nat → Int32} (ht : t < 2 ^ 31) (h : post (nI (ns_pp t 12))) : wpY_ones post (e, F, S, sh, ho, pt, co) (nI t) := by
  unfold wpY_ones
  dsimp only
  refine ⟨12 + 1, ?_⟩
  refine ns_loop (fun n p j => wY_ones_4 post (nI t) e F S sh ho pt co n (nI p) (nI j)) (fun n i => n + (t.testBit i).toNat) (fun p => post (nI p)) 12 ?_ ?_ 12 0 0 rfl (by rw [ns_ppF]; exact h)
  · intro n p h
    exact br_t (nI_le (b := 12) (Nat.le_refl 12) (by decide)) h
  · intro n p j hj h
    refine br_f (nI_ge (b := 12) hj (by decide)) (nm_r ?_ (ns_nx h))
    rw [ns_bit ht (by omega), nI_add]
theorem ns_ypr {post : Int32 → SY → Prop} {t m : Nat} {F S sh ho pt co : Nat → Int32} {A B : Nat → Nat} (hR : ns_R m F S ho A B) (ht : t < 2 ^ 31) (h : ∀ pt, post (nI (ns_pr (ns_lb A B t m))) (nI m, F, S, sh, ho, pt, co)) : wpY_connectedPairs post (nI m, F, S, sh, ho, pt, co) (nI t) := by
  unfold wpY_connectedPairs
  dsimp only
  refine ns_yfp hR ht (fun pt' hp => ?_)
  have ok := (ns_okm (ns_RE hR) t).1
  refine Exists.intro (5 + 1) ?_
  refine ns_loop (fun n p j => wY_connectedPairs_9 post (nI m) F S sh ho pt' co n (nI p) (nI j)) (fun n v => ns_fo (fun n w => if ns_lb A B t m v = ns_lb A B t m w then n + 1 else n) v 0 n) (fun p => post (nI p) (nI m, F, S, sh, ho, pt', co)) 5 ?_ ?_ 5 0 0 rfl (h pt')
  · intro n p h
    exact br_t (nI_le (b := 5) (Nat.le_refl 5) (by decide)) h
  · intro n p j hj h
    refine br_f (nI_ge (b := 5) hj (by decide)) ⟨j + 1, ?_⟩
    refine ns_loop (fun k p w => wY_connectedPairs_17 post (wY_connectedPairs_9 post (nI m) F S sh ho pt' co n) (nI j) (nI m) F S sh ho pt' co k (nI p) (nI w)) (fun n w => if ns_lb A B t m j = ns_lb A B t m w then n + 1 else n) (fun p => wY_connectedPairs_9 post (nI m) F S sh ho pt' co n (nI p) (nI (j + 1))) j ?_ ?_ j 0 p (Nat.zero_add j) h
    · intro k p h
      exact br_t (nI_le (Nat.le_refl j) (by omega)) (ns_nx h)
    · intro k p w hw h
      have l1 := ok j hj
      have l2 := ok w (by omega)
      refine br_f (nI_ge hw (by omega)) ⟨vp_in_nI hj (by decide), vp_in_nI (by omega) (by decide), ?_⟩
      rw [nI_clamp (n := j) (by omega), nI_clamp (n := w) (by omega), hp j hj, hp w (by omega)]
      refine pk_eq (ns_lb A B t m j) (ns_lb A B t m w) (fun q => nm_r (nI_1 p) (ns_nx ?_)) (fun q => ns_nx ?_)
      · rw [if_pos q] at h; exact h
      · rw [if_neg q] at h; exact h
theorem ns_m1b : ∀ i, i < 32 → (-1 : Int32).toBitVec.getLsbD i = true := by decide +kernel
theorem ns_an {a b c : Nat} (h : ∀ k, k < 32 → c.testBit k = (a.testBit k && !b.testBit k)) : nI a &&& (nI b ^^^ (-1)) = nI c := by
  apply Int32.toBitVec_inj.1
  rw [Int32.toBitVec_and, Int32.toBitVec_xor]
  show BitVec.ofNat 32 a &&& (BitVec.ofNat 32 b ^^^ (-1 : Int32).toBitVec) = BitVec.ofNat 32 c
  apply BitVec.eq_of_getLsbD_eq
  intro i hi
  rw [BitVec.getLsbD_and, BitVec.getLsbD_xor, ns_m1b i hi, BitVec.getLsbD_ofNat, BitVec.getLsbD_ofNat, BitVec.getLsbD_ofNat, h i hi, decide_eq_true hi]
  cases a.testBit i <;> cases b.testBit i <;> rfl
theorem ns_cmpb {d m : Nat} (hd : d < 2 ^ m) (k : Nat) : (2 ^ m - 1 - d).testBit k = (decide (k < m) && !d.testBit k) := by
  rw [show 2 ^ m - 1 - d = 2 ^ m - (d + 1) by omega]
  exact Nat.testBit_two_pow_sub_succ hd k
theorem ns_cmp {d m : Nat} (hd : d < 2 ^ m) : nI (2 ^ m - 1) &&& (nI d ^^^ (-1)) = nI (2 ^ m - 1 - d) := by
  apply ns_an
  intro k _
  rw [ns_cmpb hd, Nat.testBit_two_pow_sub_one]
theorem ns_orA {t i : Nat} (h : t.testBit i = false) : t ||| 2 ^ i = t + 2 ^ i := by
  apply Nat.eq_of_testBit_eq
  intro j
  rw [ns_addb h, Nat.testBit_or, Nat.testBit_two_pow]
theorem ns_anS {t i : Nat} (h : t.testBit i = true) : nI t &&& (nI (2 ^ i) ^^^ (-1)) = nI (t - 2 ^ i) := by
  apply ns_an
  intro k _
  rw [ns_subb h, Nat.testBit_two_pow]
theorem ns_ymd {post : Int32 → SY → Prop} {d m s : Nat} {F S sh ho pt co : Nat → Int32} {A B : Nat → Nat} (hR : ns_R m F S ho A B) (hd : d < 2 ^ m) (hs : s < 32) (h : ∀ pt, post (ns_b (ns_all (ns_lcs A B m s d) m 0)) (nI m, F, S, sh, ho, pt, co)) : wpY_mendsWithAny post (nI m, F, S, sh, ho, pt, co) (nI d) (nI (2 ^ m - 1 - d)) (nI s) := by
  have hm := hR.1
  have hf := ns_full hm
  unfold wpY_mendsWithAny
  dsimp only
  refine ⟨m + 1, ?_⟩
  refine ns_exit (fun n j => ∀ pt, wY_mendsWithAny_3 post (nI d) (nI (2 ^ m - 1 - d)) (nI s) n (nI j) (nI m) F S sh ho pt co) (ns_lcs A B m s d) (fun b => ∀ pt, post (ns_b b) (nI m, F, S, sh, ho, pt, co)) m ?_ ?_ ?_ m 0 (Nat.zero_add m) h pt
  · intro n h pt
    exact br_t (nI_le (Nat.le_refl m) (by omega)) (h pt)
  · intro n j hj c h pt
    have hp := ns_p2 (i := j) (j := 12) (by omega)
    refine br_f (nI_ge hj (by omega)) (ns_yin (by omega) (by omega) (ns_br (fun z1 => ns_nx (h pt)) (fun z1 => ?_)))
    rw [ns_shl (by omega), ns_or, ns_orA (by rw [ns_cmpb hd, z1]; simp)]
    refine ns_ycn hR (by omega) hs (fun pt' => ns_br (fun z2 => ?_) (fun z2 => ns_nx (h pt')))
    unfold ns_lcs at c
    rw [z1, z2] at c
    exact absurd c (by decide)
  · intro n j hj c h pt
    have hp := ns_p2 (i := j) (j := 12) (by omega)
    unfold ns_lcs at c
    rw [Bool.not_eq_false', Bool.and_eq_true, Bool.not_eq_true'] at c
    refine br_f (nI_ge hj (by omega)) (ns_yin (by omega) (by omega) (ns_br (fun z1 => ?_) (fun z1 => ?_)))
    · rw [c.1] at z1; exact absurd z1 (by decide)
    · rw [ns_shl (by omega), ns_or, ns_orA (by rw [ns_cmpb hd, z1]; simp)]
      refine ns_ycn hR (by omega) hs (fun pt' => ns_br (fun z2 => h pt') (fun z2 => ?_))
      rw [c.2] at z2; exact absurd z2 (by decide)
theorem ns_ytr {post : Int32 → SY → Prop} {t m : Nat} {F S sh ho pt co : Nat → Int32} {A B : Nat → Nat} (hR : ns_R m F S ho A B) (ht : t < 2 ^ m) (h : ∀ pt, post (ns_b (ns_tr A B m t)) (nI m, F, S, sh, ho, pt, co)) : wpY_isTree post (nI m, F, S, sh, ho, pt, co) (nI t) := by
  have hm := hR.1
  have hf := ns_full hm
  unfold wpY_isTree
  dsimp only
  refine ns_ycn (s := 31) hR (by omega) (by decide) (fun pt => ns_br (fun z => ?_) (fun z => Exists.intro (m + 1) ?_))
  · have h := h pt
    unfold ns_tr at h; rw [z] at h; exact h
  · have h2 : ∀ pt, post (ns_b (ns_all (ns_trs A B m t) m 0)) (nI m, F, S, sh, ho, pt, co) := by
      intro pt
      have h := h pt
      unfold ns_tr at h; rw [z] at h; exact h
    refine ns_exit (fun n j => ∀ pt, wY_isTree_14 post (nI t) n (nI j) (nI m) F S sh ho pt co) (ns_trs A B m t) (fun b => ∀ pt, post (ns_b b) (nI m, F, S, sh, ho, pt, co)) m ?_ ?_ ?_ m 0 (Nat.zero_add m) h2 pt
    · intro n h pt
      exact br_t (nI_le (Nat.le_refl m) (by omega)) (h pt)
    · intro n j hj c h pt
      refine br_f (nI_ge hj (by omega)) (ns_yin (by omega) (by omega) (ns_br (fun z1 => ns_nx (h pt)) (fun z1 => ?_)))
      rw [ns_shl (by omega), ns_anS z1]
      refine ns_ycn (s := 31) hR (Nat.lt_of_le_of_lt (Nat.sub_le _ _) (by omega)) (by decide) (fun pt' => ns_br (fun z2 => ns_nx (h pt')) (fun z2 => ?_))
      unfold ns_trs at c
      rw [z1, z2] at c
      exact absurd c (by decide)
    · intro n j hj c h pt
      unfold ns_trs at c
      rw [Bool.not_eq_false', Bool.and_eq_true] at c
      refine br_f (nI_ge hj (by omega)) (ns_yin (by omega) (by omega) (ns_br (fun z1 => ?_) (fun z1 => ?_)))
      · rw [c.1] at z1; exact absurd z1 (by decide)
      · rw [ns_shl (by omega), ns_anS z1]
        refine ns_ycn (s := 31) hR (Nat.lt_of_le_of_lt (Nat.sub_le _ _) (by omega)) (by decide) (fun pt' => ns_br (fun z2 => ?_) (fun z2 => h pt'))
        rw [c.2] at z2; exact absurd z2 (by decide)
theorem ns_ypw {post : Int32 → Prop} {x e f : Int32} {F S sh ho pt co : Nat → Int32} (h : post (ns_pw x e)) : wpY_power post (f, F, S, sh, ho, pt, co) x e := by
  unfold wpY_power
  dsimp only
  unfold ns_pw at h
  rcases ns_ex e with ⟨h0, h1⟩ | ⟨k, hk, rfl⟩
  · rw [h1] at h
    exact ⟨1, br_t h0 h⟩
  · rw [nI_clamp hk] at h
    refine ⟨k + 1, ?_⟩
    refine ns_loop (fun n p j => wY_power_5 post x (nI k) f F S sh ho pt co n p (nI j)) (fun p _ => p * x) post k ?_ ?_ k 0 1 (Nat.zero_add k) h
    · intro n p h
      exact br_t (nI_le (Nat.le_refl k) hk) h
    · intro n p j hj h
      exact br_f (nI_ge hj hk) (nm_e (ns_nx h))
