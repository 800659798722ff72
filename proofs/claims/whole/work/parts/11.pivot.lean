/-! pivotal: X meets each state of the other edges with edge i up, Y with edge i down -/
def ns_sm (f : Nat → Int64) : Nat → Nat → Int64
  | _, 0 => 0
  | j, d + 1 => f j + ns_sm f (j + 1) d
theorem ns_smF (f : Nat → Int64) : ∀ d j a, ns_fo (fun a t => a + f t) d j a = a + ns_sm f j d := by
  intro d
  induction d with
  | zero => intro j a; exact (Int64.add_zero a).symm
  | succ d ih =>
    intro j a
    rw [ns_fo, ih, ns_sm, Int64.add_assoc]
theorem ns_smA (f : Nat → Int64) (e : Nat) : ∀ d j, ns_sm f j (d + e) = ns_sm f j d + ns_sm f (j + d) e := by
  intro d
  induction d with
  | zero => intro j; rw [Nat.zero_add, Nat.add_zero, ns_sm, Int64.zero_add]
  | succ d ih =>
    intro j
    rw [show d + 1 + e = d + e + 1 by omega, ns_sm, ih, ns_sm, Int64.add_assoc, show j + 1 + d = j + (d + 1) by omega]
theorem ns_smC (f g : Nat → Int64) : ∀ d j j', (∀ l, l < d → f (j + l) = g (j' + l)) → ns_sm f j d = ns_sm g j' d := by
  intro d
  induction d with
  | zero => intro j j' _; rfl
  | succ d ih =>
    intro j j' h
    have h0 := h 0 (by omega)
    rw [ns_sm, ns_sm, ih (j + 1) (j' + 1) (fun l hl => by
      have := h (l + 1) (by omega)
      rw [show j + 1 + l = j + (l + 1) by omega, show j' + 1 + l = j' + (l + 1) by omega]
      exact this)]
    rw [Nat.add_zero, Nat.add_zero] at h0
    rw [h0]
theorem ns_smZ (f : Nat → Int64) : ∀ d j, (∀ l, l < d → f (j + l) = 0) → ns_sm f j d = 0 := by
  intro d
  induction d with
  | zero => intro j _; rfl
  | succ d ih =>
    intro j h
    have h0 := h 0 (by omega)
    rw [Nat.add_zero] at h0
    rw [ns_sm, h0, Int64.zero_add]
    refine ih (j + 1) (fun l hl => ?_)
    have := h (l + 1) (by omega)
    rw [show j + 1 + l = j + (l + 1) by omega]
    exact this
theorem ns_lob {i K l : Nat} (hl : l < 2 ^ i) : (K * (2 ^ i + 2 ^ i) + l).testBit i = false := by
  rw [show K * (2 ^ i + 2 ^ i) + l = 2 ^ i * (2 * K + false.toNat) + l by
    rw [Bool.toNat_false, Nat.add_zero, ← Nat.mul_two, Nat.mul_comm, Nat.mul_assoc], Nat.testBit_two_pow_mul_add _ hl, if_neg (Nat.lt_irrefl i), ns_bq, Nat.sub_self]
  rfl
theorem ns_hib {i K l : Nat} (hl : l < 2 ^ i) : (K * (2 ^ i + 2 ^ i) + 2 ^ i + l).testBit i = true := by
  rw [show K * (2 ^ i + 2 ^ i) + 2 ^ i + l = 2 ^ i * (2 * K + true.toNat) + l by
    rw [Bool.toNat_true, Nat.mul_add (2 ^ i), Nat.mul_one, ← Nat.mul_two, Nat.mul_comm K, Nat.mul_assoc], Nat.testBit_two_pow_mul_add _ hl, if_neg (Nat.lt_irrefl i), ns_bq, Nat.sub_self]
  rfl
theorem ns_smP (f : Nat → Int64) (i : Nat) : ∀ N, ns_sm (fun t => cond (t.testBit i) (f (t - 2 ^ i)) 0) 0 (N * (2 ^ i + 2 ^ i)) = ns_sm (fun t => cond (t.testBit i) 0 (f t)) 0 (N * (2 ^ i + 2 ^ i)) := by
  intro N
  induction N with
  | zero => rw [Nat.zero_mul]; rfl
  | succ N ih =>
    rw [Nat.succ_mul, ns_smA, ns_smA, ih, ns_smA, ns_smA]
    congr 1
    simp only [Nat.zero_add]
    rw [ns_smZ (fun t => cond (t.testBit i) (f (t - 2 ^ i)) 0) (2 ^ i) (N * (2 ^ i + 2 ^ i)) (fun l hl => by
        show cond ((N * (2 ^ i + 2 ^ i) + l).testBit i) _ _ = _
        rw [ns_lob hl]; rfl),
      ns_smZ (fun t => cond (t.testBit i) 0 (f t)) (2 ^ i) (N * (2 ^ i + 2 ^ i) + 2 ^ i) (fun l hl => by
        show cond ((N * (2 ^ i + 2 ^ i) + 2 ^ i + l).testBit i) _ _ = _
        rw [ns_hib hl]; rfl), Int64.zero_add, Int64.add_zero]
    refine ns_smC _ _ (2 ^ i) _ _ (fun l hl => ?_)
    show cond ((N * (2 ^ i + 2 ^ i) + 2 ^ i + l).testBit i) (f (N * (2 ^ i + 2 ^ i) + 2 ^ i + l - 2 ^ i)) 0 = cond ((N * (2 ^ i + 2 ^ i) + l).testBit i) 0 (f (N * (2 ^ i + 2 ^ i) + l))
    rw [ns_lob hl, ns_hib hl, Nat.add_right_comm, Nat.add_sub_cancel]
    rfl
theorem ns_stS {ho : Nat → Int32} {m t i : Nat} (hm : m ≤ 12) (h : t.testBit i = true) : ns_st ho m t (nI i) = ns_st ho m (t - 2 ^ i) (nI i) := by
  unfold ns_st
  refine ns_allE _ _ m (fun j hj => ?_) m 0 (Nat.zero_add m)
  unfold ns_sc
  by_cases e : nI j = nI i
  · rw [decide_eq_true e]; rfl
  · have e2 : ¬ i = j := fun q => e (by rw [q])
    rw [ns_subb h, decide_eq_false e2, Bool.not_false, Bool.and_true]
theorem ns_wtS {sh ho : Nat → Int32} {m t i : Nat} (h : t.testBit i = true) : ns_wt sh ho m t (nI i) = ns_wt sh ho m (t - 2 ^ i) (nI i) := by
  unfold ns_wt
  refine ns_foE _ _ 12 (fun a j hj => ?_) 12 0 1 rfl
  unfold ns_wg
  by_cases e : nI j = nI i
  · rw [if_pos e, if_pos e]
  · have e2 : ¬ i = j := fun q => e (by rw [q])
    have e3 : (t - 2 ^ i).testBit j = t.testBit j := by
      rw [ns_subb h, decide_eq_false e2, Bool.not_false, Bool.and_true]
    rw [if_neg e, if_neg e]
    unfold ns_ew
    rw [e3]
noncomputable def ns_pv (A B : Nat → Nat) (sh ho : Nat → Int32) (m s i : Nat) (t : Nat) : Int64 := cond (ns_st ho m t (nI i)) (cond (ns_cn A B t m s) 0 (cond (ns_cn A B (t + 2 ^ i) m s) (ns_wt sh ho m t (nI i)) 0)) 0
theorem ns_xqV {post : Int64 → Prop} {m s i : Nat} {F S sh ho : Nat → Int32} {A B : Nat → Nat} (hR : ns_R m F S ho A B) (hs : s < 32) (hi : i < m) (h : post (ns_fo (fun a t => a + cond (t.testBit i) (ns_pv A B sh ho m s i (t - 2 ^ i)) 0) (2 ^ m) 0 0)) : ∃ n, wX_pivotal_28 post (nI s) (nI i) (nI m) F S sh ho n 0 0 := by
  have hm := hR.1
  have hf := ns_full hm
  refine ⟨2 ^ m + 1, ns_loop (fun n a j => wX_pivotal_28 post (nI s) (nI i) (nI m) F S sh ho n a (nI j)) (fun a t => a + cond (t.testBit i) (ns_pv A B sh ho m s i (t - 2 ^ i)) 0) post (2 ^ m) ?_ ?_ (2 ^ m) 0 0 (Nat.zero_add _) h⟩
  · intro n a h
    exact br_t (ns_end hm) h
  · intro n a j hj h
    have ht : j < 2 ^ 31 := by omega
    refine br_f (ns_top hm hj) (ns_xhas ht (by omega) (ns_br (fun z0 => ns_nx ?_) (fun z0 => ?_)))
    · rw [z0] at h
      have h : wX_pivotal_28 post (nI s) (nI i) (nI m) F S sh ho n (a + 0) (nI (j + 1)) := h
      rw [Int64.add_zero] at h; exact h
    · have h : wX_pivotal_28 post (nI s) (nI i) (nI m) F S sh ho n (a + ns_pv A B sh ho m s i (j - 2 ^ i)) (nI (j + 1)) := by
        rw [z0] at h; exact h
      unfold ns_pv at h
      rw [← ns_stS hm z0, ← ns_wtS z0, Nat.sub_add_cancel (ns_subl z0)] at h
      have fin0 : wX_pivotal_28 post (nI s) (nI i) (nI m) F S sh ho n (a + 0) (nI (j + 1)) → wX_pivotal_28 post (nI s) (nI i) (nI m) F S sh ho n a (nI (j + 1)) := fun q => by
        rw [Int64.add_zero] at q; exact q
      rw [ns_shl (by omega), pk_sub (ns_subl z0)]
      refine ns_xst hm ht (ns_br (fun z1 => ns_nx (fin0 ?_)) (fun z1 => ns_xcn hR ht hs (ns_br (fun z2 => ns_nx (fin0 ?_)) (fun z2 => ns_xcn hR (Nat.lt_of_le_of_lt (Nat.sub_le _ _) ht) hs (ns_br (fun z3 => ns_xwt hm ht (nm_e (ns_nx ?_))) (fun z3 => ns_nx (fin0 ?_)))))))
      · rw [z1] at h; exact h
      · rw [z1, z2] at h
        cases z3 : ns_cn A B (j - 2 ^ i) m s <;> rw [z3] at h <;> exact h
      · rw [z1, z2, z3] at h; exact h
      · rw [z1, z2, z3] at h; exact h
theorem ns_yqV {post : Int64 → SY → Prop} {m s i : Nat} {F S sh ho pt co : Nat → Int32} {A B : Nat → Nat} (hR : ns_R m F S ho A B) (hs : s < 32) (hi : i < m) (h : ∀ pt, post (ns_fo (fun a t => a + cond (t.testBit i) 0 (ns_pv A B sh ho m s i t)) (2 ^ m) 0 0) (nI m, F, S, sh, ho, pt, co)) : ∃ n, wY_pivotal_29 post (nI s) (nI i) n 0 0 (nI m) F S sh ho pt co := by
  have hm := hR.1
  have hf := ns_full hm
  refine ⟨2 ^ m + 1, ns_loop (fun n a j => ∀ pt, wY_pivotal_29 post (nI s) (nI i) n a (nI j) (nI m) F S sh ho pt co) (fun a t => a + cond (t.testBit i) 0 (ns_pv A B sh ho m s i t)) (fun a => ∀ pt, post a (nI m, F, S, sh, ho, pt, co)) (2 ^ m) ?_ ?_ (2 ^ m) 0 0 (Nat.zero_add _) h pt⟩
  · intro n a h pt
    rw [wY_pivotal_29]
    refine ns_ysets hm ?_
    exact br_t (nI_le (Nat.le_refl _) (by omega)) (h pt)
  · intro n a j hj h pt
    have ht : j < 2 ^ 31 := by omega
    have fin0 : (∀ pt, wY_pivotal_29 post (nI s) (nI i) n (a + 0) (nI (j + 1)) (nI m) F S sh ho pt co) → ∀ pt, wY_pivotal_29 post (nI s) (nI i) n a (nI (j + 1)) (nI m) F S sh ho pt co := fun q => by
      rw [Int64.add_zero] at q; exact q
    rw [wY_pivotal_29]
    refine ns_ysets hm ?_
    refine br_f (nI_ge hj (by omega)) (ns_yin ht (by omega) (ns_br (fun z0 => ?_) (fun z0 => ns_nx (fin0 ?_ pt))))
    · have h : ∀ pt, wY_pivotal_29 post (nI s) (nI i) n (a + ns_pv A B sh ho m s i j) (nI (j + 1)) (nI m) F S sh ho pt co := by
        rw [z0] at h; exact h
      unfold ns_pv at h
      have hp := ns_p2 (i := i) (j := 12) (by omega)
      rw [ns_shl (by omega), ns_or, ns_orA z0]
      refine ns_yst hR ht (ns_br (fun z1 => ns_nx (fin0 ?_ pt)) (fun z1 => ns_ycn hR ht hs (fun pt1 => ns_br (fun z2 => ns_ycn hR (by omega) hs (fun pt2 => ns_br (fun z3 => ns_nx (fin0 ?_ pt2)) (fun z3 => ns_ywt hm ht (nm_e (ns_nx ?_))))) (fun z2 => ns_nx (fin0 ?_ pt1)))))
      · rw [z1] at h; exact h
      · rw [z1, z2, z3] at h; exact h
      · rw [z1, z2, z3] at h; exact h pt2
      · rw [z1, z2] at h; exact h
    · rw [z0] at h; exact h
theorem ns_pvE (A B : Nat → Nat) (sh ho : Nat → Int32) {m s i : Nat} (hi : i < m) : ns_fo (fun a t => a + cond (t.testBit i) (ns_pv A B sh ho m s i (t - 2 ^ i)) 0) (2 ^ m) 0 0 = ns_fo (fun a t => a + cond (t.testBit i) 0 (ns_pv A B sh ho m s i t)) (2 ^ m) 0 0 := by
  rw [ns_smF, ns_smF]
  congr 1
  have e : 2 ^ m = 2 ^ (m - i - 1) * (2 ^ i + 2 ^ i) := by
    rw [← Nat.mul_two, ← Nat.pow_succ, ← Nat.pow_add]
    congr 1
    omega
  rw [e]
  exact ns_smP (ns_pv A B sh ho m s i) i _
