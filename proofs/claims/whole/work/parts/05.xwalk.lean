/-! X's own methods -/
def ns_R (m : Nat) (F S ho : Nat → Int32) (A B : Nat → Nat) : Prop := m ≤ 12 ∧ ∀ i, i < m → F i = nI (A i) ∧ A i < 5 ∧ S i = nI (B i) ∧ B i < 5 ∧ (ho i = 0 ∨ ho i = 1 ∨ ho i = 2)
theorem ns_RE {m : Nat} {F S ho : Nat → Int32} {A B : Nat → Nat} (h : ns_R m F S ho A B) : ns_E A B m := fun i hi => ⟨(h.2 i hi).2.1, (h.2 i hi).2.2.2.1⟩
theorem ns_nx {P : Int32 → Prop} {j : Nat} (h : P (nI (j + 1))) : ∀ y, y = nI j + 1 → P y := by
  intro y e
  rw [e, nI_1]
  exact h
theorem ns_n0 {x : Nat} (h : x < 2 ^ 31) : nI x = 0 ↔ x = 0 := by
  rw [← nI_0]
  exact nI_eq h (by decide)
theorem ns_xhas {post : Int32 → Prop} {t i : Nat} (ht : t < 2 ^ 31) (hi : i < 32) (h : post (ns_b (t.testBit i))) : wpX_has post (nI t) (nI i) := by
  unfold wpX_has
  rw [ns_bit ht hi]
  cases e : t.testBit i <;> rw [e] at h
  · exact br_f (by decide) h
  · exact br_t (by decide) h
theorem ns_m31 {m : Nat} (h : m ≤ 12) : m < 2 ^ 31 := by omega
theorem ns_esL {A B : Nat → Nat} {i m : Nat} (hE : ns_E A B m) (hi : i < m) : ns_es A B i < 32 := by
  have h := ns_d2 0 (by decide) _ (hE i hi).1 _ (hE i hi).2
  rw [Nat.zero_or] at h
  exact h
theorem ns_xends {post : Int32 → Prop} {m i : Nat} {F S sh ho : Nat → Int32} {A B : Nat → Nat} (hR : ns_R m F S ho A B) (hi : i < m) (h : post (nI (ns_es A B i))) : wpX_endsOf post (nI m, F, S, sh, ho) (nI i) := by
  unfold wpX_endsOf
  dsimp only
  have hm := hR.1
  have hr := hR.2 i hi
  refine ⟨vp_in_nI (by omega) (by decide), vp_in_nI (by omega) (by decide), ?_⟩
  rw [nI_clamp (by omega), hr.1, hr.2.2.1, ns_shl (by omega), ns_shl (by omega), ns_or]
  exact h
theorem ns_xr14 {post : Int32 → Prop} {J5 : Int32 → Int32 → Prop} {x4 : Int32} {t m : Nat} {F S sh ho : Nat → Int32} {A B : Nat → Nat} (hR : ns_R m F S ho A B) (ht : t < 2 ^ 31) : ∀ d j r, j + d = m → J5 (nI (ns_fo (ns_rs A B t) d j r)) (x4 + 1) → r < 32 → wX_reachedFrom_14 post J5 (nI t) x4 (nI m) F S sh ho (d + 1) (nI r) (nI j) := by
  have hm := hR.1
  have hE := ns_RE hR
  refine ns_loop (fun n r j => r < 32 → wX_reachedFrom_14 post J5 (nI t) x4 (nI m) F S sh ho n (nI r) (nI j)) (ns_rs A B t) (fun r => J5 (nI r) (x4 + 1)) m ?_ ?_
  · intro n r h _
    exact br_t (nI_le (Nat.le_refl m) (by omega)) (nm_e h)
  · intro n r j hj h hr
    have h1 := h (ns_rsB hE hj hr).1
    refine br_f (nI_ge hj (by omega)) (ns_xends hR hj (ns_xhas ht (by omega) (ns_br (fun z => ns_nx ?_) (fun z => ns_if (d := (r &&& ns_es A B j) = 0) ?_ (fun q => ns_nx ?_) (fun q => nm_r (ns_or _ _) (ns_nx ?_))))))
    · have e : ns_rs A B t r j = r := if_neg (fun q => by rw [z] at q; exact absurd q.1 (by decide))
      rw [e] at h1
      exact h1
    · rw [nx_and]
      exact ns_n0 (Nat.lt_of_le_of_lt Nat.and_le_left (by omega))
    · have e : ns_rs A B t r j = r := if_neg (fun w => w.2 q)
      rw [e] at h1
      exact h1
    · have e : ns_rs A B t r j = r ||| ns_es A B j := if_pos ⟨z, q⟩
      rw [e] at h1
      exact h1
theorem ns_xrf {post : Int32 → Prop} {t m s : Nat} {F S sh ho : Nat → Int32} {A B : Nat → Nat} (hR : ns_R m F S ho A B) (ht : t < 2 ^ 31) (hs : s < 32) (h : post (nI (ns_rf A B t m s))) : wpX_reachedFrom post (nI m, F, S, sh, ho) (nI s) (nI t) := by
  unfold wpX_reachedFrom
  dsimp only
  refine ⟨4 + 1, ?_⟩
  refine ns_loop (fun n r j => r < 32 → wX_reachedFrom_5 post (nI t) (nI m) F S sh ho n (nI r) (nI j)) (fun r _ => ns_rd A B t m r) (fun r => post (nI r)) 5 ?_ ?_ 4 1 s rfl h hs
  · intro n r h _
    exact br_t (nI_le (b := 5) (Nat.le_refl 5) (by decide)) h
  · intro n r j hj h hr
    refine br_f (nI_ge (b := 5) hj (by decide)) ⟨m + 1, ns_xr14 hR ht m 0 r (Nat.zero_add m) ?_ hr⟩
    rw [nI_1]
    exact h (ns_rd1 (ns_RE hR) t hr).1
theorem ns_xcn {post : Int32 → Prop} {t m s : Nat} {F S sh ho : Nat → Int32} {A B : Nat → Nat} (hR : ns_R m F S ho A B) (ht : t < 2 ^ 31) (hs : s < 32) (h : post (ns_b (ns_cn A B t m s))) : wpX_connects post (nI m, F, S, sh, ho) (nI s) (nI t) := by
  unfold wpX_connects
  dsimp only
  refine nm_r (ns_e1 s hs) (ns_xrf hR ht (ns_e0 s hs) (ns_if (ns_cnX (ns_RE hR) t hs) (fun q => ?_) (fun q => ?_)))
  · rw [q] at h; exact h
  · rw [Bool.eq_false_iff.mpr q] at h; exact h
def ns_sc (ho : Nat → Int32) (t : Nat) (lo : Int32) (j : Nat) : Bool := decide (nI j = lo) || (decide (ho j = 2) || decide (ho j = ns_b (t.testBit j)))
def ns_st (ho : Nat → Int32) (m t : Nat) (lo : Int32) : Bool := ns_all (ns_sc ho t lo) m 0
theorem ns_xst {post : Int32 → Prop} {t m : Nat} {lo : Int32} {F S sh ho : Nat → Int32} (hm : m ≤ 12) (ht : t < 2 ^ 31) (h : post (ns_b (ns_st ho m t lo))) : wpX_isState post (nI m, F, S, sh, ho) (nI t) lo := by
  unfold wpX_isState
  dsimp only
  refine ⟨m + 1, ?_⟩
  refine ns_exit (fun n j => wX_isState_2 post (nI t) lo (nI m) F S sh ho n (nI j)) (ns_sc ho t lo) (fun b => post (ns_b b)) m ?_ ?_ ?_ m 0 (Nat.zero_add m) h
  · intro n h
    exact br_t (nI_le (Nat.le_refl m) (by omega)) h
  · intro n j hj c h
    have e : (nI j).toNatClampNeg = j := nI_clamp (by omega)
    have hin : vp_in (nI j) 12 := vp_in_nI (by omega) (by decide)
    refine br_f (nI_ge hj (by omega)) (br_c (fun _ => ns_nx h) (fun h1 => ⟨hin, br_c (fun _ => ns_nx h) (fun h2 => ⟨hin, br_c (fun _ => ns_nx h) (fun h3 => ?_)⟩)⟩))
    exfalso
    rw [e] at h2 h3
    rw [ns_bit ht (by omega), ns_bn] at h3
    unfold ns_sc at c
    rw [decide_eq_false h1, decide_eq_false h2, decide_eq_false h3] at c
    exact absurd c (by decide)
  · intro n j hj c h
    have e : (nI j).toNatClampNeg = j := nI_clamp (by omega)
    have hin : vp_in (nI j) 12 := vp_in_nI (by omega) (by decide)
    unfold ns_sc at c
    rw [Bool.or_eq_false_iff, Bool.or_eq_false_iff, decide_eq_false_iff_not, decide_eq_false_iff_not, decide_eq_false_iff_not] at c
    refine br_f (nI_ge hj (by omega)) (br_f c.1 ⟨hin, br_f (by rw [e]; exact c.2.1) ⟨hin, br_f (by rw [e, ns_bit ht (by omega), ns_bn]; exact c.2.2) h⟩⟩)
def ns_ew (sh ho : Nat → Int32) (m t i : Nat) : Int32 := if m ≤ i then 16 else if ho i = 2 then (if t.testBit i = true then sh i else 16 - sh i) else 16
def ns_wg (sh ho : Nat → Int32) (m t : Nat) (lo : Int32) (p : Int64) (i : Nat) : Int64 := if nI i = lo then p else p * (ns_ew sh ho m t i).toInt64
def ns_wt (sh ho : Nat → Int32) (m t : Nat) (lo : Int32) : Int64 := ns_fo (ns_wg sh ho m t lo) 12 0 1
theorem ns_xew {post : Int32 → Prop} {t m i : Nat} {F S sh ho : Nat → Int32} (hm : m ≤ 12) (ht : t < 2 ^ 31) (hi : i < 12) (h : post (ns_ew sh ho m t i)) : wpX_edgeWeight post (nI m, F, S, sh, ho) (nI i) (nI t) := by
  unfold wpX_edgeWeight
  dsimp only
  have e : (nI i).toNatClampNeg = i := nI_clamp (by omega)
  have hin : vp_in (nI i) 12 := vp_in_nI (by omega) (by decide)
  unfold ns_ew at h
  refine pk_le m i (fun q => ?_) (fun q => ⟨hin, br_c (fun w => ns_xhas ht (by omega) (ns_br (fun z => ⟨hin, ?_⟩) (fun z => ⟨hin, ?_⟩))) (fun w => ?_)⟩)
  · rw [if_pos q] at h; exact h
  · rw [e] at w ⊢
    rw [if_neg (by omega), if_pos w, if_neg (by rw [z]; decide)] at h; exact h
  · rw [e] at w ⊢
    rw [if_neg (by omega), if_pos w, if_pos z] at h; exact h
  · rw [e] at w
    rw [if_neg (by omega), if_neg w] at h; exact h
theorem ns_xwt {post : Int64 → Prop} {t m : Nat} {lo : Int32} {F S sh ho : Nat → Int32} (hm : m ≤ 12) (ht : t < 2 ^ 31) (h : post (ns_wt sh ho m t lo)) : wpX_weightOf post (nI m, F, S, sh, ho) (nI t) lo := by
  unfold wpX_weightOf
  dsimp only
  refine ⟨12 + 1, ?_⟩
  refine ns_loop (fun n p j => wX_weightOf_5 post (nI t) lo (nI m) F S sh ho n p (nI j)) (ns_wg sh ho m t lo) post 12 ?_ ?_ 12 0 1 rfl h
  · intro n p h
    exact br_t (nI_le (b := 12) (Nat.le_refl 12) (by decide)) h
  · intro n p j hj h
    refine br_f (nI_ge (b := 12) hj (by decide)) (br_c (fun q => ns_nx ?_) (fun q => ns_xew hm ht hj (nm_e (ns_nx ?_))))
    · unfold ns_wg at h
      rw [if_pos q] at h; exact h
    · unfold ns_wg at h
      rw [if_neg q] at h; exact h
theorem ns_ppF (t : Nat) (e : Nat) : ns_fo (fun n i => n + (t.testBit i).toNat) e 0 0 = ns_pp t e :=
  ns_foI (fun n i => n + (t.testBit i).toNat) (fun j n => n = ns_pp t j) e (fun a j _ h => by rw [h]; rfl) e 0 0 (Nat.zero_add e) rfl
theorem ns_ppL (t : Nat) : ∀ j, ns_pp t j ≤ j := by
  intro j
  induction j with
  | zero => exact Nat.le_refl 0
  | succ j ih =>
    rw [ns_pp]
    have := Bool.toNat_le (t.testBit j)
    omega
theorem ns_xsz {post : Int32 → Prop} {t : Nat} (ht : t < 2 ^ 31) (h : post (nI (ns_pp t 12))) : wpX_sizeOf post (nI t) := by
  unfold wpX_sizeOf
  refine ⟨12 + 1, ?_⟩
  refine ns_loop (fun n p j => wX_sizeOf_4 post (nI t) n (nI p) (nI j)) (fun n i => n + (t.testBit i).toNat) (fun p => post (nI p)) 12 ?_ ?_ 12 0 0 rfl (by rw [ns_ppF]; exact h)
  · intro n p h
    exact br_t (nI_le (b := 12) (Nat.le_refl 12) (by decide)) h
  · intro n p j hj h
    refine br_f (nI_ge (b := 12) hj (by decide)) (nm_r ?_ (ns_nx h))
    rw [ns_bit ht (by omega), nI_add]
theorem ns_2v {v : Nat} (hv : v < 5) : 2 ^ v < 32 := (by decide +kernel : ∀ v, v < 5 → 2 ^ v < 32) v hv
theorem ns_xpt {post : Int32 → Prop} {t m : Nat} {F S sh ho : Nat → Int32} {A B : Nat → Nat} (hR : ns_R m F S ho A B) (ht : t < 2 ^ 31) (h : post (nI (ns_cp (ns_lb A B t m)))) : wpX_partsOf post (nI m, F, S, sh, ho) (nI t) := by
  unfold wpX_partsOf
  dsimp only
  refine ⟨5 + 1, ?_⟩
  refine ns_loop (fun n p j => wX_partsOf_4 post (nI t) (nI m) F S sh ho n (nI p) (nI j)) (fun n v => n + ns_f1 (ns_lb A B t m) v) (fun p => post (nI p)) 5 ?_ ?_ 5 0 0 rfl h
  · intro n p h
    exact br_t (nI_le (b := 5) (Nat.le_refl 5) (by decide)) h
  · intro n p j hj h
    refine br_f (nI_ge (b := 5) hj (by decide)) (nm_r (e' := nI (2 ^ j) - 1) (by rw [ns_shl (by omega)]) ?_)
    rw [ns_shl (by omega)]
    refine ns_xrf hR ht (ns_2v hj) (ns_if (ns_partX (ns_RE hR) t hj) (fun q => nm_r (nI_1 p) (ns_nx ?_)) (fun q => ns_nx ?_))
    · have e : ns_f1 (ns_lb A B t m) j = 1 := if_pos q
      rw [e] at h; exact h
    · have e : ns_f1 (ns_lb A B t m) j = 0 := if_neg q
      rw [e] at h; exact h
theorem ns_xpr {post : Int32 → Prop} {t m : Nat} {F S sh ho : Nat → Int32} {A B : Nat → Nat} (hR : ns_R m F S ho A B) (ht : t < 2 ^ 31) (h : post (nI (ns_pr (ns_lb A B t m)))) : wpX_pairsOf post (nI m, F, S, sh, ho) (nI t) := by
  unfold wpX_pairsOf
  dsimp only
  rw [← ns_pairX (ns_RE hR)] at h
  refine ⟨5 + 1, ?_⟩
  refine ns_loop (fun n p j => wX_pairsOf_4 post (nI t) (nI m) F S sh ho n (nI p) (nI j)) (fun n v => ns_fo (fun n w => n + ((ns_rf A B t m (2 ^ v)).testBit w).toNat) (4 - v) (v + 1) n) (fun p => post (nI p)) 5 ?_ ?_ 5 0 0 rfl h
  · intro n p h
    exact br_t (nI_le (b := 5) (Nat.le_refl 5) (by decide)) h
  · intro n p j hj h
    refine br_f (nI_ge (b := 5) hj (by decide)) ?_
    rw [ns_shl (by omega)]
    refine ns_xrf hR ht (ns_2v hj) (ns_nx ⟨4 - j + 1, ?_⟩)
    have hr := (ns_rf1 (ns_RE hR) t (ns_2v hj)).1
    refine ns_loop (fun k p o => wX_pairsOf_24 post (wX_pairsOf_4 post (nI t) (nI m) F S sh ho n) (nI t) (nI j) (nI (ns_rf A B t m (2 ^ j))) (nI m) F S sh ho k (nI p) (nI o)) (fun n w => n + ((ns_rf A B t m (2 ^ j)).testBit w).toNat) (fun p => wX_pairsOf_4 post (nI t) (nI m) F S sh ho n (nI p) (nI (j + 1))) 5 ?_ ?_ (4 - j) (j + 1) p (by omega) h
    · intro k p h
      exact br_t (nI_le (b := 5) (Nat.le_refl 5) (by decide)) (ns_nx h)
    · intro k p o ho h
      refine br_f (nI_ge (b := 5) ho (by decide)) (nm_r ?_ (ns_nx h))
      rw [ns_bit (by omega) (by omega), nI_add]
