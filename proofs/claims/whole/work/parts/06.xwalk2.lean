/-! X: least cuts, trees, closed ways, colours, powers -/
theorem ns_full {m : Nat} (hm : m ≤ 12) : 2 ^ m ≤ 4096 := ns_p2 (i := m) (j := 12) hm
theorem ns_fullI {m : Nat} (hm : m ≤ 12) : ((1 : Int32) <<< (nI m &&& 31)) - 1 = nI (2 ^ m - 1) := by
  rw [ns_shl (by omega)]
  exact pk_sub (b := 1) (Nat.two_pow_pos m)
noncomputable def ns_lcs (A B : Nat → Nat) (m s d : Nat) (i : Nat) : Bool := !(d.testBit i && !ns_cn A B (2 ^ m - 1 - d + 2 ^ i) m s)
noncomputable def ns_lc (A B : Nat → Nat) (m s d : Nat) : Bool := !ns_cn A B (2 ^ m - 1 - d) m s && ns_all (ns_lcs A B m s d) m 0
theorem ns_xlc {post : Int32 → Prop} {d m s : Nat} {F S sh ho : Nat → Int32} {A B : Nat → Nat} (hR : ns_R m F S ho A B) (hd : d < 2 ^ m) (hs : s < 32) (h : post (ns_b (ns_lc A B m s d))) : wpX_isLeastCut post (nI m, F, S, sh, ho) (nI s) (nI d) := by
  have hm := hR.1
  have hf := ns_full hm
  unfold wpX_isLeastCut
  dsimp only
  refine nm_r (e' := nI (2 ^ m - 1 - d)) (by rw [ns_fullI hm, pk_sub (by omega)]) (ns_xcn hR (by omega) hs (ns_br (fun z => ⟨m + 1, ?_⟩) (fun z => ?_)))
  · have h2 : post (ns_b (ns_all (ns_lcs A B m s d) m 0)) := by
      unfold ns_lc at h; rw [z] at h; exact h
    refine ns_exit (fun n j => wX_isLeastCut_25 post (nI s) (nI d) (nI (2 ^ m - 1 - d)) (nI m) F S sh ho n (nI j)) (ns_lcs A B m s d) (fun b => post (ns_b b)) m ?_ ?_ ?_ m 0 (Nat.zero_add m) h2
    · intro n h
      exact br_t (nI_le (Nat.le_refl m) (by omega)) h
    · intro n j hj c h
      have hp := ns_p2 (i := j) (j := 12) (by omega)
      refine br_f (nI_ge hj (by omega)) (ns_xhas (by omega) (by omega) (ns_br (fun z1 => ns_nx h) (fun z1 => ?_)))
      rw [ns_shl (by omega), nI_add]
      refine ns_xcn hR (by omega) hs (ns_br (fun z2 => ?_) (fun z2 => ns_nx h))
      unfold ns_lcs at c
      rw [z1, z2] at c
      exact absurd c (by decide)
    · intro n j hj c h
      have hp := ns_p2 (i := j) (j := 12) (by omega)
      unfold ns_lcs at c
      rw [Bool.not_eq_false', Bool.and_eq_true, Bool.not_eq_true'] at c
      refine br_f (nI_ge hj (by omega)) (ns_xhas (by omega) (by omega) (ns_br (fun z1 => ?_) (fun z1 => ?_)))
      · rw [c.1] at z1; exact absurd z1 (by decide)
      · rw [ns_shl (by omega), nI_add]
        refine ns_xcn hR (by omega) hs (ns_br (fun z2 => h) (fun z2 => ?_))
        rw [c.2] at z2; exact absurd z2 (by decide)
  · unfold ns_lc at h; rw [z] at h; exact h
noncomputable def ns_trs (A B : Nat → Nat) (m t : Nat) (i : Nat) : Bool := !(t.testBit i && ns_cn A B (t - 2 ^ i) m 31)
noncomputable def ns_tr (A B : Nat → Nat) (m t : Nat) : Bool := ns_cn A B t m 31 && ns_all (ns_trs A B m t) m 0
theorem ns_xtr {post : Int32 → Prop} {t m : Nat} {F S sh ho : Nat → Int32} {A B : Nat → Nat} (hR : ns_R m F S ho A B) (ht : t < 2 ^ m) (h : post (ns_b (ns_tr A B m t))) : wpX_isTree post (nI m, F, S, sh, ho) (nI t) := by
  have hm := hR.1
  have hf := ns_full hm
  unfold wpX_isTree
  dsimp only
  refine ns_xcn (s := 31) hR (by omega) (by decide) (ns_br (fun z => ?_) (fun z => ⟨m + 1, ?_⟩))
  · unfold ns_tr at h; rw [z] at h; exact h
  · have h2 : post (ns_b (ns_all (ns_trs A B m t) m 0)) := by
      unfold ns_tr at h; rw [z] at h; exact h
    refine ns_exit (fun n j => wX_isTree_14 post (nI t) (nI m) F S sh ho n (nI j)) (ns_trs A B m t) (fun b => post (ns_b b)) m ?_ ?_ ?_ m 0 (Nat.zero_add m) h2
    · intro n h
      exact br_t (nI_le (Nat.le_refl m) (by omega)) h
    · intro n j hj c h
      refine br_f (nI_ge hj (by omega)) (ns_xhas (by omega) (by omega) (ns_br (fun z1 => ns_nx h) (fun z1 => ?_)))
      rw [ns_shl (by omega), pk_sub (ns_subl z1)]
      refine ns_xcn (s := 31) hR (Nat.lt_of_le_of_lt (Nat.sub_le _ _) (by omega)) (by decide) (ns_br (fun z2 => ns_nx h) (fun z2 => ?_))
      unfold ns_trs at c
      rw [z1, z2] at c
      exact absurd c (by decide)
    · intro n j hj c h
      unfold ns_trs at c
      rw [Bool.not_eq_false', Bool.and_eq_true] at c
      refine br_f (nI_ge hj (by omega)) (ns_xhas (by omega) (by omega) (ns_br (fun z1 => ?_) (fun z1 => ?_)))
      · rw [c.1] at z1; exact absurd z1 (by decide)
      · rw [ns_shl (by omega), pk_sub (ns_subl z1)]
        refine ns_xcn (s := 31) hR (Nat.lt_of_le_of_lt (Nat.sub_le _ _) (by omega)) (by decide) (ns_br (fun z2 => ?_) (fun z2 => h))
        rw [c.2] at z2; exact absurd z2 (by decide)
noncomputable def ns_cws (A B : Nat → Nat) (m t : Nat) (i : Nat) : Bool := !(t.testBit i && ns_cn A B (t - 2 ^ i) m (ns_es A B i))
noncomputable def ns_nc (A B : Nat → Nat) (m t : Nat) : Bool := ns_all (ns_cws A B m t) m 0
theorem ns_xcw {post : Int32 → Prop} {t m : Nat} {F S sh ho : Nat → Int32} {A B : Nat → Nat} (hR : ns_R m F S ho A B) (ht : t < 2 ^ m) (h : post (ns_b (!ns_nc A B m t))) : wpX_hasClosedWay post (nI m, F, S, sh, ho) (nI t) := by
  have hm := hR.1
  have hf := ns_full hm
  have hE := ns_RE hR
  unfold wpX_hasClosedWay
  dsimp only
  refine ⟨m + 1, ?_⟩
  refine ns_exit (fun n j => wX_hasClosedWay_2 post (nI t) (nI m) F S sh ho n (nI j)) (ns_cws A B m t) (fun b => post (ns_b (!b))) m ?_ ?_ ?_ m 0 (Nat.zero_add m) h
  · intro n h
    exact br_t (nI_le (Nat.le_refl m) (by omega)) h
  · intro n j hj c h
    refine br_f (nI_ge hj (by omega)) (ns_xends hR hj (ns_xhas (by omega) (by omega) (ns_br (fun z1 => ns_nx h) (fun z1 => ?_))))
    rw [ns_shl (by omega), pk_sub (ns_subl z1)]
    refine ns_xcn hR (Nat.lt_of_le_of_lt (Nat.sub_le _ _) (by omega)) (ns_esL hE hj) (ns_br (fun z2 => ns_nx h) (fun z2 => ?_))
    unfold ns_cws at c
    rw [z1, z2] at c
    exact absurd c (by decide)
  · intro n j hj c h
    unfold ns_cws at c
    rw [Bool.not_eq_false', Bool.and_eq_true] at c
    refine br_f (nI_ge hj (by omega)) (ns_xends hR hj (ns_xhas (by omega) (by omega) (ns_br (fun z1 => ?_) (fun z1 => ?_))))
    · rw [c.1] at z1; exact absurd z1 (by decide)
    · rw [ns_shl (by omega), pk_sub (ns_subl z1)]
      refine ns_xcn hR (Nat.lt_of_le_of_lt (Nat.sub_le _ _) (by omega)) (ns_esL hE hj) (ns_br (fun z2 => ?_) (fun z2 => h))
      rw [c.2] at z2; exact absurd z2 (by decide)
def ns_co (c v : Nat) : Nat := c / 2 ^ (2 * v) % 4
theorem ns_xco {post : Int32 → Prop} {c v : Nat} (hc : c < 1024) (hv : v < 5) (h : post (nI (ns_co c v))) : wpX_colourOf post (nI v) (nI c) := by
  have e : (2 : Int32) * nI v = nI (2 * v) := pk_mul 2 v
  have e3 : nI c >>> (nI (2 * v) &&& 31) &&& 3 = nI (ns_co c v) := by
    have h2 : c / 2 ^ (2 * v) ≤ c := Nat.div_le_self _ _
    rw [pk_shrN (by omega) _ (2 * v) (s_l _ (by omega)), pk_andN (m := 3) (by omega) 2 (by decide)]
    rfl
  unfold wpX_colourOf
  rw [e, e3]
  exact h
theorem ns_coL (c v : Nat) : ns_co c v < 4 := Nat.mod_lt _ (by decide)
def ns_ub (q c : Nat) : Bool := ns_all (fun v => decide (ns_co c v < q)) 5 0
theorem ns_xub {post : Int32 → Prop} {q c : Nat} (hc : c < 1024) (hq : q ≤ 4) (h : post (ns_b (ns_ub q c))) : wpX_usesColoursBelow post (nI q) (nI c) := by
  unfold wpX_usesColoursBelow
  refine ⟨5 + 1, ?_⟩
  refine ns_exit (fun n j => wX_usesColoursBelow_2 post (nI q) (nI c) n (nI j)) (fun v => decide (ns_co c v < q)) (fun b => post (ns_b b)) 5 ?_ ?_ ?_ 5 0 rfl h
  · intro n h
    exact br_t (nI_le (b := 5) (Nat.le_refl 5) (by decide)) h
  · intro n j hj z h
    have := ns_coL c j
    rw [decide_eq_true_iff] at z
    exact br_f (nI_ge (b := 5) hj (by decide)) (ns_xco hc hj (br_t (nI_lt z (by omega)) (ns_nx h)))
  · intro n j hj z h
    have := ns_coL c j
    rw [decide_eq_false_iff_not] at z
    exact br_f (nI_ge (b := 5) hj (by decide)) (ns_xco hc hj (br_f (nI_nlt (by omega) (by omega)) h))
def ns_pe1 (A B : Nat → Nat) (f : Nat → Nat) (i : Nat) : Bool := !decide (f (A i) = f (B i))
def ns_np (A B : Nat → Nat) (m : Nat) (f : Nat → Nat) : Bool := ns_all (ns_pe1 A B f) m 0
theorem ns_xpe {post : Int32 → Prop} {c m : Nat} {F S sh ho : Nat → Int32} {A B : Nat → Nat} (hR : ns_R m F S ho A B) (hc : c < 1024) (h : post (ns_b (!ns_np A B m (ns_co c)))) : wpX_hasPlainEdge post (nI m, F, S, sh, ho) (nI c) := by
  have hm := hR.1
  unfold wpX_hasPlainEdge
  dsimp only
  refine ⟨m + 1, ?_⟩
  refine ns_exit (fun n j => wX_hasPlainEdge_2 post (nI c) (nI m) F S sh ho n (nI j)) (ns_pe1 A B (ns_co c)) (fun b => post (ns_b (!b))) m ?_ ?_ ?_ m 0 (Nat.zero_add m) h
  · intro n h
    exact br_t (nI_le (Nat.le_refl m) (by omega)) h
  · intro n j hj z h
    have hr := hR.2 j hj
    have hin : vp_in (nI j) 12 := vp_in_nI (by omega) (by decide)
    have e : (nI j).toNatClampNeg = j := nI_clamp (by omega)
    have l1 := ns_coL c (A j)
    have l2 := ns_coL c (B j)
    unfold ns_pe1 at z
    rw [Bool.not_eq_true', decide_eq_false_iff_not] at z
    refine br_f (nI_ge hj (by omega)) ⟨hin, ?_⟩
    rw [e, hr.1, hr.2.2.1]
    exact ns_xco hc hr.2.1 ⟨hin, ns_xco hc hr.2.2.2.1 (br_f (fun q => z ((nI_eq (by omega) (by omega)).mp q)) (ns_nx h))⟩
  · intro n j hj z h
    have hr := hR.2 j hj
    have hin : vp_in (nI j) 12 := vp_in_nI (by omega) (by decide)
    have e : (nI j).toNatClampNeg = j := nI_clamp (by omega)
    unfold ns_pe1 at z
    rw [Bool.not_eq_false', decide_eq_true_iff] at z
    refine br_f (nI_ge hj (by omega)) ⟨hin, ?_⟩
    rw [e, hr.1, hr.2.2.1]
    exact ns_xco hc hr.2.1 ⟨hin, ns_xco hc hr.2.2.2.1 (br_t (by rw [z]) h)⟩
def ns_pw (x e : Int32) : Int32 := ns_fo (fun p _ => p * x) e.toNatClampNeg 0 1
theorem ns_ex (e : Int32) : (e ≤ 0 ∧ e.toNatClampNeg = 0) ∨ ∃ k, k < 2 ^ 31 ∧ e = nI k := by
  by_cases h : e < 0
  · refine Or.inl ⟨Int32.le_of_lt h, ?_⟩
    have h2 : e.toInt < 0 := by rw [Int32.lt_iff_toInt_lt] at h; exact h
    show e.toInt.toNat = 0
    omega
  · exact Or.inr (nI_of h)
theorem ns_xpw {post : Int32 → Prop} {x e : Int32} (h : post (ns_pw x e)) : wpX_power post x e := by
  unfold wpX_power
  unfold ns_pw at h
  rcases ns_ex e with ⟨h0, h1⟩ | ⟨k, hk, rfl⟩
  · rw [h1] at h
    exact ⟨1, br_t h0 h⟩
  · rw [nI_clamp hk] at h
    refine ⟨k + 1, ?_⟩
    refine ns_loop (fun n p j => wX_power_4 post x (nI k) n p (nI j)) (fun p _ => p * x) post k ?_ ?_ k 0 1 (Nat.zero_add k) h
    · intro n p h
      exact br_t (nI_le (Nat.le_refl k) hk) h
    · intro n p j hj h
      exact br_f (nI_ge hj hk) (nm_e (ns_nx h))
