/-! Y's own methods -/
theorem ns_yin {post : Int32 → Prop} {t i : Nat} {e : Int32} {F S sh ho pt co : Nat → Int32} (ht : t < 2 ^ 31) (hi : i < 32) (h : post (ns_b (t.testBit i))) : wpY_in post (e, F, S, sh, ho, pt, co) (nI t) (nI i) := by
  unfold wpY_in
  dsimp only
  rw [ns_bit ht hi]
  cases z : t.testBit i <;> rw [z] at h
  · exact br_f (by decide) h
  · exact br_t (by decide) h
theorem ns_y72 {post : SY → Prop} {J22 : Int32 → (Nat → Int32) → (Nat → Int32) → (Nat → Int32) → (Nat → Int32) → (Nat → Int32) → (Nat → Int32) → Prop} {t i a b c : Nat} {e : Int32} {F S sh ho co : Nat → Int32} {L : Nat → Nat} (ht : t < 2 ^ 31) (hi : i < 32) (z : t.testBit i = true) (hL : ∀ v, v < 5 → L v < 5) (ha : a < 5) (hb : b < 5)
    (hJ : ∀ pt', (∀ v, v < 5 → pt' v = nI (if L v = a ∨ L v = b then c else L v)) → J22 (nI (i + 1)) F S sh ho pt' co) :
    ∀ d k pt, k + d = 5 → (∀ v, v < 5 → pt v = nI (if v < k then (if L v = a ∨ L v = b then c else L v) else L v)) → wY_findParts_72 post J22 (nI t) (nI i) (nI a) (nI b) (nI c) e (d + 1) (nI k) F S sh ho pt co := by
  intro d
  induction d with
  | zero =>
    intro k pt hk hp
    have hk5 : k = 5 := hk
    subst hk5
    refine br_t (nI_le (b := 5) (Nat.le_refl 5) (by decide)) (ns_nx (hJ pt ?_))
    intro v hv
    rw [hp v hv, if_pos hv]
  | succ d ih =>
    intro k pt hk hp
    have hk5 : k < 5 := by omega
    have ec : (nI k).toNatClampNeg = k := nI_clamp (by omega)
    have hin : vp_in (nI k) 5 := vp_in_nI hk5 (by decide)
    have hpk : pt k = nI (L k) := by rw [hp k hk5, if_neg (Nat.lt_irrefl k)]
    have hLk := hL k hk5
    have step : ∀ x, x = (if L k = a ∨ L k = b then c else L k) → wY_findParts_72 post J22 (nI t) (nI i) (nI a) (nI b) (nI c) e (d + 1) (nI (k + 1)) F S sh ho (upd pt k (nI x)) co := by
      intro x hx
      refine ih (k + 1) _ (by omega) ?_
      intro v hv
      by_cases q : v = k
      · rw [q, pk_us, if_pos (Nat.lt_succ_self k), hx]
      · rw [pk_un q, hp v hv]
        by_cases w : v < k
        · rw [if_pos w, if_pos (show v < k + 1 by omega)]
        · rw [if_neg w, if_neg (show ¬ v < k + 1 by omega)]
    refine br_f (nI_ge (b := 5) hk5 (by decide)) (ns_yin ht hi ?_)
    rw [z]
    refine br_f (by decide) ⟨hin, ?_⟩
    rw [ec, hpk]
    refine pk_eq (L k) a (fun q => ⟨hin, nm_e (ns_nx (step c ?_))⟩) (fun q => ⟨hin, pk_eq (L k) b (fun w => ⟨hin, nm_e (ns_nx (step c ?_))⟩) (fun w => ⟨hin, hin, nm_e (ns_nx (step (L k) ?_))⟩)⟩)
    · rw [if_pos (Or.inl q)]
    · rw [if_pos (Or.inr w)]
    · rw [if_neg (fun x => x.elim q w)]
theorem ns_mgL {A B : Nat → Nat} {t j : Nat} {L : Nat → Nat} (ha : A j < 5) (hb : B j < 5) (h : ∀ v, v < 5 → L v ≤ v) : ∀ v, v < 5 → ns_mg A B t L j v ≤ v := by
  intro v hv
  have h0 := h v hv
  have h1 := h _ ha
  have h2 := h _ hb
  unfold ns_mg
  split
  · dsimp only
    split
    · split <;> omega
    · exact h0
  · exact h0
theorem ns_y22 {post : SY → Prop} {t m : Nat} {F S sh ho co : Nat → Int32} {A B : Nat → Nat} (hR : ns_R m F S ho A B) (ht : t < 2 ^ 31) : ∀ d j L, j + d = m → (∀ pt, (∀ v, v < 5 → pt v = nI (ns_fo (ns_mg A B t) d j L v)) → post (nI m, F, S, sh, ho, pt, co)) → ∀ pt, (∀ v, v < 5 → L v ≤ v) → (∀ v, v < 5 → pt v = nI (L v)) → wY_findParts_22 post (nI t) (nI m) (d + 1) (nI j) F S sh ho pt co := by
  have hm := hR.1
  refine ns_loop (fun n L j => ∀ pt, (∀ v, v < 5 → L v ≤ v) → (∀ v, v < 5 → pt v = nI (L v)) → wY_findParts_22 post (nI t) (nI m) n (nI j) F S sh ho pt co) (ns_mg A B t) (fun L => ∀ pt, (∀ v, v < 5 → pt v = nI (L v)) → post (nI m, F, S, sh, ho, pt, co)) m ?_ ?_
  · intro n L h pt _ hp
    exact br_t (nI_le (Nat.le_refl m) (by omega)) (h pt hp)
  · intro n L j hj h pt hL hp
    have hr := hR.2 j hj
    have ha := hr.2.1
    have hb := hr.2.2.2.1
    have l1 := hL _ ha
    have l2 := hL _ hb
    have hin : vp_in (nI j) 12 := vp_in_nI (by omega) (by decide)
    have e : (nI j).toNatClampNeg = j := nI_clamp (by omega)
    have eA : (nI (A j)).toNatClampNeg = A j := nI_clamp (by omega)
    have eB : (nI (B j)).toNatClampNeg = B j := nI_clamp (by omega)
    have hl5 : ∀ v, v < 5 → L v < 5 := fun v hv => Nat.lt_of_le_of_lt (hL v hv) hv
    have key : ∀ c, c = (if L (B j) ≤ L (A j) then L (B j) else L (A j)) → ∃ n72, wY_findParts_72 post (wY_findParts_22 post (nI t) (nI m) n) (nI t) (nI j) (nI (L (A j))) (nI (L (B j))) (nI c) (nI m) n72 0 F S sh ho pt co := by
      intro c hc
      by_cases z : t.testBit j = true
      · refine ⟨5 + 1, ns_y72 ht (by omega) z hl5 (by omega) (by omega) ?_ 5 0 pt rfl ?_⟩
        · intro pt' hp'
          refine h pt' (ns_mgL ha hb hL) ?_
          intro v hv
          rw [hp' v hv, hc]
          unfold ns_mg
          rw [if_pos z]
        · intro v hv
          rw [if_neg (Nat.not_lt_zero v)]
          exact hp v hv
      · refine ⟨1, br_f (nI_ge (a := 0) (b := 5) (by decide) (by decide)) (ns_yin ht (by omega) ?_)⟩
        rw [Bool.eq_false_iff.mpr z]
        refine br_t rfl (ns_nx (h pt (ns_mgL ha hb hL) ?_))
        intro v hv
        unfold ns_mg
        rw [if_neg z]
        exact hp v hv
    refine br_f (nI_ge hj (by omega)) ⟨hin, ?_⟩
    rw [e, hr.1, hr.2.2.1, eA, eB, hp _ ha, hp _ hb]
    exact ⟨vp_in_nI ha (by decide), nm_e ⟨hin, vp_in_nI hb (by decide), nm_e (pk_le (L (B j)) (L (A j)) (fun q => key _ (if_pos q).symm) (fun q => key _ (if_neg (by omega)).symm))⟩⟩
theorem ns_y2 {post : SY → Prop} {t m : Nat} {F S sh ho co : Nat → Int32} (h : ∀ pt, (∀ v, v < 5 → pt v = nI v) → ∃ n22, wY_findParts_22 post (nI t) (nI m) n22 0 F S sh ho pt co) : ∀ d k pt, k + d = 5 → (∀ v, v < k → pt v = nI v) → wY_findParts_2 post (nI t) (nI m) (d + 1) (nI k) F S sh ho pt co := by
  intro d
  induction d with
  | zero =>
    intro k pt hk hp
    have hk5 : k = 5 := hk
    subst hk5
    exact br_t (nI_le (b := 5) (Nat.le_refl 5) (by decide)) (h pt hp)
  | succ d ih =>
    intro k pt hk hp
    have hk5 : k < 5 := by omega
    have ec : (nI k).toNatClampNeg = k := nI_clamp (by omega)
    have hin : vp_in (nI k) 5 := vp_in_nI hk5 (by decide)
    refine br_f (nI_ge (b := 5) hk5 (by decide)) ⟨hin, ?_⟩
    rw [ec]
    refine nm_e (ns_nx (ih (k + 1) _ (by omega) ?_))
    intro v hv
    by_cases q : v = k
    · rw [q, pk_us]
    · rw [pk_un q]; exact hp v (by omega)
theorem ns_yfp {post : SY → Prop} {t m : Nat} {F S sh ho pt co : Nat → Int32} {A B : Nat → Nat} (hR : ns_R m F S ho A B) (ht : t < 2 ^ 31) (h : ∀ pt, (∀ v, v < 5 → pt v = nI (ns_lb A B t m v)) → post (nI m, F, S, sh, ho, pt, co)) : wpY_findParts post (nI m, F, S, sh, ho, pt, co) (nI t) := by
  unfold wpY_findParts
  dsimp only
  refine ⟨5 + 1, ns_y2 ?_ 5 0 pt rfl (fun v hv => absurd hv (Nat.not_lt_zero v))⟩
  intro pt' hp
  exact ⟨m + 1, ns_y22 hR ht m 0 (fun v => v) (Nat.zero_add m) h pt' (fun v _ => Nat.le_refl v) hp⟩
theorem ns_ycp {post : Int32 → SY → Prop} {t m : Nat} {F S sh ho pt co : Nat → Int32} {A B : Nat → Nat} (hR : ns_R m F S ho A B) (ht : t < 2 ^ 31) (h : ∀ pt, post (nI (ns_cp (ns_lb A B t m))) (nI m, F, S, sh, ho, pt, co)) : wpY_countParts post (nI m, F, S, sh, ho, pt, co) (nI t) := by
  unfold wpY_countParts
  dsimp only
  refine ns_yfp hR ht (fun pt' hp => ?_)
  have ok := (ns_okm (ns_RE hR) t).1
  refine Exists.intro (5 + 1) ?_
  refine ns_loop (fun n p j => wY_countParts_9 post (nI m) F S sh ho pt' co n (nI p) (nI j)) (fun n v => n + ns_f1 (ns_lb A B t m) v) (fun p => post (nI p) (nI m, F, S, sh, ho, pt', co)) 5 ?_ ?_ 5 0 0 rfl (h pt')
  · intro n p h
    exact br_t (nI_le (b := 5) (Nat.le_refl 5) (by decide)) h
  · intro n p j hj h
    have := ok j hj
    refine br_f (nI_ge (b := 5) hj (by decide)) ⟨vp_in_nI hj (by decide), ?_⟩
    rw [nI_clamp (by omega), hp j hj]
    refine pk_eq (ns_lb A B t m j) j (fun q => nm_r (nI_1 p) (ns_nx ?_)) (fun q => ns_nx ?_)
    · have e : ns_f1 (ns_lb A B t m) j = 1 := if_pos q
      rw [e] at h; exact h
    · have e : ns_f1 (ns_lb A B t m) j = 0 := if_neg q
      rw [e] at h; exact h
theorem ns_ycn {post : Int32 → SY → Prop} {t m s : Nat} {F S sh ho pt co : Nat → Int32} {A B : Nat → Nat} (hR : ns_R m F S ho A B) (ht : t < 2 ^ 31) (hs : s < 32) (h : ∀ pt, post (ns_b (ns_cn A B t m s)) (nI m, F, S, sh, ho, pt, co)) : wpY_connects post (nI m, F, S, sh, ho, pt, co) (nI t) (nI s) := by
  unfold wpY_connects
  dsimp only
  refine ns_yfp hR ht (fun pt' hp => ?_)
  have ok := (ns_okm (ns_RE hR) t).1
  have h := h pt'
  have key : ∀ d k (fi : Int32), k + d = 5 → ((fi = -1 ∧ ∀ v, v < k → s.testBit v = false) ∨ (∃ u, u < k ∧ s.testBit u = true ∧ fi = nI (ns_lb A B t m u) ∧ ∀ v, v < k → s.testBit v = true → ns_lb A B t m v = ns_lb A B t m u)) → wY_connects_10 post (nI s) (nI m) F S sh ho pt' co (d + 1) fi (nI k) := by
    intro d
    induction d with
    | zero =>
      intro k fi hk hI
      have hk5 : k = 5 := hk
      subst hk5
      have c : ns_cn A B t m s = true := by
        rw [ns_cnI]
        intro v hv w hw sv sw
        rcases hI with ⟨_, hI⟩ | ⟨u, _, _, _, hI⟩
        · rw [hI v hv] at sv; exact absurd sv (by decide)
        · exact (hI v hv sv).trans (hI w hw sw).symm
      rw [c] at h
      exact br_t (nI_le (b := 5) (Nat.le_refl 5) (by decide)) h
    | succ d ih =>
      intro k fi hk hI
      have hk5 : k < 5 := by omega
      have ec : (nI k).toNatClampNeg = k := nI_clamp (by omega)
      have hin : vp_in (nI k) 5 := vp_in_nI hk5 (by decide)
      have lk := ok k hk5
      refine br_f (nI_ge (b := 5) hk5 (by decide)) (ns_yin (by omega) (by omega) (ns_br (fun z => ns_nx (ih (k + 1) fi (by omega) ?_)) (fun z => ?_)))
      · rcases hI with ⟨h1, h2⟩ | ⟨u, h1, h2, h3, h4⟩
        · refine Or.inl ⟨h1, fun v hv => ?_⟩
          by_cases q : v = k
          · rw [q]; exact z
          · exact h2 v (by omega)
        · refine Or.inr ⟨u, by omega, h2, h3, fun v hv sv => ?_⟩
          by_cases q : v = k
          · rw [q, z] at sv; exact absurd sv (by decide)
          · exact h4 v (by omega) sv
      · rw [ec, hp k hk5]
        rcases hI with ⟨h1, h2⟩ | ⟨u, h1, h2, h3, h4⟩
        · refine br_t (by rw [h1]; decide) ⟨hin, nm_e (ns_nx (ih (k + 1) _ (by omega) (Or.inr ⟨k, by omega, z, rfl, fun v hv sv => ?_⟩)))⟩
          by_cases q : v = k
          · rw [q]
          · rw [h2 v (by omega)] at sv; exact absurd sv (by decide)
        · have lu := ok u (by omega)
          rw [h3]
          refine br_f (nI_pos (by omega)) ⟨hin, pk_eq (ns_lb A B t m k) (ns_lb A B t m u) (fun q => ⟨hin, nm_e (ns_nx (ih (k + 1) _ (by omega) (Or.inr ⟨k, by omega, z, rfl, fun v hv sv => ?_⟩)))⟩) (fun q => ?_)⟩
          · by_cases w : v = k
            · rw [w]
            · rw [q]; exact h4 v (by omega) sv
          · have c : ns_cn A B t m s = false := by
              rw [Bool.eq_false_iff]
              intro c
              rw [ns_cnI] at c
              exact q (c k hk5 u (by omega) z h2)
            rw [c] at h
            exact h
  exact Exists.intro (5 + 1) (key 5 0 (-1) rfl (Or.inl ⟨rfl, fun v hv => absurd hv (Nat.not_lt_zero v)⟩))
