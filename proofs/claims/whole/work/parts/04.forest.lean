/-! a set without closed way has 5 parts less one an edge -/
def ns_pp (t : Nat) : Nat → Nat
  | 0 => 0
  | j + 1 => ns_pp t j + (t.testBit j).toNat
theorem ns_cpC {L L' : Nat → Nat} (h : ∀ v, v < 5 → L v = L' v) : ns_cp L = ns_cp L' := by
  have k : ∀ v, v < 5 → ns_f1 L v = ns_f1 L' v := by intro v hv; unfold ns_f1; rw [h v hv]
  rw [ns_cpE, ns_cpE, k 0 (by decide), k 1 (by decide), k 2 (by decide), k 3 (by decide), k 4 (by decide)]
theorem ns_cpS {L L' : Nat → Nat} {x : Nat} (hx : x < 5) (h : ∀ v, v < 5 → ns_f1 L' v + (if v = x then 1 else 0) = ns_f1 L v) : ns_cp L' + 1 = ns_cp L := by
  have h0 := h 0 (by decide)
  have h1 := h 1 (by decide)
  have h2 := h 2 (by decide)
  have h3 := h 3 (by decide)
  have h4 := h 4 (by decide)
  have c : x = 0 ∨ x = 1 ∨ x = 2 ∨ x = 3 ∨ x = 4 := by omega
  rw [ns_cpE, ns_cpE]
  rcases c with c | c | c | c | c <;> subst c <;> simp at h0 h1 h2 h3 h4 <;> omega
def ns_g1 (x v : Nat) : Nat := if x = v then 1 else 0
theorem ns_cpM {A B : Nat → Nat} {t j m : Nat} {L : Nat → Nat} (hE : ns_E A B m) (hj : j < m) (h : ns_OK A B t j L) (z : t.testBit j = true) : (L (A j) = L (B j) → ns_cp (ns_mg A B t L j) = ns_cp L) ∧ (L (A j) ≠ L (B j) → ns_cp (ns_mg A B t L j) + 1 = ns_cp L) := by
  obtain ⟨h1, h2, h3, h4⟩ := h
  obtain ⟨ha, hb⟩ := hE j hj
  have la := h1 _ ha
  have lb := h1 _ hb
  have ia := h2 _ ha
  have ib := h2 _ hb
  unfold ns_mg
  rw [if_pos z]
  constructor
  · intro e
    apply ns_cpC
    intro v hv
    rw [e, if_pos (Nat.le_refl _)]
    split
    · omega
    · rfl
  · intro e
    refine ns_cpS (x := if L (B j) ≤ L (A j) then L (A j) else L (B j)) (by split <;> omega) ?_
    intro v hv
    have hv1 := h1 v hv
    show ns_g1 (if L v = L (A j) ∨ L v = L (B j) then (if L (B j) ≤ L (A j) then L (B j) else L (A j)) else L v) v + _ = ns_g1 (L v) v
    by_cases c : L v = L (A j) ∨ L v = L (B j)
    · rw [if_pos c]
      by_cases d : L (B j) ≤ L (A j)
      · rw [if_pos d, if_pos d]
        unfold ns_g1
        by_cases x : v = L (A j)
        · rw [if_pos x, if_neg (by omega), if_pos (by rw [x]; exact ia)]
        · rw [if_neg x]
          by_cases y : L (B j) = v
          · rw [if_pos y, if_pos (by rw [← y]; exact ib)]
          · rw [if_neg y, if_neg (by omega)]
      · rw [if_neg d, if_neg d]
        unfold ns_g1
        by_cases x : v = L (B j)
        · rw [if_pos x, if_neg (by omega), if_pos (by rw [x]; exact ib)]
        · rw [if_neg x]
          by_cases y : L (A j) = v
          · rw [if_pos y, if_pos (by rw [← y]; exact ia)]
          · rw [if_neg y, if_neg (by omega)]
    · rw [if_neg c]
      have x : ¬ v = if L (B j) ≤ L (A j) then L (A j) else L (B j) := by
        intro q
        apply c
        by_cases d : L (B j) ≤ L (A j)
        · rw [if_pos d] at q; rw [q]; exact Or.inl ia
        · rw [if_neg d] at q; rw [q]; exact Or.inr ib
      rw [if_neg x, Nat.add_zero]
def ns_CW (A B : Nat → Nat) (t i : Nat) : Prop := ∀ C : Nat → Prop, (∀ k, k < i → t.testBit k = true → (C (A k) ↔ C (B k))) → (C (A i) ↔ C (B i))
theorem ns_frI {A B : Nat → Nat} {m : Nat} (hE : ns_E A B m) (t : Nat) : 5 ≤ ns_cp (ns_lb A B t m) + ns_pp t m ∧ (ns_cp (ns_lb A B t m) + ns_pp t m = 5 ∨ ∃ i, i < m ∧ t.testBit i = true ∧ ns_CW A B t i) := by
  have key := ns_foI (ns_mg A B t) (fun j L => ns_OK A B t j L ∧ 5 ≤ ns_cp L + ns_pp t j ∧ (ns_cp L + ns_pp t j = 5 ∨ ∃ i, i < j ∧ t.testBit i = true ∧ ns_CW A B t i)) m ?_ m 0 (fun v => v) (Nat.zero_add m) ⟨ns_ok0 A B t, (show 5 ≤ ns_cp (fun v => v) + 0 from by decide), Or.inl (show ns_cp (fun v => v) + 0 = 5 from by decide)⟩
  · exact key.2
  · rintro L j hj ⟨ok, h1, h2⟩
    refine ⟨ns_ok1 hE hj ok, ?_⟩
    by_cases z : t.testBit j = true
    · obtain ⟨k1, k2⟩ := ns_cpM hE hj ok z
      rw [ns_pp, z, Bool.toNat_true]
      obtain ⟨ha, hb⟩ := hE j hj
      by_cases e : L (A j) = L (B j)
      · rw [k1 e]
        exact ⟨by omega, Or.inr ⟨j, by omega, z, fun C hC => ok.2.2.2 C hC _ _ ha hb e⟩⟩
      · have := k2 e
        refine ⟨by omega, ?_⟩
        rcases h2 with h2 | ⟨i, hi, h3⟩
        · exact Or.inl (by omega)
        · exact Or.inr ⟨i, by omega, h3⟩
    · rw [ns_pp, Bool.eq_false_iff.mpr z, Bool.toNat_false, Nat.add_zero]
      unfold ns_mg
      rw [if_neg z]
      refine ⟨h1, ?_⟩
      rcases h2 with h2 | ⟨i, hi, h3⟩
      · exact Or.inl h2
      · exact Or.inr ⟨i, by omega, h3⟩
theorem ns_ppS {t i : Nat} (h : t.testBit i = true) : ∀ j, (j ≤ i → ns_pp (t - 2 ^ i) j = ns_pp t j) ∧ (i < j → ns_pp (t - 2 ^ i) j + 1 = ns_pp t j) := by
  intro j
  induction j with
  | zero => exact ⟨fun _ => rfl, fun q => absurd q (by omega)⟩
  | succ j ih =>
    rw [ns_pp, ns_pp, ns_subb h]
    constructor
    · intro q
      rw [ih.1 (by omega), decide_eq_false (by omega), Bool.not_false, Bool.and_true]
    · intro q
      by_cases e : i = j
      · subst e
        rw [ih.1 (by omega), h, decide_eq_true rfl]
        rfl
      · rw [← ih.2 (by omega), decide_eq_false e, Bool.not_false, Bool.and_true]
        omega
theorem ns_esB (A B : Nat → Nat) (i v : Nat) : (ns_es A B i).testBit v = true ↔ A i = v ∨ B i = v := by
  unfold ns_es
  rw [Nat.testBit_or, Nat.testBit_two_pow, Nat.testBit_two_pow, Bool.or_eq_true, decide_eq_true_iff, decide_eq_true_iff]
theorem ns_cnE {A B : Nat → Nat} {t m i : Nat} (ha : A i < 5) (hb : B i < 5) : ns_cn A B t m (ns_es A B i) = true ↔ ns_lb A B t m (A i) = ns_lb A B t m (B i) := by
  rw [ns_cnI]
  unfold ns_CN
  constructor
  · intro h
    exact h _ ha _ hb ((ns_esB A B i _).mpr (Or.inl rfl)) ((ns_esB A B i _).mpr (Or.inr rfl))
  · intro h v _ w _ h1 h2
    rw [ns_esB] at h1 h2
    rcases h1 with h1 | h1 <;> rcases h2 with h2 | h2 <;> rw [← h1, ← h2]
    · exact h
    · exact h.symm
theorem ns_same {L L' : Nat → Nat} (h1 : ∀ v, v < 5 → L v ≤ v) (h2 : ∀ v, v < 5 → L (L v) = L v) (h1' : ∀ v, v < 5 → L' v ≤ v) (h : ∀ v w, v < 5 → w < 5 → L v = L w → L' v = L' w) : ∀ v, v < 5 → L' v ≤ L v := by
  intro v hv
  have a := h1 v hv
  have b := h (L v) v (by omega) hv (h2 v hv)
  rw [← b]
  exact h1' (L v) (by omega)
theorem ns_forest {A B : Nat → Nat} {m : Nat} (hE : ns_E A B m) (t : Nat) : (∀ i, i < m → ¬ (t.testBit i = true ∧ ns_cn A B (t - 2 ^ i) m (ns_es A B i) = true)) ↔ ns_cp (ns_lb A B t m) + ns_pp t m = 5 := by
  constructor
  · intro h
    rcases (ns_frI hE t).2 with e | ⟨i, hi, ti, cw⟩
    · exact e
    · exfalso
      obtain ⟨ha, hb⟩ := hE i hi
      refine h i hi ⟨ti, (ns_cnE ha hb).mpr ?_⟩
      have ok := ns_okm hE (t - 2 ^ i)
      have q := cw (fun v => ns_lb A B (t - 2 ^ i) m v = ns_lb A B (t - 2 ^ i) m (A i)) ?_
      · exact (q.mp rfl).symm
      · intro k hk tk
        have := ok.2.2.1 k (by omega) (by rw [ns_subb ti, tk, decide_eq_false (by omega)]; rfl)
        rw [this]
  · rintro e i hi ⟨ti, h⟩
    obtain ⟨ha, hb⟩ := hE i hi
    rw [ns_cnE ha hb] at h
    have ok := ns_okm hE t
    have ok' := ns_okm hE (t - 2 ^ i)
    have f1 : ∀ v w, v < 5 → w < 5 → ns_lb A B t m v = ns_lb A B t m w → ns_lb A B (t - 2 ^ i) m v = ns_lb A B (t - 2 ^ i) m w := by
      intro v w hv hw q
      refine (ok.2.2.2 (fun x => ns_lb A B (t - 2 ^ i) m x = ns_lb A B (t - 2 ^ i) m w) ?_ v w hv hw q).mpr rfl
      intro k hk tk
      by_cases z : k = i
      · rw [z, h]
      · rw [ok'.2.2.1 k hk (by rw [ns_subb ti, tk, decide_eq_false (by omega)]; rfl)]
    have f2 : ∀ v w, v < 5 → w < 5 → ns_lb A B (t - 2 ^ i) m v = ns_lb A B (t - 2 ^ i) m w → ns_lb A B t m v = ns_lb A B t m w := by
      intro v w hv hw q
      refine (ok'.2.2.2 (fun x => ns_lb A B t m x = ns_lb A B t m w) ?_ v w hv hw q).mpr rfl
      intro k hk tk
      rw [ns_subb ti, Bool.and_eq_true] at tk
      rw [ok.2.2.1 k hk tk.1]
    have g1 := ns_same ok.1 ok.2.1 ok'.1 f1
    have g2 := ns_same ok'.1 ok'.2.1 ok.1 f2
    have g := ns_cpC (fun v hv => Nat.le_antisymm (g2 v hv) (g1 v hv))
    have b1 := (ns_frI hE (t - 2 ^ i)).1
    have b2 := (ns_ppS ti m).2 hi
    omega
