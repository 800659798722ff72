/-! what is asked of a set t of edges -/
def ns_CN (A B : Nat → Nat) (t m s : Nat) : Prop := ∀ v, v < 5 → ∀ w, w < 5 → s.testBit v = true → s.testBit w = true → ns_lb A B t m v = ns_lb A B t m w
noncomputable def ns_cn (A B : Nat → Nat) (t m s : Nat) : Bool := @decide (ns_CN A B t m s) (Classical.propDecidable _)
theorem ns_cnI (A B : Nat → Nat) (t m s : Nat) : ns_cn A B t m s = true ↔ ns_CN A B t m s := @decide_eq_true_iff _ (Classical.propDecidable _)
theorem ns_e0 : ∀ s, s < 32 → (s &&& (32 - s)) < 32 := by decide +kernel
theorem ns_e1 : ∀ s, s < 32 → nI s &&& (-(nI s)) = nI (s &&& (32 - s)) := by decide +kernel
theorem ns_e2 : ∀ s, s < 32 → ∀ r, r < 32 → ((nI s &&& (nI r ^^^ (-1))) = 0 ↔ ∀ v, v < 5 → s.testBit v = true → r.testBit v = true) := by decide +kernel
theorem ns_e3 : ∀ r, r < 32 → ∀ v, v < 5 → ((nI r &&& (nI (2 ^ v) - 1)) = 0 ↔ ∀ w, w < v → r.testBit w = false) := by decide +kernel
theorem ns_e4 : ∀ s, s < 32 → s ≠ 0 → ∃ l, l < 5 ∧ s.testBit l = true ∧ ∀ v, v < 5 → (s &&& (32 - s)).testBit v = decide (v = l) := by
  have h : ∀ s, s < 32 → s ≠ 0 → (List.range 5).any (fun l => s.testBit l && (List.range 5).all (fun v => (s &&& (32 - s)).testBit v == decide (v = l))) = true := by decide +kernel
  intro s hs h0
  have := h s hs h0
  rw [List.any_eq_true] at this
  obtain ⟨l, hl, h2⟩ := this
  rw [Bool.and_eq_true, List.all_eq_true] at h2
  exact ⟨l, List.mem_range.mp hl, h2.1, fun v hv => by have := h2.2 v (List.mem_range.mpr hv); exact eq_of_beq this⟩
theorem ns_cnX {A B : Nat → Nat} {m : Nat} (hE : ns_E A B m) (t : Nat) {s : Nat} (hs : s < 32) : (nI s &&& (nI (ns_rf A B t m (s &&& (32 - s))) ^^^ (-1))) = 0 ↔ ns_cn A B t m s = true := by
  have h0 := ns_e0 s hs
  rw [ns_e2 s hs _ (ns_rf1 hE t h0).1]
  rw [ns_cnI]
  unfold ns_CN
  by_cases z : s = 0
  · subst z
    constructor
    · intro _ v _ w _ h; rw [Nat.zero_testBit] at h; exact absurd h (by decide)
    · intro _ v _ h; rw [Nat.zero_testBit] at h; exact absurd h (by decide)
  · obtain ⟨l, hl, sl, hv⟩ := ns_e4 s hs z
    have key : ∀ v, v < 5 → ((ns_rf A B t m (s &&& (32 - s))).testBit v = true ↔ ns_lb A B t m l = ns_lb A B t m v) := by
      intro v h5
      rw [ns_reach hE t h0 h5]
      constructor
      · rintro ⟨x, hx, h1, h2⟩
        rw [hv x hx, decide_eq_true_iff] at h1
        rw [← h1]; exact h2
      · intro h
        exact ⟨l, hl, by rw [hv l hl]; exact decide_eq_true rfl, h⟩
    constructor
    · intro h v h5 w h6 sv sw
      exact ((key v h5).mp (h v h5 sv)).symm.trans ((key w h6).mp (h w h6 sw))
    · intro h v h5 sv
      exact (key v h5).mpr (h l hl v h5 sl sv)
/-! the number of parts -/
def ns_f1 (L : Nat → Nat) (v : Nat) : Nat := if L v = v then 1 else 0
def ns_cp (L : Nat → Nat) : Nat := ns_fo (fun n v => n + ns_f1 L v) 5 0 0
theorem ns_cpE (L : Nat → Nat) : ns_cp L = 0 + ns_f1 L 0 + ns_f1 L 1 + ns_f1 L 2 + ns_f1 L 3 + ns_f1 L 4 := rfl
theorem ns_cpL (L : Nat → Nat) : ns_cp L ≤ 5 := by
  have h : ∀ v, ns_f1 L v ≤ 1 := by intro v; unfold ns_f1; split <;> omega
  have := h 0
  have := h 1
  have := h 2
  have := h 3
  have := h 4
  rw [ns_cpE]; omega
theorem ns_partX {A B : Nat → Nat} {m : Nat} (hE : ns_E A B m) (t : Nat) {v : Nat} (hv : v < 5) : (nI (ns_rf A B t m (2 ^ v)) &&& (nI (2 ^ v) - 1)) = 0 ↔ ns_lb A B t m v = v := by
  have h0 : 2 ^ v < 32 := (by decide +kernel : ∀ v, v < 5 → 2 ^ v < 32) v hv
  rw [ns_e3 _ (ns_rf1 hE t h0).1 v hv]
  obtain ⟨h1, h2, h3, h4⟩ := ns_okm hE t
  have key : ∀ w, w < 5 → ((ns_rf A B t m (2 ^ v)).testBit w = true ↔ ns_lb A B t m v = ns_lb A B t m w) := by
    intro w hw
    rw [ns_reach hE t h0 hw]
    constructor
    · rintro ⟨x, hx, h1, h2⟩
      rw [Nat.testBit_two_pow, decide_eq_true_iff] at h1
      rw [h1]; exact h2
    · intro h
      exact ⟨v, hv, by rw [Nat.testBit_two_pow]; exact decide_eq_true rfl, h⟩
  constructor
  · intro h
    by_cases e : ns_lb A B t m v = v
    · exact e
    · have l1 := h1 v hv
      have l2 := h (ns_lb A B t m v) (by omega)
      have l3 := (key (ns_lb A B t m v) (by omega)).mpr (h2 v hv).symm
      rw [l2] at l3
      exact absurd l3 (by decide)
  · intro h w hw
    cases z : (ns_rf A B t m (2 ^ v)).testBit w
    · rfl
    · have := (key w (by omega)).mp z
      have := h1 w (by omega)
      omega
/-! the connected pairs -/
def ns_pr (L : Nat → Nat) : Nat := ns_fo (fun n v => ns_fo (fun n w => if L v = L w then n + 1 else n) v 0 n) 5 0 0
def ns_prX (A B : Nat → Nat) (t m : Nat) : Nat := ns_fo (fun n v => ns_fo (fun n w => n + ((ns_rf A B t m (2 ^ v)).testBit w).toNat) (4 - v) (v + 1) n) 5 0 0
def ns_pe (L : Nat → Nat) (v w : Nat) : Nat := if L v = L w then 1 else 0
theorem ns_pairX {A B : Nat → Nat} {m : Nat} (hE : ns_E A B m) (t : Nat) : ns_prX A B t m = ns_pr (ns_lb A B t m) := by
  have key : ∀ v, v < 5 → ∀ w, w < 5 → ((ns_rf A B t m (2 ^ v)).testBit w).toNat = ns_pe (ns_lb A B t m) v w := by
    intro v hv w hw
    unfold ns_pe
    have h0 : 2 ^ v < 32 := (by decide +kernel : ∀ v, v < 5 → 2 ^ v < 32) v hv
    have q := ns_reach hE t h0 hw
    by_cases e : ns_lb A B t m v = ns_lb A B t m w
    · rw [if_pos e, q.mpr ⟨v, hv, by rw [Nat.testBit_two_pow]; exact decide_eq_true rfl, e⟩]; rfl
    · rw [if_neg e]
      cases z : (ns_rf A B t m (2 ^ v)).testBit w
      · rfl
      · obtain ⟨x, hx, h1, h2⟩ := q.mp z
        rw [Nat.testBit_two_pow, decide_eq_true_iff] at h1
        rw [← h1] at h2
        exact absurd h2 e
  have pl : ∀ (n : Nat) v w, (if ns_lb A B t m v = ns_lb A B t m w then n + 1 else n) = n + ns_pe (ns_lb A B t m) w v := by
    intro n v w
    unfold ns_pe
    by_cases e : ns_lb A B t m v = ns_lb A B t m w
    · rw [if_pos e, if_pos e.symm]
    · rw [if_neg e, if_neg (fun z => e z.symm), Nat.add_zero]
  show 0 + _ + _ + _ + _ + _ + _ + _ + _ + _ + _ = ns_pr (ns_lb A B t m)
  rw [key 0 (by decide) 1 (by decide), key 0 (by decide) 2 (by decide), key 0 (by decide) 3 (by decide), key 0 (by decide) 4 (by decide), key 1 (by decide) 2 (by decide), key 1 (by decide) 3 (by decide), key 1 (by decide) 4 (by decide), key 2 (by decide) 3 (by decide), key 2 (by decide) 4 (by decide), key 3 (by decide) 4 (by decide)]
  unfold ns_pr
  simp only [ns_fo, pl, Nat.reduceAdd]
  omega
theorem ns_prL (L : Nat → Nat) : ns_pr L ≤ 10 := by
  have pl : ∀ (n : Nat) v w, (if L v = L w then n + 1 else n) = n + ns_pe L v w := by
    intro n v w
    unfold ns_pe
    split <;> rfl
  have pb : ∀ v w, ns_pe L v w ≤ 1 := by intro v w; unfold ns_pe; split <;> omega
  unfold ns_pr
  simp only [ns_fo, pl, Nat.reduceAdd]
  have := pb 1 0
  have := pb 2 0
  have := pb 2 1
  have := pb 3 0
  have := pb 3 1
  have := pb 3 2
  have := pb 4 0
  have := pb 4 1
  have := pb 4 2
  have := pb 4 3
  omega
/-! bits -/
theorem ns_dec (t i : Nat) : ∃ q l, l < 2 ^ i ∧ t = 2 ^ i * (2 * q + (t.testBit i).toNat) + l := by
  refine ⟨t / 2 ^ i / 2, t % 2 ^ i, Nat.mod_lt _ (Nat.two_pow_pos i), ?_⟩
  rw [Nat.toNat_testBit, Nat.div_add_mod, Nat.div_add_mod]
theorem ns_bq (q : Nat) (b : Bool) (k : Nat) : (2 * q + b.toNat).testBit k = if k = 0 then b else q.testBit (k - 1) := by
  cases k with
  | zero =>
    rw [if_pos rfl, Nat.testBit_zero]
    cases b <;> simp
  | succ k =>
    rw [if_neg (by omega), Nat.testBit_succ]
    congr 1
    cases b <;> simp <;> omega
theorem ns_addb {t i : Nat} (h : t.testBit i = false) (j : Nat) : (t + 2 ^ i).testBit j = (t.testBit j || decide (i = j)) := by
  obtain ⟨q, l, hl, e⟩ := ns_dec t i
  rw [h] at e
  have e2 : t + 2 ^ i = 2 ^ i * (2 * q + true.toNat) + l := by
    rw [e, Bool.toNat_false, Bool.toNat_true, Nat.add_zero, Nat.mul_add, Nat.mul_one]; omega
  rw [e2, Nat.testBit_two_pow_mul_add _ hl]
  conv => rhs; rw [e, Nat.testBit_two_pow_mul_add _ hl]
  by_cases c : j < i
  · rw [if_pos c, if_pos c, decide_eq_false (by omega), Bool.or_false]
  · rw [if_neg c, if_neg c, ns_bq, ns_bq]
    by_cases d : j - i = 0
    · rw [if_pos d, if_pos d, decide_eq_true (by omega)]; rfl
    · rw [if_neg d, if_neg d, decide_eq_false (by omega), Bool.or_false]
theorem ns_subl {t i : Nat} (h : t.testBit i = true) : 2 ^ i ≤ t := Nat.ge_two_pow_of_testBit h
theorem ns_subb {t i : Nat} (h : t.testBit i = true) (j : Nat) : (t - 2 ^ i).testBit j = (t.testBit j && !decide (i = j)) := by
  obtain ⟨q, l, hl, e⟩ := ns_dec t i
  rw [h] at e
  have e2 : t - 2 ^ i = 2 ^ i * (2 * q + false.toNat) + l := by
    rw [e, Bool.toNat_false, Bool.toNat_true, Nat.mul_add, Nat.mul_one, Nat.add_right_comm, Nat.add_sub_cancel, Nat.add_zero]
  rw [e2, Nat.testBit_two_pow_mul_add _ hl]
  conv => rhs; rw [e, Nat.testBit_two_pow_mul_add _ hl]
  by_cases c : j < i
  · rw [if_pos c, if_pos c, decide_eq_false (by omega)]; simp
  · rw [if_neg c, if_neg c, ns_bq, ns_bq]
    by_cases d : j - i = 0
    · rw [if_pos d, if_pos d, decide_eq_true (by omega)]; rfl
    · rw [if_neg d, if_neg d, decide_eq_false (by omega)]; simp
