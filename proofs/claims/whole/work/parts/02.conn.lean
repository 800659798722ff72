/-! the reached sets (X) and the labels (Y) of a set t of edges; edge i joins A i and B i -/
def ns_es (A B : Nat → Nat) (i : Nat) : Nat := 2 ^ A i ||| 2 ^ B i
def ns_rs (A B : Nat → Nat) (t : Nat) (r i : Nat) : Nat := if t.testBit i = true ∧ ¬ (r &&& ns_es A B i) = 0 then r ||| ns_es A B i else r
def ns_rd (A B : Nat → Nat) (t m r : Nat) : Nat := ns_fo (ns_rs A B t) m 0 r
def ns_rf (A B : Nat → Nat) (t m r : Nat) : Nat := ns_fo (fun r _ => ns_rd A B t m r) 4 1 r
def ns_mg (A B : Nat → Nat) (t : Nat) (L : Nat → Nat) (j : Nat) : Nat → Nat := if t.testBit j = true then (fun v => if L v = L (A j) ∨ L v = L (B j) then (if L (B j) ≤ L (A j) then L (B j) else L (A j)) else L v) else L
def ns_lb (A B : Nat → Nat) (t m : Nat) : Nat → Nat := ns_fo (ns_mg A B t) m 0 (fun v => v)
def ns_E (A B : Nat → Nat) (m : Nat) : Prop := ∀ i, i < m → A i < 5 ∧ B i < 5
/-- labels of the sets that the edges of t below j leave connected -/
def ns_OK (A B : Nat → Nat) (t j : Nat) (L : Nat → Nat) : Prop :=
  (∀ v, v < 5 → L v ≤ v) ∧ (∀ v, v < 5 → L (L v) = L v) ∧ (∀ i, i < j → t.testBit i = true → L (A i) = L (B i)) ∧
  (∀ C : Nat → Prop, (∀ i, i < j → t.testBit i = true → (C (A i) ↔ C (B i))) → ∀ v w, v < 5 → w < 5 → L v = L w → (C v ↔ C w))
theorem ns_ok0 (A B : Nat → Nat) (t : Nat) : ns_OK A B t 0 (fun v => v) :=
  ⟨fun _ _ => Nat.le_refl _, fun _ _ => rfl, fun _ h => absurd h (by omega), fun C _ v w _ _ h => by
    have e : v = w := h
    rw [e]⟩
theorem ns_ok1 {A B : Nat → Nat} {t j m : Nat} {L : Nat → Nat} (hE : ns_E A B m) (hj : j < m) (h : ns_OK A B t j L) : ns_OK A B t (j + 1) (ns_mg A B t L j) := by
  obtain ⟨h1, h2, h3, h4⟩ := h
  obtain ⟨ha, hb⟩ := hE j hj
  unfold ns_mg
  by_cases z : t.testBit j = true
  · rw [if_pos z]
    have la := h1 _ ha
    have lb := h1 _ hb
    have ia := h2 _ ha
    have ib := h2 _ hb
    refine ⟨?_, ?_, ?_, ?_⟩
    · intro v hv
      have := h1 v hv
      dsimp only
      split
      · split <;> omega
      · exact this
    · intro v hv
      have h2v := h2 v hv
      dsimp only
      by_cases c : L v = L (A j) ∨ L v = L (B j)
      · rw [if_pos c]
        by_cases d : L (B j) ≤ L (A j)
        · rw [if_pos d, ib, if_pos (Or.inr rfl)]
        · rw [if_neg d, ia, if_pos (Or.inl rfl)]
      · rw [if_neg c, h2v, if_neg c]
    · intro i hi ti
      dsimp only
      by_cases e : i = j
      · subst e
        rw [if_pos (Or.inl rfl), if_pos (Or.inr rfl)]
      · rw [h3 i (by omega) ti]
    · intro C hC v w hv hw e
      have g := h4 C (fun i hi => hC i (by omega))
      have gj := hC j (by omega) z
      have gva := g v (A j) hv ha
      have gvb := g v (B j) hv hb
      have gwa := g w (A j) hw ha
      have gwb := g w (B j) hw hb
      have gvw := g v w hv hw
      dsimp only at e
      by_cases c : L v = L (A j) ∨ L v = L (B j)
      · have k1 : C v ↔ C (A j) := by
          rcases c with c | c
          · exact gva c
          · exact (gvb c).trans gj.symm
        have c' : L w = L (A j) ∨ L w = L (B j) := by
          by_cases c' : L w = L (A j) ∨ L w = L (B j)
          · exact c'
          · rw [if_pos c, if_neg c'] at e
            exfalso
            apply c'
            by_cases d : L (B j) ≤ L (A j)
            · rw [if_pos d] at e; exact Or.inr e.symm
            · rw [if_neg d] at e; exact Or.inl e.symm
        have k2 : C w ↔ C (A j) := by
          rcases c' with c | c
          · exact gwa c
          · exact (gwb c).trans gj.symm
        exact k1.trans k2.symm
      · by_cases c' : L w = L (A j) ∨ L w = L (B j)
        · rw [if_neg c, if_pos c'] at e
          exfalso
          apply c
          by_cases d : L (B j) ≤ L (A j)
          · rw [if_pos d] at e; exact Or.inr e
          · rw [if_neg d] at e; exact Or.inl e
        · rw [if_neg c, if_neg c'] at e
          exact gvw e
  · rw [if_neg z]
    refine ⟨h1, h2, ?_, ?_⟩
    · intro i hi ti
      by_cases e : i = j
      · rw [e] at ti; exact absurd ti z
      · exact h3 i (by omega) ti
    · intro C hC
      exact h4 C (fun i hi => hC i (by omega))
theorem ns_okm {A B : Nat → Nat} {m : Nat} (hE : ns_E A B m) (t : Nat) : ns_OK A B t m (ns_lb A B t m) :=
  ns_foI (ns_mg A B t) (fun j L => ns_OK A B t j L) m (fun _ _ hj h => ns_ok1 hE hj h) m 0 _ (Nat.zero_add m) (ns_ok0 A B t)
/-! masks below 32 -/
theorem ns_d1 : ∀ r, r < 32 → ∀ a, a < 5 → ∀ b, b < 5 → ((r &&& (2 ^ a ||| 2 ^ b)) = 0 ↔ (r.testBit a = false ∧ r.testBit b = false)) := by decide +kernel
theorem ns_d2 : ∀ r, r < 32 → ∀ a, a < 5 → ∀ b, b < 5 → (r ||| (2 ^ a ||| 2 ^ b)) < 32 := by decide +kernel
theorem ns_d3 (r a b v : Nat) : (r ||| (2 ^ a ||| 2 ^ b)).testBit v = (r.testBit v || (decide (a = v) || decide (b = v))) := by
  rw [Nat.testBit_or, Nat.testBit_or, Nat.testBit_two_pow, Nat.testBit_two_pow]
def ns_ct (r : Nat) : Nat := (r.testBit 0).toNat + (r.testBit 1).toNat + (r.testBit 2).toNat + (r.testBit 3).toNat + (r.testBit 4).toNat
theorem ns_d4 : ∀ r, r < 32 → ∀ s, s < 32 → (∀ v, v < 5 → r.testBit v = true → s.testBit v = true) → r ≠ s → ns_ct r < ns_ct s := by decide +kernel
theorem ns_d5 : ∀ r, r < 32 → 5 ≤ ns_ct r → r = 31 := by decide +kernel
theorem ns_d6 : ∀ r, r < 32 → r ≠ 0 → 1 ≤ ns_ct r := by decide +kernel
theorem ns_d7 : ∀ v, v < 5 → (31 : Nat).testBit v = true := by decide +kernel
theorem ns_d8 : ∀ r, r < 32 → ∀ s, s < 32 → (∀ v, v < 5 → r.testBit v = true → s.testBit v = true) → (∀ v, v < 5 → s.testBit v = true → r.testBit v = true) → r = s := by decide +kernel
def ns_cl (A B : Nat → Nat) (t m r : Nat) : Prop := ∀ i, i < m → t.testBit i = true → (r.testBit (A i) = true ↔ r.testBit (B i) = true)
theorem ns_rsB {A B : Nat → Nat} {t m r i : Nat} (hE : ns_E A B m) (hi : i < m) (hr : r < 32) : ns_rs A B t r i < 32 ∧ (∀ v, v < 5 → r.testBit v = true → (ns_rs A B t r i).testBit v = true) ∧ (ns_rs A B t r i = r → t.testBit i = true → (r.testBit (A i) = true ↔ r.testBit (B i) = true)) := by
  obtain ⟨ha, hb⟩ := hE i hi
  unfold ns_rs ns_es
  by_cases z : t.testBit i = true ∧ ¬ (r &&& (2 ^ A i ||| 2 ^ B i)) = 0
  · rw [if_pos z]
    refine ⟨ns_d2 r hr _ ha _ hb, ?_, ?_⟩
    · intro v hv h
      rw [ns_d3, h]; rfl
    · intro e _
      have e1 := ns_d3 r (A i) (B i) (A i)
      have e2 := ns_d3 r (A i) (B i) (B i)
      rw [e] at e1 e2
      rw [e1, e2]
      simp
  · rw [if_neg z]
    refine ⟨hr, fun v _ h => h, ?_⟩
    intro _ ti
    have z2 : (r &&& (2 ^ A i ||| 2 ^ B i)) = 0 := by
      by_cases q : (r &&& (2 ^ A i ||| 2 ^ B i)) = 0
      · exact q
      · exact absurd ⟨ti, q⟩ z
    obtain ⟨z3, z4⟩ := (ns_d1 r hr _ ha _ hb).mp z2
    rw [z3, z4]
theorem ns_rdB {A B : Nat → Nat} {t m : Nat} (hE : ns_E A B m) : ∀ d j r, j + d = m → r < 32 → ns_fo (ns_rs A B t) d j r < 32 ∧ (∀ v, v < 5 → r.testBit v = true → (ns_fo (ns_rs A B t) d j r).testBit v = true) ∧ (ns_fo (ns_rs A B t) d j r = r → ∀ i, j ≤ i → i < m → t.testBit i = true → (r.testBit (A i) = true ↔ r.testBit (B i) = true)) := by
  intro d
  induction d with
  | zero =>
    intro j r hj hr
    exact ⟨hr, fun v _ h => h, fun _ i h1 h2 => absurd h2 (by omega)⟩
  | succ d ih =>
    intro j r hj hr
    obtain ⟨a1, a2, a3⟩ := ns_rsB (t := t) hE (show j < m by omega) hr
    obtain ⟨b1, b2, b3⟩ := ih (j + 1) (ns_rs A B t r j) (by omega) a1
    refine ⟨b1, fun v hv h => b2 v hv (a2 v hv h), ?_⟩
    intro e
    have e0 : ns_fo (ns_rs A B t) d (j + 1) (ns_rs A B t r j) = r := e
    have e1 : ns_rs A B t r j = r := by
      refine ns_d8 _ a1 _ hr ?_ a2
      intro v hv h
      have := b2 v hv h
      rw [e0] at this
      exact this
    rw [e1] at b3 e0
    intro i h1 h2 ti
    by_cases q : i = j
    · rw [q] at ti ⊢
      exact a3 e1 ti
    · exact b3 e0 i (by omega) h2 ti
theorem ns_rd0 (A B : Nat → Nat) (t m : Nat) : ns_rd A B t m 0 = 0 :=
  ns_foI (ns_rs A B t) (fun _ r => r = 0) m (fun a j _ h => by
    rw [h]; unfold ns_rs; rw [if_neg]; rw [Nat.zero_and]; exact fun q => q.2 rfl) m 0 0 (Nat.zero_add m) rfl
theorem ns_rd1 {A B : Nat → Nat} {m : Nat} (hE : ns_E A B m) (t : Nat) {r : Nat} (hr : r < 32) : ns_rd A B t m r < 32 ∧ (∀ v, v < 5 → r.testBit v = true → (ns_rd A B t m r).testBit v = true) ∧ (ns_rd A B t m r = r → ns_cl A B t m r) := by
  obtain ⟨b1, b2, b3⟩ := ns_rdB (t := t) hE m 0 r (Nat.zero_add m) hr
  exact ⟨b1, b2, fun e i hi ti => b3 e i (Nat.zero_le i) hi ti⟩
theorem ns_rfE (A B : Nat → Nat) (t m r : Nat) : ns_rf A B t m r = ns_rd A B t m (ns_rd A B t m (ns_rd A B t m (ns_rd A B t m r))) := rfl
theorem ns_rf1 {A B : Nat → Nat} {m : Nat} (hE : ns_E A B m) (t : Nat) {r : Nat} (hr : r < 32) : ns_rf A B t m r < 32 ∧ (∀ v, v < 5 → r.testBit v = true → (ns_rf A B t m r).testBit v = true) ∧ ns_cl A B t m (ns_rf A B t m r) := by
  rw [ns_rfE]
  obtain ⟨a1, a2, a3⟩ := ns_rd1 hE t hr
  obtain ⟨b1, b2, b3⟩ := ns_rd1 hE t a1
  obtain ⟨c1, c2, c3⟩ := ns_rd1 hE t b1
  obtain ⟨d1, d2, d3⟩ := ns_rd1 hE t c1
  refine ⟨d1, fun v hv h => d2 v hv (c2 v hv (b2 v hv (a2 v hv h))), ?_⟩
  by_cases e1 : ns_rd A B t m r = r
  · rw [e1, e1, e1, e1]; exact a3 e1
  · by_cases e2 : ns_rd A B t m (ns_rd A B t m r) = ns_rd A B t m r
    · rw [e2, e2, e2]; exact b3 e2
    · by_cases e3 : ns_rd A B t m (ns_rd A B t m (ns_rd A B t m r)) = ns_rd A B t m (ns_rd A B t m r)
      · rw [e3, e3]; exact c3 e3
      · by_cases e4 : ns_rd A B t m (ns_rd A B t m (ns_rd A B t m (ns_rd A B t m r))) = ns_rd A B t m (ns_rd A B t m (ns_rd A B t m r))
        · rw [e4]; exact d3 e4
        · have g0 : r ≠ 0 := fun q => e1 (by rw [q]; exact ns_rd0 A B t m)
          have g1 := ns_d6 r hr g0
          have g2 := ns_d4 _ hr _ a1 a2 (fun q => e1 q.symm)
          have g3 := ns_d4 _ a1 _ b1 b2 (fun q => e2 q.symm)
          have g4 := ns_d4 _ b1 _ c1 c2 (fun q => e3 q.symm)
          have g5 := ns_d4 _ c1 _ d1 d2 (fun q => e4 q.symm)
          rw [ns_d5 _ d1 (by omega)]
          intro i hi _
          obtain ⟨ha, hb⟩ := hE i hi
          rw [ns_d7 _ ha, ns_d7 _ hb]
/-- nothing outside a set that is closed along the edges is reached -/
theorem ns_rf2 {A B : Nat → Nat} {m : Nat} (hE : ns_E A B m) (t : Nat) {C : Nat → Prop} (hC : ∀ i, i < m → t.testBit i = true → (C (A i) ↔ C (B i))) {r : Nat} (hr : r < 32) (h0 : ∀ v, v < 5 → r.testBit v = true → C v) : ∀ v, v < 5 → (ns_rf A B t m r).testBit v = true → C v := by
  have key : ∀ r, r < 32 → (∀ v, v < 5 → r.testBit v = true → C v) → ∀ v, v < 5 → (ns_rd A B t m r).testBit v = true → C v := by
    intro r hr h0
    have q : (ns_rd A B t m r) < 32 ∧ ∀ v, v < 5 → (ns_rd A B t m r).testBit v = true → C v := by
      refine ns_foI (ns_rs A B t) (fun _ r => r < 32 ∧ ∀ v, v < 5 → r.testBit v = true → C v) m ?_ m 0 r (Nat.zero_add m) ⟨hr, h0⟩
      rintro r j hj ⟨hr, h⟩
      refine ⟨(ns_rsB hE hj hr).1, ?_⟩
      obtain ⟨ha, hb⟩ := hE j hj
      unfold ns_rs ns_es
      by_cases z : t.testBit j = true ∧ ¬ (r &&& (2 ^ A j ||| 2 ^ B j)) = 0
      · rw [if_pos z]
        intro v hv
        rw [ns_d3]
        have cj := hC j hj z.1
        have cc : C (A j) ∧ C (B j) := by
          cases x : r.testBit (A j)
          · cases y : r.testBit (B j)
            · exact absurd ((ns_d1 r hr _ ha _ hb).mpr ⟨x, y⟩) z.2
            · have := h _ hb y
              exact ⟨cj.mpr this, this⟩
          · have := h _ ha x
            exact ⟨this, cj.mp this⟩
        intro q
        rw [Bool.or_eq_true, Bool.or_eq_true, decide_eq_true_iff, decide_eq_true_iff] at q
        rcases q with q | q | q
        · exact h v hv q
        · rw [← q]; exact cc.1
        · rw [← q]; exact cc.2
      · rw [if_neg z]; exact h
    exact q.2
  rw [ns_rfE]
  have a1 := (ns_rd1 hE t hr).1
  have b1 := (ns_rd1 hE t a1).1
  have c1 := (ns_rd1 hE t b1).1
  exact key _ c1 (key _ b1 (key _ a1 (key _ hr h0)))
/-- what is reached: what has the label of one of the given nodes -/
theorem ns_reach {A B : Nat → Nat} {m : Nat} (hE : ns_E A B m) (t : Nat) {r : Nat} (hr : r < 32) {w : Nat} (hw : w < 5) : (ns_rf A B t m r).testBit w = true ↔ ∃ v, v < 5 ∧ r.testBit v = true ∧ ns_lb A B t m v = ns_lb A B t m w := by
  obtain ⟨h1, h2, h3, h4⟩ := ns_okm hE t
  obtain ⟨f1, f2, f3⟩ := ns_rf1 hE t hr
  constructor
  · intro h
    refine ns_rf2 hE t (C := fun w => ∃ v, v < 5 ∧ r.testBit v = true ∧ ns_lb A B t m v = ns_lb A B t m w) ?_ hr ?_ w hw h
    · intro i hi ti
      have := h3 i hi ti
      show (∃ v, v < 5 ∧ r.testBit v = true ∧ ns_lb A B t m v = ns_lb A B t m (A i)) ↔ (∃ v, v < 5 ∧ r.testBit v = true ∧ ns_lb A B t m v = ns_lb A B t m (B i))
      rw [this]
    · intro v hv hrv
      exact ⟨v, hv, hrv, rfl⟩
  · rintro ⟨v, hv, hrv, e⟩
    exact (h4 (fun x => (ns_rf A B t m r).testBit x = true) f3 v w hv hw e).mp (f2 v hv hrv)
