section
/-! rows pasted from the given starting texts (kit/rows) -/
theorem pk_us {f : Nat → Int32} {k : Nat} {x : Int32} : upd f k x k = x := if_pos rfl
theorem pk_un {f : Nat → Int32} {k j : Nat} {x : Int32} (h : j ≠ k) : upd f k x j = f j := if_neg h
theorem pk_sub {a b : Nat} (h : b ≤ a) : nI a - nI b = nI (a - b) := by
  obtain ⟨c, rfl⟩ : ∃ c, a = c + b := ⟨a - b, by omega⟩
  rw [← nI_add, Int32.add_sub_cancel, Nat.add_sub_cancel]
theorem pk_m1 (n : Nat) : nI (n + 1) + (-1) = nI n := by
  rw [← nI_1, Int32.add_assoc, show (1 : Int32) + (-1) = 0 from rfl, Int32.add_zero]
theorem pk_mul (a b : Nat) : nI a * nI b = nI (a * b) := (Int32.ofNat_mul a b).symm
theorem pk_div {a d : Nat} (ha : a < 2 ^ 31) (h0 : 0 < d) (hd : d < 2 ^ 31) : nI a / nI d = nI (a / d) := by
  apply Int32.toInt_inj.mp
  rw [lg_idiv_nonneg (by rw [nI_toInt ha]; omega) (by rw [nI_toInt hd]; omega), nI_toInt ha, nI_toInt hd, nI_toInt (Nat.lt_of_le_of_lt (Nat.div_le_self a d) ha)]
  first | rfl | exact (Int.natCast_ediv _ _).symm
theorem pk_rem {a d : Nat} (ha : a < 2 ^ 31) (h0 : 0 < d) (hd : d < 2 ^ 31) : nI a - nI a / nI d * nI d = nI (a % d) := by
  rw [pk_div ha h0 hd, pk_mul, pk_sub (Nat.div_mul_le_self a d)]
  exact congrArg nI (by have := Nat.div_add_mod' a d; omega)
theorem pk_sub_toInt {a b : Nat} (ha : a < 2 ^ 30) (hb : b < 2 ^ 30) : (nI a - nI b).toInt = (a : Int) - b := by
  rw [Int32.toInt_sub, nI_toInt (by omega), nI_toInt (by omega)]
  exact Int.bmod_eq_of_le (by omega) (by omega)
theorem pk_sneg {a b : Nat} (hb : b < 2 ^ 30) (h : a < b) : nI a - nI b < 0 := by
  rw [Int32.lt_iff_toInt_lt, pk_sub_toInt (by omega) hb, show (0 : Int32).toInt = 0 from by decide]
  omega
theorem pk_ix (x : Int32) {n : Nat} (hn : n < 2 ^ 31) : x < 0 ∨ nI n ≤ x ∨ ∃ j : Nat, j < n ∧ x = nI j := by
  by_cases h : x < 0
  · exact Or.inl h
  · obtain ⟨j, hj, rfl⟩ := nI_of h
    by_cases h2 : j < n
    · exact Or.inr (Or.inr ⟨j, h2, rfl⟩)
    · exact Or.inr (Or.inl (nI_le (by omega) hj))
theorem pk_le {x y : Int32} {A B : Prop} (a b : Nat) (f : a ≤ b → A) (g : b < a → B) (hx : x = nI a := by rfl) (hy : y = nI b := by rfl) (ha : a < 2 ^ 31 := by omega) (hb : b < 2 ^ 31 := by omega) : (x ≤ y → A) ∧ (¬ x ≤ y → B) := by
  subst hx hy
  rw [nI_leI ha hb]
  exact ⟨f, fun z => g (by omega)⟩
theorem pk_lt {x y : Int32} {A B : Prop} (a b : Nat) (f : a < b → A) (g : b ≤ a → B) (hx : x = nI a := by rfl) (hy : y = nI b := by rfl) (ha : a < 2 ^ 31 := by omega) (hb : b < 2 ^ 31 := by omega) : (x < y → A) ∧ (¬ x < y → B) := by
  subst hx hy
  rw [nI_ltI ha hb]
  exact ⟨f, fun z => g (by omega)⟩
theorem pk_eq {x y : Int32} {A B : Prop} (a b : Nat) (f : a = b → A) (g : a ≠ b → B) (hx : x = nI a := by rfl) (hy : y = nI b := by rfl) (ha : a < 2 ^ 31 := by omega) (hb : b < 2 ^ 31 := by omega) : (x = y → A) ∧ (¬ x = y → B) := by
  subst hx hy
  rw [nI_eq ha hb]
  exact ⟨f, g⟩
theorem pk_in {x : Int32} (n N : Nat) (h : n < N) (hx : x = nI n := by rfl) (hN : N < 2 ^ 31 := by omega) : vp_in x N := by
  subst hx
  exact vp_in_nI h hN
theorem pk_cl {x : Int32} (n : Nat) (hx : x = nI n := by rfl) (h : n < 2 ^ 31 := by omega) : x.toNatClampNeg = n := by
  subst hx
  exact nI_clamp h
theorem pk_tn {n : Nat} (h : n < 2 ^ 32) : (nI n).toBitVec.toNat = n := Nat.mod_eq_of_lt h
theorem pk_and (x : Int32) {m : Int32} (k : Nat) (hm : m.toBitVec.toNat = 2 ^ k - 1) : x &&& m = nI (x.toBitVec.toNat % 2 ^ k) := by
  apply Int32.toBitVec_inj.mp
  apply BitVec.eq_of_toNat_eq
  rw [Int32.toBitVec_and, BitVec.toNat_and, hm, Nat.and_two_pow_sub_one_eq_mod]
  show _ = (BitVec.ofNat 32 _).toNat
  rw [BitVec.toNat_ofNat]
  exact (Nat.mod_eq_of_lt (Nat.lt_of_le_of_lt (Nat.mod_le _ _) x.toBitVec.isLt)).symm
theorem pk_andN {n : Nat} (h : n < 2 ^ 32) {m : Int32} (k : Nat) (hm : m.toBitVec.toNat = 2 ^ k - 1) : nI n &&& m = nI (n % 2 ^ k) := by
  rw [pk_and _ k hm, pk_tn h]
theorem pk_shl (a s : Int32) (k : Nat) (hs : (s.toBitVec.smod 32).toNat = k) : (a <<< s).toBitVec.toNat = a.toBitVec.toNat * 2 ^ k % 2 ^ 32 := by
  show (a.toBitVec <<< (s.toBitVec.smod 32).toNat).toNat = _
  rw [hs, BitVec.toNat_shiftLeft, Nat.shiftLeft_eq]
theorem pk_shlN {n : Nat} (s : Int32) (k : Nat) (hs : (s.toBitVec.smod 32).toNat = k) (h : n * 2 ^ k < 2 ^ 32) : nI n <<< s = nI (n * 2 ^ k) := by
  apply Int32.toBitVec_inj.mp
  apply BitVec.eq_of_toNat_eq
  have hn : n < 2 ^ 32 := Nat.lt_of_le_of_lt (Nat.le_mul_of_pos_right n (Nat.two_pow_pos k)) h
  rw [pk_shl _ _ k hs, pk_tn hn, pk_tn h, Nat.mod_eq_of_lt h]
theorem pk_shr (a s : Int32) (k : Nat) (hs : (s.toBitVec.smod 32).toNat = k) : (a >>> s).toInt = a.toInt >>> k := by
  show (a.toBitVec.sshiftRight (s.toBitVec.smod 32).toNat).toInt = _
  rw [hs, BitVec.toInt_sshiftRight]
  rfl
theorem pk_shrN {n : Nat} (h : n < 2 ^ 31) (s : Int32) (k : Nat) (hs : (s.toBitVec.smod 32).toNat = k) : nI n >>> s = nI (n / 2 ^ k) := by
  apply Int32.toInt_inj.mp
  have h2 : n / 2 ^ k ≤ n := Nat.div_le_self _ _
  rw [pk_shr _ _ k hs, nI_toInt h, nI_toInt (by omega), Int.shiftRight_eq_div_pow]
  rfl
theorem s_l : ∀ n, n < 32 → ((nI n &&& 31).toBitVec.smod 32).toNat = n := by decide +kernel
theorem nx_and (a b : Nat) : nI a &&& nI b = nI (a &&& b) := by
  apply Int32.toBitVec_inj.1
  show BitVec.ofNat 32 a &&& BitVec.ofNat 32 b = BitVec.ofNat 32 (a &&& b)
  apply BitVec.eq_of_getLsbD_eq
  intro i hi
  simp [hi]
theorem nx_xor (a b : Nat) : nI a ^^^ nI b = nI (a ^^^ b) := by
  apply Int32.toBitVec_inj.1
  show BitVec.ofNat 32 a ^^^ BitVec.ofNat 32 b = BitVec.ofNat 32 (a ^^^ b)
  apply BitVec.eq_of_getLsbD_eq
  intro i hi
  simp [hi]
/-! numbers, bits, loops -/
theorem ns_or (a b : Nat) : nI a ||| nI b = nI (a ||| b) := by
  apply Int32.toBitVec_inj.1
  show BitVec.ofNat 32 a ||| BitVec.ofNat 32 b = BitVec.ofNat 32 (a ||| b)
  apply BitVec.eq_of_getLsbD_eq
  intro i hi
  simp [hi]
def ns_b (b : Bool) : Int32 := if b then 1 else 0
theorem ns_b1 : ns_b true = 1 := rfl
theorem ns_b0 : ns_b false = 0 := rfl
theorem ns_br {b : Bool} {A B : Prop} (f : b = false → A) (g : b = true → B) : (ns_b b = 0 → A) ∧ (¬ ns_b b = 0 → B) := by
  cases b
  · exact ⟨fun _ => f rfl, fun h => absurd rfl h⟩
  · exact ⟨fun h => absurd h (by decide), fun _ => g rfl⟩
theorem ns_if {c d A B : Prop} (e : c ↔ d) (f : d → A) (g : ¬ d → B) : (c → A) ∧ (¬ c → B) := ⟨fun h => f (e.mp h), fun h => g (fun z => h (e.mpr z))⟩
theorem ns_bit {t i : Nat} (ht : t < 2 ^ 31) (hi : i < 32) : (nI t >>> (nI i &&& 31)) &&& 1 = nI (t.testBit i).toNat := by
  have h2 : t / 2 ^ i ≤ t := Nat.div_le_self _ _
  rw [pk_shrN ht _ i (s_l i hi), pk_andN (m := 1) (by omega) 1 (by decide), Nat.pow_one, Nat.toNat_testBit]
theorem ns_bn (b : Bool) : nI b.toNat = ns_b b := by cases b <;> rfl
theorem ns_p2 {i j : Nat} (h : i ≤ j) : 2 ^ i ≤ 2 ^ j := Nat.pow_le_pow_right (by decide) h
theorem ns_shl {i : Nat} (hi : i < 31) : (1 : Int32) <<< (nI i &&& 31) = nI (2 ^ i) := by
  have h0 := ns_p2 (i := i) (j := 31) (by omega)
  have h := pk_shlN (n := 1) (nI i &&& 31) i (s_l i (by omega)) (by omega)
  rw [Nat.one_mul] at h
  exact h
def ns_fo {α : Type} (g : α → Nat → α) : Nat → Nat → α → α
  | 0, _, a => a
  | d + 1, j, a => ns_fo g d (j + 1) (g a j)
theorem ns_loop {α : Type} (W : Nat → α → Nat → Prop) (g : α → Nat → α) (P : α → Prop) (e : Nat) (hx : ∀ n a, P a → W (n + 1) a e) (hs : ∀ n a j, j < e → W n (g a j) (j + 1) → W (n + 1) a j) : ∀ d j a, j + d = e → P (ns_fo g d j a) → W (d + 1) a j := by
  intro d
  induction d with
  | zero =>
    intro j a he h
    have e1 : j = e := he
    rw [e1]
    exact hx 0 a h
  | succ d ih =>
    intro j a he h
    exact hs _ _ _ (by omega) (ih (j + 1) (g a j) (by omega) h)
theorem ns_foI {α : Type} (g : α → Nat → α) (I : Nat → α → Prop) (e : Nat) (hs : ∀ a j, j < e → I j a → I (j + 1) (g a j)) : ∀ d j a, j + d = e → I j a → I e (ns_fo g d j a) := by
  intro d
  induction d with
  | zero =>
    intro j a he h
    have e1 : j = e := he
    rw [← e1]
    exact h
  | succ d ih =>
    intro j a he h
    exact ih (j + 1) (g a j) (by omega) (hs a j (by omega) h)
theorem ns_foE {α : Type} (g g' : α → Nat → α) (e : Nat) (hs : ∀ a j, j < e → g a j = g' a j) : ∀ d j a, j + d = e → ns_fo g d j a = ns_fo g' d j a := by
  intro d
  induction d with
  | zero => intro j a he; rfl
  | succ d ih =>
    intro j a he
    show ns_fo g d (j + 1) (g a j) = ns_fo g' d (j + 1) (g' a j)
    rw [hs a j (by omega)]
    exact ih (j + 1) _ (by omega)
def ns_all (c : Nat → Bool) : Nat → Nat → Bool
  | 0, _ => true
  | d + 1, j => c j && ns_all c d (j + 1)
theorem ns_exit (W : Nat → Nat → Prop) (c : Nat → Bool) (P : Bool → Prop) (e : Nat) (hx : ∀ n, P true → W (n + 1) e) (ht : ∀ n j, j < e → c j = true → W n (j + 1) → W (n + 1) j) (hf : ∀ n j, j < e → c j = false → P false → W (n + 1) j) : ∀ d j, j + d = e → P (ns_all c d j) → W (d + 1) j := by
  intro d
  induction d with
  | zero =>
    intro j he h
    have e1 : j = e := he
    rw [e1]
    exact hx 0 h
  | succ d ih =>
    intro j he h
    cases z : c j
    · refine hf _ _ (by omega) z ?_
      rw [ns_all, z] at h
      exact h
    · refine ht _ _ (by omega) z (ih (j + 1) (by omega) ?_)
      rw [ns_all, z] at h
      exact h
theorem ns_allE (c c' : Nat → Bool) (e : Nat) (hs : ∀ j, j < e → c j = c' j) : ∀ d j, j + d = e → ns_all c d j = ns_all c' d j := by
  intro d
  induction d with
  | zero => intro j he; rfl
  | succ d ih =>
    intro j he
    show (c j && ns_all c d (j + 1)) = (c' j && ns_all c' d (j + 1))
    rw [hs j (by omega), ih (j + 1) (by omega)]
theorem ns_allI (c : Nat → Bool) : ∀ d j, ns_all c d j = true ↔ ∀ i, j ≤ i → i < j + d → c i = true := by
  intro d
  induction d with
  | zero =>
    intro j
    exact ⟨fun _ i h1 h2 => absurd h2 (by omega), fun _ => rfl⟩
  | succ d ih =>
    intro j
    rw [ns_all, Bool.and_eq_true, ih (j + 1)]
    constructor
    · rintro ⟨h1, h2⟩ i h3 h4
      by_cases e : i = j
      · rw [e]; exact h1
      · exact h2 i (by omega) (by omega)
    · intro h
      exact ⟨h j (by omega) (by omega), fun i h1 h2 => h i (by omega) (by omega)⟩
theorem ns_allA (c : Nat → Bool) : ∀ d j (a : Bool), ns_fo (fun a j => a && c j) d j a = (a && ns_all c d j) := by
  intro d
  induction d with
  | zero => intro j a; cases a <;> rfl
  | succ d ih =>
    intro j a
    rw [ns_fo, ih, ns_all, Bool.and_assoc]
end
section
/-! the reached sets (X) and the labels (Y) of a set t of edges; edge i joins A i and B i -/
def ns_es (A B : Nat → Nat) (i : Nat) : Nat := 2 ^ A i ||| 2 ^ B i
def ns_rs (A B : Nat → Nat) (t : Nat) (r i : Nat) : Nat := if t.testBit i = true ∧ ¬ (r &&& ns_es A B i) = 0 then r ||| ns_es A B i else r
def ns_rd (A B : Nat → Nat) (t m r : Nat) : Nat := ns_fo (ns_rs A B t) m 0 r
def ns_rf (A B : Nat → Nat) (t m r : Nat) : Nat := ns_fo (fun r _ => ns_rd A B t m r) 4 1 r
def ns_mg (A B : Nat → Nat) (t : Nat) (L : Nat → Nat) (j : Nat) : Nat → Nat := if t.testBit j = true then (fun v => if L v = L (A j) ∨ L v = L (B j) then (if L (B j) ≤ L (A j) then L (B j) else L (A j)) else L v) else L
def ns_lb (A B : Nat → Nat) (t m : Nat) : Nat → Nat := ns_fo (ns_mg A B t) m 0 (fun v => v)
def ns_E (A B : Nat → Nat) (m : Nat) : Prop := ∀ i, i < m → A i < 5 ∧ B i < 5
/-- labels of the sets that the edges of t below j leave connected -/
def ns_OK (A B : Nat → Nat) (t j : Nat) (L : Nat → Nat) : Prop :=
  (∀ v, v < 5 → L v ≤ v) ∧ (∀ v, v < 5 → L (L v) = L v) ∧ (∀ i, i < j → t.testBit i = true → L (A i) = L (B i)) ∧
  (∀ C : Nat → Prop, (∀ i, i < j → t.testBit i = true → (C (A i) ↔ C (B i))) → ∀ v w, v < 5 → w < 5 → L v = L w → (C v ↔ C w))
theorem ns_ok0 (A B : Nat → Nat) (t : Nat) : ns_OK A B t 0 (fun v => v) :=
  ⟨fun _ _ => Nat.le_refl _, fun _ _ => rfl, fun _ h => absurd h (by omega), fun C _ v w _ _ h => by
    have e : v = w := h
    rw [e]⟩
theorem ns_ok1 {A B : Nat → Nat} {t j m : Nat} {L : Nat → Nat} (hE : ns_E A B m) (hj : j < m) (h : ns_OK A B t j L) : ns_OK A B t (j + 1) (ns_mg A B t L j) := by
  obtain ⟨h1, h2, h3, h4⟩ := h
  obtain ⟨ha, hb⟩ := hE j hj
  unfold ns_mg
  by_cases z : t.testBit j = true
  · rw [if_pos z]
    have la := h1 _ ha
    have lb := h1 _ hb
    have ia := h2 _ ha
    have ib := h2 _ hb
    refine ⟨?_, ?_, ?_, ?_⟩
    · intro v hv
      have := h1 v hv
      dsimp only
      split
      · split <;> omega
      · exact this
    · intro v hv
      have h2v := h2 v hv
      dsimp only
      by_cases c : L v = L (A j) ∨ L v = L (B j)
      · rw [if_pos c]
        by_cases d : L (B j) ≤ L (A j)
        · rw [if_pos d, ib, if_pos (Or.inr rfl)]
        · rw [if_neg d, ia, if_pos (Or.inl rfl)]
      · rw [if_neg c, h2v, if_neg c]
    · intro i hi ti
      dsimp only
      by_cases e : i = j
      · subst e
        rw [if_pos (Or.inl rfl), if_pos (Or.inr rfl)]
      · rw [h3 i (by omega) ti]
    · intro C hC v w hv hw e
      have g := h4 C (fun i hi => hC i (by omega))
      have gj := hC j (by omega) z
      have gva := g v (A j) hv ha
      have gvb := g v (B j) hv hb
      have gwa := g w (A j) hw ha
      have gwb := g w (B j) hw hb
      have gvw := g v w hv hw
      dsimp only at e
      by_cases c : L v = L (A j) ∨ L v = L (B j)
      · have k1 : C v ↔ C (A j) := by
          rcases c with c | c
          · exact gva c
          · exact (gvb c).trans gj.symm
        have c' : L w = L (A j) ∨ L w = L (B j) := by
          by_cases c' : L w = L (A j) ∨ L w = L (B j)
          · exact c'
          · rw [if_pos c, if_neg c'] at e
            exfalso
            apply c'
            by_cases d : L (B j) ≤ L (A j)
            · rw [if_pos d] at e; exact Or.inr e.symm
            · rw [if_neg d] at e; exact Or.inl e.symm
        have k2 : C w ↔ C (A j) := by
          rcases c' with c | c
          · exact gwa c
          · exact (gwb c).trans gj.symm
        exact k1.trans k2.symm
      · by_cases c' : L w = L (A j) ∨ L w = L (B j)
        · rw [if_neg c, if_pos c'] at e
          exfalso
          apply c
          by_cases d : L (B j) ≤ L (A j)
          · rw [if_pos d] at e; exact Or.inr e
          · rw [if_neg d] at e; exact Or.inl e
        · rw [if_neg c, if_neg c'] at e
          exact gvw e
  · rw [if_neg z]
    refine ⟨h1, h2, ?_, ?_⟩
    · intro i hi ti
      by_cases e : i = j
      · rw [e] at ti; exact absurd ti z
      · exact h3 i (by omega) ti
    · intro C hC
      exact h4 C (fun i hi => hC i (by omega))
theorem ns_okm {A B : Nat → Nat} {m : Nat} (hE : ns_E A B m) (t : Nat) : ns_OK A B t m (ns_lb A B t m) :=
  ns_foI (ns_mg A B t) (fun j L => ns_OK A B t j L) m (fun _ _ hj h => ns_ok1 hE hj h) m 0 _ (Nat.zero_add m) (ns_ok0 A B t)
/-! masks below 32 -/
theorem ns_d1 : ∀ r, r < 32 → ∀ a, a < 5 → ∀ b, b < 5 → ((r &&& (2 ^ a ||| 2 ^ b)) = 0 ↔ (r.testBit a = false ∧ r.testBit b = false)) := by decide +kernel
theorem ns_d2 : ∀ r, r < 32 → ∀ a, a < 5 → ∀ b, b < 5 → (r ||| (2 ^ a ||| 2 ^ b)) < 32 := by decide +kernel
theorem ns_d3 (r a b v : Nat) : (r ||| (2 ^ a ||| 2 ^ b)).testBit v = (r.testBit v || (decide (a = v) || decide (b = v))) := by
  rw [Nat.testBit_or, Nat.testBit_or, Nat.testBit_two_pow, Nat.testBit_two_pow]
def ns_ct (r : Nat) : Nat := (r.testBit 0).toNat + (r.testBit 1).toNat + (r.testBit 2).toNat + (r.testBit 3).toNat + (r.testBit 4).toNat
theorem ns_d4 : ∀ r, r < 32 → ∀ s, s < 32 → (∀ v, v < 5 → r.testBit v = true → s.testBit v = true) → r ≠ s → ns_ct r < ns_ct s := by decide +kernel
theorem ns_d5 : ∀ r, r < 32 → 5 ≤ ns_ct r → r = 31 := by decide +kernel
theorem ns_d6 : ∀ r, r < 32 → r ≠ 0 → 1 ≤ ns_ct r := by decide +kernel
theorem ns_d7 : ∀ v, v < 5 → (31 : Nat).testBit v = true := by decide +kernel
theorem ns_d8 : ∀ r, r < 32 → ∀ s, s < 32 → (∀ v, v < 5 → r.testBit v = true → s.testBit v = true) → (∀ v, v < 5 → s.testBit v = true → r.testBit v = true) → r = s := by decide +kernel
def ns_cl (A B : Nat → Nat) (t m r : Nat) : Prop := ∀ i, i < m → t.testBit i = true → (r.testBit (A i) = true ↔ r.testBit (B i) = true)
theorem ns_rsB {A B : Nat → Nat} {t m r i : Nat} (hE : ns_E A B m) (hi : i < m) (hr : r < 32) : ns_rs A B t r i < 32 ∧ (∀ v, v < 5 → r.testBit v = true → (ns_rs A B t r i).testBit v = true) ∧ (ns_rs A B t r i = r → t.testBit i = true → (r.testBit (A i) = true ↔ r.testBit (B i) = true)) := by
  obtain ⟨ha, hb⟩ := hE i hi
  unfold ns_rs ns_es
  by_cases z : t.testBit i = true ∧ ¬ (r &&& (2 ^ A i ||| 2 ^ B i)) = 0
  · rw [if_pos z]
    refine ⟨ns_d2 r hr _ ha _ hb, ?_, ?_⟩
    · intro v hv h
      rw [ns_d3, h]; rfl
    · intro e _
      have e1 := ns_d3 r (A i) (B i) (A i)
      have e2 := ns_d3 r (A i) (B i) (B i)
      rw [e] at e1 e2
      rw [e1, e2]
      simp
  · rw [if_neg z]
    refine ⟨hr, fun v _ h => h, ?_⟩
    intro _ ti
    have z2 : (r &&& (2 ^ A i ||| 2 ^ B i)) = 0 := by
      by_cases q : (r &&& (2 ^ A i ||| 2 ^ B i)) = 0
      · exact q
      · exact absurd ⟨ti, q⟩ z
    obtain ⟨z3, z4⟩ := (ns_d1 r hr _ ha _ hb).mp z2
    rw [z3, z4]
theorem ns_rdB {A B : Nat → Nat} {t m : Nat} (hE : ns_E A B m) : ∀ d j r, j + d = m → r < 32 → ns_fo (ns_rs A B t) d j r < 32 ∧ (∀ v, v < 5 → r.testBit v = true → (ns_fo (ns_rs A B t) d j r).testBit v = true) ∧ (ns_fo (ns_rs A B t) d j r = r → ∀ i, j ≤ i → i < m → t.testBit i = true → (r.testBit (A i) = true ↔ r.testBit (B i) = true)) := by
  intro d
  induction d with
  | zero =>
    intro j r hj hr
    exact ⟨hr, fun v _ h => h, fun _ i h1 h2 => absurd h2 (by omega)⟩
  | succ d ih =>
    intro j r hj hr
    obtain ⟨a1, a2, a3⟩ := ns_rsB (t := t) hE (show j < m by omega) hr
    obtain ⟨b1, b2, b3⟩ := ih (j + 1) (ns_rs A B t r j) (by omega) a1
    refine ⟨b1, fun v hv h => b2 v hv (a2 v hv h), ?_⟩
    intro e
    have e0 : ns_fo (ns_rs A B t) d (j + 1) (ns_rs A B t r j) = r := e
    have e1 : ns_rs A B t r j = r := by
      refine ns_d8 _ a1 _ hr ?_ a2
      intro v hv h
      have := b2 v hv h
      rw [e0] at this
      exact this
    rw [e1] at b3 e0
    intro i h1 h2 ti
    by_cases q : i = j
    · rw [q] at ti ⊢
      exact a3 e1 ti
    · exact b3 e0 i (by omega) h2 ti
theorem ns_rd0 (A B : Nat → Nat) (t m : Nat) : ns_rd A B t m 0 = 0 :=
  ns_foI (ns_rs A B t) (fun _ r => r = 0) m (fun a j _ h => by
    rw [h]; unfold ns_rs; rw [if_neg]; rw [Nat.zero_and]; exact fun q => q.2 rfl) m 0 0 (Nat.zero_add m) rfl
theorem ns_rd1 {A B : Nat → Nat} {m : Nat} (hE : ns_E A B m) (t : Nat) {r : Nat} (hr : r < 32) : ns_rd A B t m r < 32 ∧ (∀ v, v < 5 → r.testBit v = true → (ns_rd A B t m r).testBit v = true) ∧ (ns_rd A B t m r = r → ns_cl A B t m r) := by
  obtain ⟨b1, b2, b3⟩ := ns_rdB (t := t) hE m 0 r (Nat.zero_add m) hr
  exact ⟨b1, b2, fun e i hi ti => b3 e i (Nat.zero_le i) hi ti⟩
theorem ns_rfE (A B : Nat → Nat) (t m r : Nat) : ns_rf A B t m r = ns_rd A B t m (ns_rd A B t m (ns_rd A B t m (ns_rd A B t m r))) := rfl
theorem ns_rf1 {A B : Nat → Nat} {m : Nat} (hE : ns_E A B m) (t : Nat) {r : Nat} (hr : r < 32) : ns_rf A B t m r < 32 ∧ (∀ v, v < 5 → r.testBit v = true → (ns_rf A B t m r).testBit v = true) ∧ ns_cl A B t m (ns_rf A B t m r) := by
  rw [ns_rfE]
  obtain ⟨a1, a2, a3⟩ := ns_rd1 hE t hr
  obtain ⟨b1, b2, b3⟩ := ns_rd1 hE t a1
  obtain ⟨c1, c2, c3⟩ := ns_rd1 hE t b1
  obtain ⟨d1, d2, d3⟩ := ns_rd1 hE t c1
  refine ⟨d1, fun v hv h => d2 v hv (c2 v hv (b2 v hv (a2 v hv h))), ?_⟩
  by_cases e1 : ns_rd A B t m r = r
  · rw [e1, e1, e1, e1]; exact a3 e1
  · by_cases e2 : ns_rd A B t m (ns_rd A B t m r) = ns_rd A B t m r
    · rw [e2, e2, e2]; exact b3 e2
    · by_cases e3 : ns_rd A B t m (ns_rd A B t m (ns_rd A B t m r)) = ns_rd A B t m (ns_rd A B t m r)
      · rw [e3, e3]; exact c3 e3
      · by_cases e4 : ns_rd A B t m (ns_rd A B t m (ns_rd A B t m (ns_rd A B t m r))) = ns_rd A B t m (ns_rd A B t m (ns_rd A B t m r))
        · rw [e4]; exact d3 e4
        · have g0 : r ≠ 0 := fun q => e1 (by rw [q]; exact ns_rd0 A B t m)
          have g1 := ns_d6 r hr g0
          have g2 := ns_d4 _ hr _ a1 a2 (fun q => e1 q.symm)
          have g3 := ns_d4 _ a1 _ b1 b2 (fun q => e2 q.symm)
          have g4 := ns_d4 _ b1 _ c1 c2 (fun q => e3 q.symm)
          have g5 := ns_d4 _ c1 _ d1 d2 (fun q => e4 q.symm)
          rw [ns_d5 _ d1 (by omega)]
          intro i hi _
          obtain ⟨ha, hb⟩ := hE i hi
          rw [ns_d7 _ ha, ns_d7 _ hb]
/-- nothing outside a set that is closed along the edges is reached -/
theorem ns_rf2 {A B : Nat → Nat} {m : Nat} (hE : ns_E A B m) (t : Nat) {C : Nat → Prop} (hC : ∀ i, i < m → t.testBit i = true → (C (A i) ↔ C (B i))) {r : Nat} (hr : r < 32) (h0 : ∀ v, v < 5 → r.testBit v = true → C v) : ∀ v, v < 5 → (ns_rf A B t m r).testBit v = true → C v := by
  have key : ∀ r, r < 32 → (∀ v, v < 5 → r.testBit v = true → C v) → ∀ v, v < 5 → (ns_rd A B t m r).testBit v = true → C v := by
    intro r hr h0
    have q : (ns_rd A B t m r) < 32 ∧ ∀ v, v < 5 → (ns_rd A B t m r).testBit v = true → C v := by
      refine ns_foI (ns_rs A B t) (fun _ r => r < 32 ∧ ∀ v, v < 5 → r.testBit v = true → C v) m ?_ m 0 r (Nat.zero_add m) ⟨hr, h0⟩
      rintro r j hj ⟨hr, h⟩
      refine ⟨(ns_rsB hE hj hr).1, ?_⟩
      obtain ⟨ha, hb⟩ := hE j hj
      unfold ns_rs ns_es
      by_cases z : t.testBit j = true ∧ ¬ (r &&& (2 ^ A j ||| 2 ^ B j)) = 0
      · rw [if_pos z]
        intro v hv
        rw [ns_d3]
        have cj := hC j hj z.1
        have cc : C (A j) ∧ C (B j) := by
          cases x : r.testBit (A j)
          · cases y : r.testBit (B j)
            · exact absurd ((ns_d1 r hr _ ha _ hb).mpr ⟨x, y⟩) z.2
            · have := h _ hb y
              exact ⟨cj.mpr this, this⟩
          · have := h _ ha x
            exact ⟨this, cj.mp this⟩
        intro q
        rw [Bool.or_eq_true, Bool.or_eq_true, decide_eq_true_iff, decide_eq_true_iff] at q
        rcases q with q | q | q
        · exact h v hv q
        · rw [← q]; exact cc.1
        · rw [← q]; exact cc.2
      · rw [if_neg z]; exact h
    exact q.2
  rw [ns_rfE]
  have a1 := (ns_rd1 hE t hr).1
  have b1 := (ns_rd1 hE t a1).1
  have c1 := (ns_rd1 hE t b1).1
  exact key _ c1 (key _ b1 (key _ a1 (key _ hr h0)))
/-- what is reached: what has the label of one of the given nodes -/
theorem ns_reach {A B : Nat → Nat} {m : Nat} (hE : ns_E A B m) (t : Nat) {r : Nat} (hr : r < 32) {w : Nat} (hw : w < 5) : (ns_rf A B t m r).testBit w = true ↔ ∃ v, v < 5 ∧ r.testBit v = true ∧ ns_lb A B t m v = ns_lb A B t m w := by
  obtain ⟨h1, h2, h3, h4⟩ := ns_okm hE t
  obtain ⟨f1, f2, f3⟩ := ns_rf1 hE t hr
  constructor
  · intro h
    refine ns_rf2 hE t (C := fun w => ∃ v, v < 5 ∧ r.testBit v = true ∧ ns_lb A B t m v = ns_lb A B t m w) ?_ hr ?_ w hw h
    · intro i hi ti
      have := h3 i hi ti
      show (∃ v, v < 5 ∧ r.testBit v = true ∧ ns_lb A B t m v = ns_lb A B t m (A i)) ↔ (∃ v, v < 5 ∧ r.testBit v = true ∧ ns_lb A B t m v = ns_lb A B t m (B i))
      rw [this]
    · intro v hv hrv
      exact ⟨v, hv, hrv, rfl⟩
  · rintro ⟨v, hv, hrv, e⟩
    exact (h4 (fun x => (ns_rf A B t m r).testBit x = true) f3 v w hv hw e).mp (f2 v hv hrv)
end
section
/-! what is asked of a set t of edges -/
def ns_CN (A B : Nat → Nat) (t m s : Nat) : Prop := ∀ v, v < 5 → ∀ w, w < 5 → s.testBit v = true → s.testBit w = true → ns_lb A B t m v = ns_lb A B t m w
noncomputable def ns_cn (A B : Nat → Nat) (t m s : Nat) : Bool := @decide (ns_CN A B t m s) (Classical.propDecidable _)
theorem ns_cnI (A B : Nat → Nat) (t m s : Nat) : ns_cn A B t m s = true ↔ ns_CN A B t m s := @decide_eq_true_iff _ (Classical.propDecidable _)
theorem ns_e0 : ∀ s, s < 32 → (s &&& (32 - s)) < 32 := by decide +kernel
theorem ns_e1 : ∀ s, s < 32 → nI s &&& (-(nI s)) = nI (s &&& (32 - s)) := by decide +kernel
theorem ns_e2 : ∀ s, s < 32 → ∀ r, r < 32 → ((nI s &&& (nI r ^^^ (-1))) = 0 ↔ ∀ v, v < 5 → s.testBit v = true → r.testBit v = true) := by decide +kernel
theorem ns_e3 : ∀ r, r < 32 → ∀ v, v < 5 → ((nI r &&& (nI (2 ^ v) - 1)) = 0 ↔ ∀ w, w < v → r.testBit w = false) := by decide +kernel
theorem ns_e4 : ∀ s, s < 32 → s ≠ 0 → ∃ l, l < 5 ∧ s.testBit l = true ∧ ∀ v, v < 5 → (s &&& (32 - s)).testBit v = decide (v = l) := by
  have h : ∀ s, s < 32 → s ≠ 0 → (List.range 5).any (fun l => s.testBit l && (List.range 5).all (fun v => (s &&& (32 - s)).testBit v == decide (v = l))) = true := by decide +kernel
  intro s hs h0
  have := h s hs h0
  rw [List.any_eq_true] at this
  obtain ⟨l, hl, h2⟩ := this
  rw [Bool.and_eq_true, List.all_eq_true] at h2
  exact ⟨l, List.mem_range.mp hl, h2.1, fun v hv => by have := h2.2 v (List.mem_range.mpr hv); exact eq_of_beq this⟩
theorem ns_cnX {A B : Nat → Nat} {m : Nat} (hE : ns_E A B m) (t : Nat) {s : Nat} (hs : s < 32) : (nI s &&& (nI (ns_rf A B t m (s &&& (32 - s))) ^^^ (-1))) = 0 ↔ ns_cn A B t m s = true := by
  have h0 := ns_e0 s hs
  rw [ns_e2 s hs _ (ns_rf1 hE t h0).1]
  rw [ns_cnI]
  unfold ns_CN
  by_cases z : s = 0
  · subst z
    constructor
    · intro _ v _ w _ h; rw [Nat.zero_testBit] at h; exact absurd h (by decide)
    · intro _ v _ h; rw [Nat.zero_testBit] at h; exact absurd h (by decide)
  · obtain ⟨l, hl, sl, hv⟩ := ns_e4 s hs z
    have key : ∀ v, v < 5 → ((ns_rf A B t m (s &&& (32 - s))).testBit v = true ↔ ns_lb A B t m l = ns_lb A B t m v) := by
      intro v h5
      rw [ns_reach hE t h0 h5]
      constructor
      · rintro ⟨x, hx, h1, h2⟩
        rw [hv x hx, decide_eq_true_iff] at h1
        rw [← h1]; exact h2
      · intro h
        exact ⟨l, hl, by rw [hv l hl]; exact decide_eq_true rfl, h⟩
    constructor
    · intro h v h5 w h6 sv sw
      exact ((key v h5).mp (h v h5 sv)).symm.trans ((key w h6).mp (h w h6 sw))
    · intro h v h5 sv
      exact (key v h5).mpr (h l hl v h5 sl sv)
/-! the number of parts -/
def ns_f1 (L : Nat → Nat) (v : Nat) : Nat := if L v = v then 1 else 0
def ns_cp (L : Nat → Nat) : Nat := ns_fo (fun n v => n + ns_f1 L v) 5 0 0
theorem ns_cpE (L : Nat → Nat) : ns_cp L = 0 + ns_f1 L 0 + ns_f1 L 1 + ns_f1 L 2 + ns_f1 L 3 + ns_f1 L 4 := rfl
theorem ns_cpL (L : Nat → Nat) : ns_cp L ≤ 5 := by
  have h : ∀ v, ns_f1 L v ≤ 1 := by intro v; unfold ns_f1; split <;> omega
  have := h 0
  have := h 1
  have := h 2
  have := h 3
  have := h 4
  rw [ns_cpE]; omega
theorem ns_partX {A B : Nat → Nat} {m : Nat} (hE : ns_E A B m) (t : Nat) {v : Nat} (hv : v < 5) : (nI (ns_rf A B t m (2 ^ v)) &&& (nI (2 ^ v) - 1)) = 0 ↔ ns_lb A B t m v = v := by
  have h0 : 2 ^ v < 32 := (by decide +kernel : ∀ v, v < 5 → 2 ^ v < 32) v hv
  rw [ns_e3 _ (ns_rf1 hE t h0).1 v hv]
  obtain ⟨h1, h2, h3, h4⟩ := ns_okm hE t
  have key : ∀ w, w < 5 → ((ns_rf A B t m (2 ^ v)).testBit w = true ↔ ns_lb A B t m v = ns_lb A B t m w) := by
    intro w hw
    rw [ns_reach hE t h0 hw]
    constructor
    · rintro ⟨x, hx, h1, h2⟩
      rw [Nat.testBit_two_pow, decide_eq_true_iff] at h1
      rw [h1]; exact h2
    · intro h
      exact ⟨v, hv, by rw [Nat.testBit_two_pow]; exact decide_eq_true rfl, h⟩
  constructor
  · intro h
    by_cases e : ns_lb A B t m v = v
    · exact e
    · have l1 := h1 v hv
      have l2 := h (ns_lb A B t m v) (by omega)
      have l3 := (key (ns_lb A B t m v) (by omega)).mpr (h2 v hv).symm
      rw [l2] at l3
      exact absurd l3 (by decide)
  · intro h w hw
    cases z : (ns_rf A B t m (2 ^ v)).testBit w
    · rfl
    · have := (key w (by omega)).mp z
      have := h1 w (by omega)
      omega
/-! the connected pairs -/
def ns_pr (L : Nat → Nat) : Nat := ns_fo (fun n v => ns_fo (fun n w => if L v = L w then n + 1 else n) v 0 n) 5 0 0
def ns_prX (A B : Nat → Nat) (t m : Nat) : Nat := ns_fo (fun n v => ns_fo (fun n w => n + ((ns_rf A B t m (2 ^ v)).testBit w).toNat) (4 - v) (v + 1) n) 5 0 0
def ns_pe (L : Nat → Nat) (v w : Nat) : Nat := if L v = L w then 1 else 0
theorem ns_pairX {A B : Nat → Nat} {m : Nat} (hE : ns_E A B m) (t : Nat) : ns_prX A B t m = ns_pr (ns_lb A B t m) := by
  have key : ∀ v, v < 5 → ∀ w, w < 5 → ((ns_rf A B t m (2 ^ v)).testBit w).toNat = ns_pe (ns_lb A B t m) v w := by
    intro v hv w hw
    unfold ns_pe
    have h0 : 2 ^ v < 32 := (by decide +kernel : ∀ v, v < 5 → 2 ^ v < 32) v hv
    have q := ns_reach hE t h0 hw
    by_cases e : ns_lb A B t m v = ns_lb A B t m w
    · rw [if_pos e, q.mpr ⟨v, hv, by rw [Nat.testBit_two_pow]; exact decide_eq_true rfl, e⟩]; rfl
    · rw [if_neg e]
      cases z : (ns_rf A B t m (2 ^ v)).testBit w
      · rfl
      · obtain ⟨x, hx, h1, h2⟩ := q.mp z
        rw [Nat.testBit_two_pow, decide_eq_true_iff] at h1
        rw [← h1] at h2
        exact absurd h2 e
  have pl : ∀ (n : Nat) v w, (if ns_lb A B t m v = ns_lb A B t m w then n + 1 else n) = n + ns_pe (ns_lb A B t m) w v := by
    intro n v w
    unfold ns_pe
    by_cases e : ns_lb A B t m v = ns_lb A B t m w
    · rw [if_pos e, if_pos e.symm]
    · rw [if_neg e, if_neg (fun z => e z.symm), Nat.add_zero]
  show 0 + _ + _ + _ + _ + _ + _ + _ + _ + _ + _ = ns_pr (ns_lb A B t m)
  rw [key 0 (by decide) 1 (by decide), key 0 (by decide) 2 (by decide), key 0 (by decide) 3 (by decide), key 0 (by decide) 4 (by decide), key 1 (by decide) 2 (by decide), key 1 (by decide) 3 (by decide), key 1 (by decide) 4 (by decide), key 2 (by decide) 3 (by decide), key 2 (by decide) 4 (by decide), key 3 (by decide) 4 (by decide)]
  unfold ns_pr
  simp only [ns_fo, pl, Nat.reduceAdd]
  omega
theorem ns_prL (L : Nat → Nat) : ns_pr L ≤ 10 := by
  have pl : ∀ (n : Nat) v w, (if L v = L w then n + 1 else n) = n + ns_pe L v w := by
    intro n v w
    unfold ns_pe
    split <;> rfl
  have pb : ∀ v w, ns_pe L v w ≤ 1 := by intro v w; unfold ns_pe; split <;> omega
  unfold ns_pr
  simp only [ns_fo, pl, Nat.reduceAdd]
  have := pb 1 0
  have := pb 2 0
  have := pb 2 1
  have := pb 3 0
  have := pb 3 1
  have := pb 3 2
  have := pb 4 0
  have := pb 4 1
  have := pb 4 2
  have := pb 4 3
  omega
/-! bits -/
theorem ns_dec (t i : Nat) : ∃ q l, l < 2 ^ i ∧ t = 2 ^ i * (2 * q + (t.testBit i).toNat) + l := by
  refine ⟨t / 2 ^ i / 2, t % 2 ^ i, Nat.mod_lt _ (Nat.two_pow_pos i), ?_⟩
  rw [Nat.toNat_testBit, Nat.div_add_mod, Nat.div_add_mod]
theorem ns_bq (q : Nat) (b : Bool) (k : Nat) : (2 * q + b.toNat).testBit k = if k = 0 then b else q.testBit (k - 1) := by
  cases k with
  | zero =>
    rw [if_pos rfl, Nat.testBit_zero]
    cases b <;> simp
  | succ k =>
    rw [if_neg (by omega), Nat.testBit_succ]
    congr 1
    cases b <;> simp <;> omega
theorem ns_addb {t i : Nat} (h : t.testBit i = false) (j : Nat) : (t + 2 ^ i).testBit j = (t.testBit j || decide (i = j)) := by
  obtain ⟨q, l, hl, e⟩ := ns_dec t i
  rw [h] at e
  have e2 : t + 2 ^ i = 2 ^ i * (2 * q + true.toNat) + l := by
    rw [e, Bool.toNat_false, Bool.toNat_true, Nat.add_zero, Nat.mul_add, Nat.mul_one]; omega
  rw [e2, Nat.testBit_two_pow_mul_add _ hl]
  conv => rhs; rw [e, Nat.testBit_two_pow_mul_add _ hl]
  by_cases c : j < i
  · rw [if_pos c, if_pos c, decide_eq_false (by omega), Bool.or_false]
  · rw [if_neg c, if_neg c, ns_bq, ns_bq]
    by_cases d : j - i = 0
    · rw [if_pos d, if_pos d, decide_eq_true (by omega)]; rfl
    · rw [if_neg d, if_neg d, decide_eq_false (by omega), Bool.or_false]
theorem ns_subl {t i : Nat} (h : t.testBit i = true) : 2 ^ i ≤ t := Nat.ge_two_pow_of_testBit h
theorem ns_subb {t i : Nat} (h : t.testBit i = true) (j : Nat) : (t - 2 ^ i).testBit j = (t.testBit j && !decide (i = j)) := by
  obtain ⟨q, l, hl, e⟩ := ns_dec t i
  rw [h] at e
  have e2 : t - 2 ^ i = 2 ^ i * (2 * q + false.toNat) + l := by
    rw [e, Bool.toNat_false, Bool.toNat_true, Nat.mul_add, Nat.mul_one, Nat.add_right_comm, Nat.add_sub_cancel, Nat.add_zero]
  rw [e2, Nat.testBit_two_pow_mul_add _ hl]
  conv => rhs; rw [e, Nat.testBit_two_pow_mul_add _ hl]
  by_cases c : j < i
  · rw [if_pos c, if_pos c, decide_eq_false (by omega)]; simp
  · rw [if_neg c, if_neg c, ns_bq, ns_bq]
    by_cases d : j - i = 0
    · rw [if_pos d, if_pos d, decide_eq_true (by omega)]; rfl
    · rw [if_neg d, if_neg d, decide_eq_false (by omega)]; simp
end
section
/-! a set without closed way has 5 parts less one an edge -/
def ns_pp (t : Nat) : Nat → Nat
  | 0 => 0
  | j + 1 => ns_pp t j + (t.testBit j).toNat
theorem ns_cpC {L L' : Nat → Nat} (h : ∀ v, v < 5 → L v = L' v) : ns_cp L = ns_cp L' := by
  have k : ∀ v, v < 5 → ns_f1 L v = ns_f1 L' v := by intro v hv; unfold ns_f1; rw [h v hv]
  rw [ns_cpE, ns_cpE, k 0 (by decide), k 1 (by decide), k 2 (by decide), k 3 (by decide), k 4 (by decide)]
theorem ns_cpS {L L' : Nat → Nat} {x : Nat} (hx : x < 5) (h : ∀ v, v < 5 → ns_f1 L' v + (if v = x then 1 else 0) = ns_f1 L v) : ns_cp L' + 1 = ns_cp L := by
  have h0 := h 0 (by decide)
  have h1 := h 1 (by decide)
  have h2 := h 2 (by decide)
  have h3 := h 3 (by decide)
  have h4 := h 4 (by decide)
  have c : x = 0 ∨ x = 1 ∨ x = 2 ∨ x = 3 ∨ x = 4 := by omega
  rw [ns_cpE, ns_cpE]
  rcases c with c | c | c | c | c <;> subst c <;> simp at h0 h1 h2 h3 h4 <;> omega
def ns_g1 (x v : Nat) : Nat := if x = v then 1 else 0
theorem ns_cpM {A B : Nat → Nat} {t j m : Nat} {L : Nat → Nat} (hE : ns_E A B m) (hj : j < m) (h : ns_OK A B t j L) (z : t.testBit j = true) : (L (A j) = L (B j) → ns_cp (ns_mg A B t L j) = ns_cp L) ∧ (L (A j) ≠ L (B j) → ns_cp (ns_mg A B t L j) + 1 = ns_cp L) := by
  obtain ⟨h1, h2, h3, h4⟩ := h
  obtain ⟨ha, hb⟩ := hE j hj
  have la := h1 _ ha
  have lb := h1 _ hb
  have ia := h2 _ ha
  have ib := h2 _ hb
  unfold ns_mg
  rw [if_pos z]
  constructor
  · intro e
    apply ns_cpC
    intro v hv
    rw [e, if_pos (Nat.le_refl _)]
    split
    · omega
    · rfl
  · intro e
    refine ns_cpS (x := if L (B j) ≤ L (A j) then L (A j) else L (B j)) (by split <;> omega) ?_
    intro v hv
    have hv1 := h1 v hv
    show ns_g1 (if L v = L (A j) ∨ L v = L (B j) then (if L (B j) ≤ L (A j) then L (B j) else L (A j)) else L v) v + _ = ns_g1 (L v) v
    by_cases c : L v = L (A j) ∨ L v = L (B j)
    · rw [if_pos c]
      by_cases d : L (B j) ≤ L (A j)
      · rw [if_pos d, if_pos d]
        unfold ns_g1
        by_cases x : v = L (A j)
        · rw [if_pos x, if_neg (by omega), if_pos (by rw [x]; exact ia)]
        · rw [if_neg x]
          by_cases y : L (B j) = v
          · rw [if_pos y, if_pos (by rw [← y]; exact ib)]
          · rw [if_neg y, if_neg (by omega)]
      · rw [if_neg d, if_neg d]
        unfold ns_g1
        by_cases x : v = L (B j)
        · rw [if_pos x, if_neg (by omega), if_pos (by rw [x]; exact ib)]
        · rw [if_neg x]
          by_cases y : L (A j) = v
          · rw [if_pos y, if_pos (by rw [← y]; exact ia)]
          · rw [if_neg y, if_neg (by omega)]
    · rw [if_neg c]
      have x : ¬ v = if L (B j) ≤ L (A j) then L (A j) else L (B j) := by
        intro q
        apply c
        by_cases d : L (B j) ≤ L (A j)
        · rw [if_pos d] at q; rw [q]; exact Or.inl ia
        · rw [if_neg d] at q; rw [q]; exact Or.inr ib
      rw [if_neg x, Nat.add_zero]
def ns_CW (A B : Nat → Nat) (t i : Nat) : Prop := ∀ C : Nat → Prop, (∀ k, k < i → t.testBit k = true → (C (A k) ↔ C (B k))) → (C (A i) ↔ C (B i))
theorem ns_frI {A B : Nat → Nat} {m : Nat} (hE : ns_E A B m) (t : Nat) : 5 ≤ ns_cp (ns_lb A B t m) + ns_pp t m ∧ (ns_cp (ns_lb A B t m) + ns_pp t m = 5 ∨ ∃ i, i < m ∧ t.testBit i = true ∧ ns_CW A B t i) := by
  have key := ns_foI (ns_mg A B t) (fun j L => ns_OK A B t j L ∧ 5 ≤ ns_cp L + ns_pp t j ∧ (ns_cp L + ns_pp t j = 5 ∨ ∃ i, i < j ∧ t.testBit i = true ∧ ns_CW A B t i)) m ?_ m 0 (fun v => v) (Nat.zero_add m) ⟨ns_ok0 A B t, (show 5 ≤ ns_cp (fun v => v) + 0 from by decide), Or.inl (show ns_cp (fun v => v) + 0 = 5 from by decide)⟩
  · exact key.2
  · rintro L j hj ⟨ok, h1, h2⟩
    refine ⟨ns_ok1 hE hj ok, ?_⟩
    by_cases z : t.testBit j = true
    · obtain ⟨k1, k2⟩ := ns_cpM hE hj ok z
      rw [ns_pp, z, Bool.toNat_true]
      obtain ⟨ha, hb⟩ := hE j hj
      by_cases e : L (A j) = L (B j)
      · rw [k1 e]
        exact ⟨by omega, Or.inr ⟨j, by omega, z, fun C hC => ok.2.2.2 C hC _ _ ha hb e⟩⟩
      · have := k2 e
        refine ⟨by omega, ?_⟩
        rcases h2 with h2 | ⟨i, hi, h3⟩
        · exact Or.inl (by omega)
        · exact Or.inr ⟨i, by omega, h3⟩
    · rw [ns_pp, Bool.eq_false_iff.mpr z, Bool.toNat_false, Nat.add_zero]
      unfold ns_mg
      rw [if_neg z]
      refine ⟨h1, ?_⟩
      rcases h2 with h2 | ⟨i, hi, h3⟩
      · exact Or.inl h2
      · exact Or.inr ⟨i, by omega, h3⟩
theorem ns_ppS {t i : Nat} (h : t.testBit i = true) : ∀ j, (j ≤ i → ns_pp (t - 2 ^ i) j = ns_pp t j) ∧ (i < j → ns_pp (t - 2 ^ i) j + 1 = ns_pp t j) := by
  intro j
  induction j with
  | zero => exact ⟨fun _ => rfl, fun q => absurd q (by omega)⟩
  | succ j ih =>
    rw [ns_pp, ns_pp, ns_subb h]
    constructor
    · intro q
      rw [ih.1 (by omega), decide_eq_false (by omega), Bool.not_false, Bool.and_true]
    · intro q
      by_cases e : i = j
      · subst e
        rw [ih.1 (by omega), h, decide_eq_true rfl]
        rfl
      · rw [← ih.2 (by omega), decide_eq_false e, Bool.not_false, Bool.and_true]
        omega
theorem ns_esB (A B : Nat → Nat) (i v : Nat) : (ns_es A B i).testBit v = true ↔ A i = v ∨ B i = v := by
  unfold ns_es
  rw [Nat.testBit_or, Nat.testBit_two_pow, Nat.testBit_two_pow, Bool.or_eq_true, decide_eq_true_iff, decide_eq_true_iff]
theorem ns_cnE {A B : Nat → Nat} {t m i : Nat} (ha : A i < 5) (hb : B i < 5) : ns_cn A B t m (ns_es A B i) = true ↔ ns_lb A B t m (A i) = ns_lb A B t m (B i) := by
  rw [ns_cnI]
  unfold ns_CN
  constructor
  · intro h
    exact h _ ha _ hb ((ns_esB A B i _).mpr (Or.inl rfl)) ((ns_esB A B i _).mpr (Or.inr rfl))
  · intro h v _ w _ h1 h2
    rw [ns_esB] at h1 h2
    rcases h1 with h1 | h1 <;> rcases h2 with h2 | h2 <;> rw [← h1, ← h2]
    · exact h
    · exact h.symm
theorem ns_same {L L' : Nat → Nat} (h1 : ∀ v, v < 5 → L v ≤ v) (h2 : ∀ v, v < 5 → L (L v) = L v) (h1' : ∀ v, v < 5 → L' v ≤ v) (h : ∀ v w, v < 5 → w < 5 → L v = L w → L' v = L' w) : ∀ v, v < 5 → L' v ≤ L v := by
  intro v hv
  have a := h1 v hv
  have b := h (L v) v (by omega) hv (h2 v hv)
  rw [← b]
  exact h1' (L v) (by omega)
theorem ns_forest {A B : Nat → Nat} {m : Nat} (hE : ns_E A B m) (t : Nat) : (∀ i, i < m → ¬ (t.testBit i = true ∧ ns_cn A B (t - 2 ^ i) m (ns_es A B i) = true)) ↔ ns_cp (ns_lb A B t m) + ns_pp t m = 5 := by
  constructor
  · intro h
    rcases (ns_frI hE t).2 with e | ⟨i, hi, ti, cw⟩
    · exact e
    · exfalso
      obtain ⟨ha, hb⟩ := hE i hi
      refine h i hi ⟨ti, (ns_cnE ha hb).mpr ?_⟩
      have ok := ns_okm hE (t - 2 ^ i)
      have q := cw (fun v => ns_lb A B (t - 2 ^ i) m v = ns_lb A B (t - 2 ^ i) m (A i)) ?_
      · exact (q.mp rfl).symm
      · intro k hk tk
        have := ok.2.2.1 k (by omega) (by rw [ns_subb ti, tk, decide_eq_false (by omega)]; rfl)
        rw [this]
  · rintro e i hi ⟨ti, h⟩
    obtain ⟨ha, hb⟩ := hE i hi
    rw [ns_cnE ha hb] at h
    have ok := ns_okm hE t
    have ok' := ns_okm hE (t - 2 ^ i)
    have f1 : ∀ v w, v < 5 → w < 5 → ns_lb A B t m v = ns_lb A B t m w → ns_lb A B (t - 2 ^ i) m v = ns_lb A B (t - 2 ^ i) m w := by
      intro v w hv hw q
      refine (ok.2.2.2 (fun x => ns_lb A B (t - 2 ^ i) m x = ns_lb A B (t - 2 ^ i) m w) ?_ v w hv hw q).mpr rfl
      intro k hk tk
      by_cases z : k = i
      · rw [z, h]
      · rw [ok'.2.2.1 k hk (by rw [ns_subb ti, tk, decide_eq_false (by omega)]; rfl)]
    have f2 : ∀ v w, v < 5 → w < 5 → ns_lb A B (t - 2 ^ i) m v = ns_lb A B (t - 2 ^ i) m w → ns_lb A B t m v = ns_lb A B t m w := by
      intro v w hv hw q
      refine (ok'.2.2.2 (fun x => ns_lb A B t m x = ns_lb A B t m w) ?_ v w hv hw q).mpr rfl
      intro k hk tk
      rw [ns_subb ti, Bool.and_eq_true] at tk
      rw [ok.2.2.1 k hk tk.1]
    have g1 := ns_same ok.1 ok.2.1 ok'.1 f1
    have g2 := ns_same ok'.1 ok'.2.1 ok.1 f2
    have g := ns_cpC (fun v hv => Nat.le_antisymm (g2 v hv) (g1 v hv))
    have b1 := (ns_frI hE (t - 2 ^ i)).1
    have b2 := (ns_ppS ti m).2 hi
    omega
end
section
/-! X's own methods -/
def ns_R (m : Nat) (F S ho : Nat → Int32) (A B : Nat → Nat) : Prop := m ≤ 12 ∧ ∀ i, i < m → F i = nI (A i) ∧ A i < 5 ∧ S i = nI (B i) ∧ B i < 5 ∧ (ho i = 0 ∨ ho i = 1 ∨ ho i = 2)
theorem ns_RE {m : Nat} {F S ho : Nat → Int32} {A B : Nat → Nat} (h : ns_R m F S ho A B) : ns_E A B m := fun i hi => ⟨(h.2 i hi).2.1, (h.2 i hi).2.2.2.1⟩
theorem ns_nx {P : Int32 → Prop} {j : Nat} (h : P (nI (j + 1))) : ∀ y, y = nI j + 1 → P y := by
  intro y e
  rw [e, nI_1]
  exact h
theorem ns_n0 {x : Nat} (h : x < 2 ^ 31) : nI x = 0 ↔ x = 0 := by
  rw [← nI_0]
  exact nI_eq h (by decide)
theorem ns_xhas {post : Int32 → Prop} {t i : Nat} (ht : t < 2 ^ 31) (hi : i < 32) (h : post (ns_b (t.testBit i))) : wpX_has post (nI t) (nI i) := by
  unfold wpX_has
  rw [ns_bit ht hi]
  cases e : t.testBit i <;> rw [e] at h
  · exact br_f (by decide) h
  · exact br_t (by decide) h
theorem ns_m31 {m : Nat} (h : m ≤ 12) : m < 2 ^ 31 := by omega
theorem ns_esL {A B : Nat → Nat} {i m : Nat} (hE : ns_E A B m) (hi : i < m) : ns_es A B i < 32 := by
  have h := ns_d2 0 (by decide) _ (hE i hi).1 _ (hE i hi).2
  rw [Nat.zero_or] at h
  exact h
theorem ns_xends {post : Int32 → Prop} {m i : Nat} {F S sh ho : Nat → Int32} {A B : Nat → Nat} (hR : ns_R m F S ho A B) (hi : i < m) (h : post (nI (ns_es A B i))) : wpX_endsOf post (nI m, F, S, sh, ho) (nI i) := by
  unfold wpX_endsOf
  dsimp only
  have hm := hR.1
  have hr := hR.2 i hi
  refine ⟨vp_in_nI (by omega) (by decide), vp_in_nI (by omega) (by decide), ?_⟩
  rw [nI_clamp (by omega), hr.1, hr.2.2.1, ns_shl (by omega), ns_shl (by omega), ns_or]
  exact h
theorem ns_xr14 {post : Int32 → Prop} {J5 : Int32 → Int32 → Prop} {x4 : Int32} {t m : Nat} {F S sh ho : Nat → Int32} {A B : Nat → Nat} (hR : ns_R m F S ho A B) (ht : t < 2 ^ 31) : ∀ d j r, j + d = m → J5 (nI (ns_fo (ns_rs A B t) d j r)) (x4 + 1) → r < 32 → wX_reachedFrom_14 post J5 (nI t) x4 (nI m) F S sh ho (d + 1) (nI r) (nI j) := by
  have hm := hR.1
  have hE := ns_RE hR
  refine ns_loop (fun n r j => r < 32 → wX_reachedFrom_14 post J5 (nI t) x4 (nI m) F S sh ho n (nI r) (nI j)) (ns_rs A B t) (fun r => J5 (nI r) (x4 + 1)) m ?_ ?_
  · intro n r h _
    exact br_t (nI_le (Nat.le_refl m) (by omega)) (nm_e h)
  · intro n r j hj h hr
    have h1 := h (ns_rsB hE hj hr).1
    refine br_f (nI_ge hj (by omega)) (ns_xends hR hj (ns_xhas ht (by omega) (ns_br (fun z => ns_nx ?_) (fun z => ns_if (d := (r &&& ns_es A B j) = 0) ?_ (fun q => ns_nx ?_) (fun q => nm_r (ns_or _ _) (ns_nx ?_))))))
    · have e : ns_rs A B t r j = r := if_neg (fun q => by rw [z] at q; exact absurd q.1 (by decide))
      rw [e] at h1
      exact h1
    · rw [nx_and]
      exact ns_n0 (Nat.lt_of_le_of_lt Nat.and_le_left (by omega))
    · have e : ns_rs A B t r j = r := if_neg (fun w => w.2 q)
      rw [e] at h1
      exact h1
    · have e : ns_rs A B t r j = r ||| ns_es A B j := if_pos ⟨z, q⟩
      rw [e] at h1
      exact h1
theorem ns_xrf {post : Int32 → Prop} {t m s : Nat} {F S sh ho : Nat → Int32} {A B : Nat → Nat} (hR : ns_R m F S ho A B) (ht : t < 2 ^ 31) (hs : s < 32) (h : post (nI (ns_rf A B t m s))) : wpX_reachedFrom post (nI m, F, S, sh, ho) (nI s) (nI t) := by
  unfold wpX_reachedFrom
  dsimp only
  refine ⟨4 + 1, ?_⟩
  refine ns_loop (fun n r j => r < 32 → wX_reachedFrom_5 post (nI t) (nI m) F S sh ho n (nI r) (nI j)) (fun r _ => ns_rd A B t m r) (fun r => post (nI r)) 5 ?_ ?_ 4 1 s rfl h hs
  · intro n r h _
    exact br_t (nI_le (b := 5) (Nat.le_refl 5) (by decide)) h
  · intro n r j hj h hr
    refine br_f (nI_ge (b := 5) hj (by decide)) ⟨m + 1, ns_xr14 hR ht m 0 r (Nat.zero_add m) ?_ hr⟩
    rw [nI_1]
    exact h (ns_rd1 (ns_RE hR) t hr).1
theorem ns_xcn {post : Int32 → Prop} {t m s : Nat} {F S sh ho : Nat → Int32} {A B : Nat → Nat} (hR : ns_R m F S ho A B) (ht : t < 2 ^ 31) (hs : s < 32) (h : post (ns_b (ns_cn A B t m s))) : wpX_connects post (nI m, F, S, sh, ho) (nI s) (nI t) := by
  unfold wpX_connects
  dsimp only
  refine nm_r (ns_e1 s hs) (ns_xrf hR ht (ns_e0 s hs) (ns_if (ns_cnX (ns_RE hR) t hs) (fun q => ?_) (fun q => ?_)))
  · rw [q] at h; exact h
  · rw [Bool.eq_false_iff.mpr q] at h; exact h
def ns_sc (ho : Nat → Int32) (t : Nat) (lo : Int32) (j : Nat) : Bool := decide (nI j = lo) || (decide (ho j = 2) || decide (ho j = ns_b (t.testBit j)))
def ns_st (ho : Nat → Int32) (m t : Nat) (lo : Int32) : Bool := ns_all (ns_sc ho t lo) m 0
theorem ns_xst {post : Int32 → Prop} {t m : Nat} {lo : Int32} {F S sh ho : Nat → Int32} (hm : m ≤ 12) (ht : t < 2 ^ 31) (h : post (ns_b (ns_st ho m t lo))) : wpX_isState post (nI m, F, S, sh, ho) (nI t) lo := by
  unfold wpX_isState
  dsimp only
  refine ⟨m + 1, ?_⟩
  refine ns_exit (fun n j => wX_isState_2 post (nI t) lo (nI m) F S sh ho n (nI j)) (ns_sc ho t lo) (fun b => post (ns_b b)) m ?_ ?_ ?_ m 0 (Nat.zero_add m) h
  · intro n h
    exact br_t (nI_le (Nat.le_refl m) (by omega)) h
  · intro n j hj c h
    have e : (nI j).toNatClampNeg = j := nI_clamp (by omega)
    have hin : vp_in (nI j) 12 := vp_in_nI (by omega) (by decide)
    refine br_f (nI_ge hj (by omega)) (br_c (fun _ => ns_nx h) (fun h1 => ⟨hin, br_c (fun _ => ns_nx h) (fun h2 => ⟨hin, br_c (fun _ => ns_nx h) (fun h3 => ?_)⟩)⟩))
    exfalso
    rw [e] at h2 h3
    rw [ns_bit ht (by omega), ns_bn] at h3
    unfold ns_sc at c
    rw [decide_eq_false h1, decide_eq_false h2, decide_eq_false h3] at c
    exact absurd c (by decide)
  · intro n j hj c h
    have e : (nI j).toNatClampNeg = j := nI_clamp (by omega)
    have hin : vp_in (nI j) 12 := vp_in_nI (by omega) (by decide)
    unfold ns_sc at c
    rw [Bool.or_eq_false_iff, Bool.or_eq_false_iff, decide_eq_false_iff_not, decide_eq_false_iff_not, decide_eq_false_iff_not] at c
    refine br_f (nI_ge hj (by omega)) (br_f c.1 ⟨hin, br_f (by rw [e]; exact c.2.1) ⟨hin, br_f (by rw [e, ns_bit ht (by omega), ns_bn]; exact c.2.2) h⟩⟩)
def ns_ew (sh ho : Nat → Int32) (m t i : Nat) : Int32 := if m ≤ i then 16 else if ho i = 2 then (if t.testBit i = true then sh i else 16 - sh i) else 16
def ns_wg (sh ho : Nat → Int32) (m t : Nat) (lo : Int32) (p : Int64) (i : Nat) : Int64 := if nI i = lo then p else p * (ns_ew sh ho m t i).toInt64
def ns_wt (sh ho : Nat → Int32) (m t : Nat) (lo : Int32) : Int64 := ns_fo (ns_wg sh ho m t lo) 12 0 1
theorem ns_xew {post : Int32 → Prop} {t m i : Nat} {F S sh ho : Nat → Int32} (hm : m ≤ 12) (ht : t < 2 ^ 31) (hi : i < 12) (h : post (ns_ew sh ho m t i)) : wpX_edgeWeight post (nI m, F, S, sh, ho) (nI i) (nI t) := by
  unfold wpX_edgeWeight
  dsimp only
  have e : (nI i).toNatClampNeg = i := nI_clamp (by omega)
  have hin : vp_in (nI i) 12 := vp_in_nI (by omega) (by decide)
  unfold ns_ew at h
  refine pk_le m i (fun q => ?_) (fun q => ⟨hin, br_c (fun w => ns_xhas ht (by omega) (ns_br (fun z => ⟨hin, ?_⟩) (fun z => ⟨hin, ?_⟩))) (fun w => ?_)⟩)
  · rw [if_pos q] at h; exact h
  · rw [e] at w ⊢
    rw [if_neg (by omega), if_pos w, if_neg (by rw [z]; decide)] at h; exact h
  · rw [e] at w ⊢
    rw [if_neg (by omega), if_pos w, if_pos z] at h; exact h
  · rw [e] at w
    rw [if_neg (by omega), if_neg w] at h; exact h
theorem ns_xwt {post : Int64 → Prop} {t m : Nat} {lo : Int32} {F S sh ho : Nat → Int32} (hm : m ≤ 12) (ht : t < 2 ^ 31) (h : post (ns_wt sh ho m t lo)) : wpX_weightOf post (nI m, F, S, sh, ho) (nI t) lo := by
  unfold wpX_weightOf
  dsimp only
  refine ⟨12 + 1, ?_⟩
  refine ns_loop (fun n p j => wX_weightOf_5 post (nI t) lo (nI m) F S sh ho n p (nI j)) (ns_wg sh ho m t lo) post 12 ?_ ?_ 12 0 1 rfl h
  · intro n p h
    exact br_t (nI_le (b := 12) (Nat.le_refl 12) (by decide)) h
  · intro n p j hj h
    refine br_f (nI_ge (b := 12) hj (by decide)) (br_c (fun q => ns_nx ?_) (fun q => ns_xew hm ht hj (nm_e (ns_nx ?_))))
    · unfold ns_wg at h
      rw [if_pos q] at h; exact h
    · unfold ns_wg at h
      rw [if_neg q] at h; exact h
theorem ns_ppF (t : Nat) (e : Nat) : ns_fo (fun n i => n + (t.testBit i).toNat) e 0 0 = ns_pp t e :=
  ns_foI (fun n i => n + (t.testBit i).toNat) (fun j n => n = ns_pp t j) e (fun a j _ h => by rw [h]; rfl) e 0 0 (Nat.zero_add e) rfl
theorem ns_ppL (t : Nat) : ∀ j, ns_pp t j ≤ j := by
  intro j
  induction j with
  | zero => exact Nat.le_refl 0
  | succ j ih =>
    rw [ns_pp]
    have := Bool.toNat_le (t.testBit j)
    omega
theorem ns_xsz {post : Int32 → Prop} {t : Nat} (ht : t < 2 ^ 31) (h : post (nI (ns_pp t 12))) : wpX_sizeOf post (nI t) := by
  unfold wpX_sizeOf
  refine ⟨12 + 1, ?_⟩
  refine ns_loop (fun n p j => wX_sizeOf_4 post (nI t) n (nI p) (nI j)) (fun n i => n + (t.testBit i).toNat) (fun p => post (nI p)) 12 ?_ ?_ 12 0 0 rfl (by rw [ns_ppF]; exact h)
  · intro n p h
    exact br_t (nI_le (b := 12) (Nat.le_refl 12) (by decide)) h
  · intro n p j hj h
    refine br_f (nI_ge (b := 12) hj (by decide)) (nm_r ?_ (ns_nx h))
    rw [ns_bit ht (by omega), nI_add]
theorem ns_2v {v : Nat} (hv : v < 5) : 2 ^ v < 32 := (by decide +kernel : ∀ v, v < 5 → 2 ^ v < 32) v hv
theorem ns_xpt {post : Int32 → Prop} {t m : Nat} {F S sh ho : Nat → Int32} {A B : Nat → Nat} (hR : ns_R m F S ho A B) (ht : t < 2 ^ 31) (h : post (nI (ns_cp (ns_lb A B t m)))) : wpX_partsOf post (nI m, F, S, sh, ho) (nI t) := by
  unfold wpX_partsOf
  dsimp only
  refine ⟨5 + 1, ?_⟩
  refine ns_loop (fun n p j => wX_partsOf_4 post (nI t) (nI m) F S sh ho n (nI p) (nI j)) (fun n v => n + ns_f1 (ns_lb A B t m) v) (fun p => post (nI p)) 5 ?_ ?_ 5 0 0 rfl h
  · intro n p h
    exact br_t (nI_le (b := 5) (Nat.le_refl 5) (by decide)) h
  · intro n p j hj h
    refine br_f (nI_ge (b := 5) hj (by decide)) (nm_r (e' := nI (2 ^ j) - 1) (by rw [ns_shl (by omega)]) ?_)
    rw [ns_shl (by omega)]
    refine ns_xrf hR ht (ns_2v hj) (ns_if (ns_partX (ns_RE hR) t hj) (fun q => nm_r (nI_1 p) (ns_nx ?_)) (fun q => ns_nx ?_))
    · have e : ns_f1 (ns_lb A B t m) j = 1 := if_pos q
      rw [e] at h; exact h
    · have e : ns_f1 (ns_lb A B t m) j = 0 := if_neg q
      rw [e] at h; exact h
theorem ns_xpr {post : Int32 → Prop} {t m : Nat} {F S sh ho : Nat → Int32} {A B : Nat → Nat} (hR : ns_R m F S ho A B) (ht : t < 2 ^ 31) (h : post (nI (ns_pr (ns_lb A B t m)))) : wpX_pairsOf post (nI m, F, S, sh, ho) (nI t) := by
  unfold wpX_pairsOf
  dsimp only
  rw [← ns_pairX (ns_RE hR)] at h
  refine ⟨5 + 1, ?_⟩
  refine ns_loop (fun n p j => wX_pairsOf_4 post (nI t) (nI m) F S sh ho n (nI p) (nI j)) (fun n v => ns_fo (fun n w => n + ((ns_rf A B t m (2 ^ v)).testBit w).toNat) (4 - v) (v + 1) n) (fun p => post (nI p)) 5 ?_ ?_ 5 0 0 rfl h
  · intro n p h
    exact br_t (nI_le (b := 5) (Nat.le_refl 5) (by decide)) h
  · intro n p j hj h
    refine br_f (nI_ge (b := 5) hj (by decide)) ?_
    rw [ns_shl (by omega)]
    refine ns_xrf hR ht (ns_2v hj) (ns_nx ⟨4 - j + 1, ?_⟩)
    have hr := (ns_rf1 (ns_RE hR) t (ns_2v hj)).1
    refine ns_loop (fun k p o => wX_pairsOf_24 post (wX_pairsOf_4 post (nI t) (nI m) F S sh ho n) (nI t) (nI j) (nI (ns_rf A B t m (2 ^ j))) (nI m) F S sh ho k (nI p) (nI o)) (fun n w => n + ((ns_rf A B t m (2 ^ j)).testBit w).toNat) (fun p => wX_pairsOf_4 post (nI t) (nI m) F S sh ho n (nI p) (nI (j + 1))) 5 ?_ ?_ (4 - j) (j + 1) p (by omega) h
    · intro k p h
      exact br_t (nI_le (b := 5) (Nat.le_refl 5) (by decide)) (ns_nx h)
    · intro k p o ho h
      refine br_f (nI_ge (b := 5) ho (by decide)) (nm_r ?_ (ns_nx h))
      rw [ns_bit (by omega) (by omega), nI_add]
end
section
/-! X: least cuts, trees, closed ways, colours, powers -/
theorem ns_full {m : Nat} (hm : m ≤ 12) : 2 ^ m ≤ 4096 := ns_p2 (i := m) (j := 12) hm
theorem ns_fullI {m : Nat} (hm : m ≤ 12) : ((1 : Int32) <<< (nI m &&& 31)) - 1 = nI (2 ^ m - 1) := by
  rw [ns_shl (by omega)]
  exact pk_sub (b := 1) (Nat.two_pow_pos m)
noncomputable def ns_lcs (A B : Nat → Nat) (m s d : Nat) (i : Nat) : Bool := !(d.testBit i && !ns_cn A B (2 ^ m - 1 - d + 2 ^ i) m s)
noncomputable def ns_lc (A B : Nat → Nat) (m s d : Nat) : Bool := !ns_cn A B (2 ^ m - 1 - d) m s && ns_all (ns_lcs A B m s d) m 0
theorem ns_xlc {post : Int32 → Prop} {d m s : Nat} {F S sh ho : Nat → Int32} {A B : Nat → Nat} (hR : ns_R m F S ho A B) (hd : d < 2 ^ m) (hs : s < 32) (h : post (ns_b (ns_lc A B m s d))) : wpX_isLeastCut post (nI m, F, S, sh, ho) (nI s) (nI d) := by
  have hm := hR.1
  have hf := ns_full hm
  unfold wpX_isLeastCut
  dsimp only
  refine nm_r (e' := nI (2 ^ m - 1 - d)) (by rw [ns_fullI hm, pk_sub (by omega)]) (ns_xcn hR (by omega) hs (ns_br (fun z => ⟨m + 1, ?_⟩) (fun z => ?_)))
  · have h2 : post (ns_b (ns_all (ns_lcs A B m s d) m 0)) := by
      unfold ns_lc at h; rw [z] at h; exact h
    refine ns_exit (fun n j => wX_isLeastCut_25 post (nI s) (nI d) (nI (2 ^ m - 1 - d)) (nI m) F S sh ho n (nI j)) (ns_lcs A B m s d) (fun b => post (ns_b b)) m ?_ ?_ ?_ m 0 (Nat.zero_add m) h2
    · intro n h
      exact br_t (nI_le (Nat.le_refl m) (by omega)) h
    · intro n j hj c h
      have hp := ns_p2 (i := j) (j := 12) (by omega)
      refine br_f (nI_ge hj (by omega)) (ns_xhas (by omega) (by omega) (ns_br (fun z1 => ns_nx h) (fun z1 => ?_)))
      rw [ns_shl (by omega), nI_add]
      refine ns_xcn hR (by omega) hs (ns_br (fun z2 => ?_) (fun z2 => ns_nx h))
      unfold ns_lcs at c
      rw [z1, z2] at c
      exact absurd c (by decide)
    · intro n j hj c h
      have hp := ns_p2 (i := j) (j := 12) (by omega)
      unfold ns_lcs at c
      rw [Bool.not_eq_false', Bool.and_eq_true, Bool.not_eq_true'] at c
      refine br_f (nI_ge hj (by omega)) (ns_xhas (by omega) (by omega) (ns_br (fun z1 => ?_) (fun z1 => ?_)))
      · rw [c.1] at z1; exact absurd z1 (by decide)
      · rw [ns_shl (by omega), nI_add]
        refine ns_xcn hR (by omega) hs (ns_br (fun z2 => h) (fun z2 => ?_))
        rw [c.2] at z2; exact absurd z2 (by decide)
  · unfold ns_lc at h; rw [z] at h; exact h
noncomputable def ns_trs (A B : Nat → Nat) (m t : Nat) (i : Nat) : Bool := !(t.testBit i && ns_cn A B (t - 2 ^ i) m 31)
noncomputable def ns_tr (A B : Nat → Nat) (m t : Nat) : Bool := ns_cn A B t m 31 && ns_all (ns_trs A B m t) m 0
theorem ns_xtr {post : Int32 → Prop} {t m : Nat} {F S sh ho : Nat → Int32} {A B : Nat → Nat} (hR : ns_R m F S ho A B) (ht : t < 2 ^ m) (h : post (ns_b (ns_tr A B m t))) : wpX_isTree post (nI m, F, S, sh, ho) (nI t) := by
  have hm := hR.1
  have hf := ns_full hm
  unfold wpX_isTree
  dsimp only
  refine ns_xcn (s := 31) hR (by omega) (by decide) (ns_br (fun z => ?_) (fun z => ⟨m + 1, ?_⟩))
  · unfold ns_tr at h; rw [z] at h; exact h
  · have h2 : post (ns_b (ns_all (ns_trs A B m t) m 0)) := by
      unfold ns_tr at h; rw [z] at h; exact h
    refine ns_exit (fun n j => wX_isTree_14 post (nI t) (nI m) F S sh ho n (nI j)) (ns_trs A B m t) (fun b => post (ns_b b)) m ?_ ?_ ?_ m 0 (Nat.zero_add m) h2
    · intro n h
      exact br_t (nI_le (Nat.le_refl m) (by omega)) h
    · intro n j hj c h
      refine br_f (nI_ge hj (by omega)) (ns_xhas (by omega) (by omega) (ns_br (fun z1 => ns_nx h) (fun z1 => ?_)))
      rw [ns_shl (by omega), pk_sub (ns_subl z1)]
      refine ns_xcn (s := 31) hR (Nat.lt_of_le_of_lt (Nat.sub_le _ _) (by omega)) (by decide) (ns_br (fun z2 => ns_nx h) (fun z2 => ?_))
      unfold ns_trs at c
      rw [z1, z2] at c
      exact absurd c (by decide)
    · intro n j hj c h
      unfold ns_trs at c
      rw [Bool.not_eq_false', Bool.and_eq_true] at c
      refine br_f (nI_ge hj (by omega)) (ns_xhas (by omega) (by omega) (ns_br (fun z1 => ?_) (fun z1 => ?_)))
      · rw [c.1] at z1; exact absurd z1 (by decide)
      · rw [ns_shl (by omega), pk_sub (ns_subl z1)]
        refine ns_xcn (s := 31) hR (Nat.lt_of_le_of_lt (Nat.sub_le _ _) (by omega)) (by decide) (ns_br (fun z2 => ?_) (fun z2 => h))
        rw [c.2] at z2; exact absurd z2 (by decide)
noncomputable def ns_cws (A B : Nat → Nat) (m t : Nat) (i : Nat) : Bool := !(t.testBit i && ns_cn A B (t - 2 ^ i) m (ns_es A B i))
noncomputable def ns_nc (A B : Nat → Nat) (m t : Nat) : Bool := ns_all (ns_cws A B m t) m 0
theorem ns_xcw {post : Int32 → Prop} {t m : Nat} {F S sh ho : Nat → Int32} {A B : Nat → Nat} (hR : ns_R m F S ho A B) (ht : t < 2 ^ m) (h : post (ns_b (!ns_nc A B m t))) : wpX_hasClosedWay post (nI m, F, S, sh, ho) (nI t) := by
  have hm := hR.1
  have hf := ns_full hm
  have hE := ns_RE hR
  unfold wpX_hasClosedWay
  dsimp only
  refine ⟨m + 1, ?_⟩
  refine ns_exit (fun n j => wX_hasClosedWay_2 post (nI t) (nI m) F S sh ho n (nI j)) (ns_cws A B m t) (fun b => post (ns_b (!b))) m ?_ ?_ ?_ m 0 (Nat.zero_add m) h
  · intro n h
    exact br_t (nI_le (Nat.le_refl m) (by omega)) h
  · intro n j hj c h
    refine br_f (nI_ge hj (by omega)) (ns_xends hR hj (ns_xhas (by omega) (by omega) (ns_br (fun z1 => ns_nx h) (fun z1 => ?_))))
    rw [ns_shl (by omega), pk_sub (ns_subl z1)]
    refine ns_xcn hR (Nat.lt_of_le_of_lt (Nat.sub_le _ _) (by omega)) (ns_esL hE hj) (ns_br (fun z2 => ns_nx h) (fun z2 => ?_))
    unfold ns_cws at c
    rw [z1, z2] at c
    exact absurd c (by decide)
  · intro n j hj c h
    unfold ns_cws at c
    rw [Bool.not_eq_false', Bool.and_eq_true] at c
    refine br_f (nI_ge hj (by omega)) (ns_xends hR hj (ns_xhas (by omega) (by omega) (ns_br (fun z1 => ?_) (fun z1 => ?_))))
    · rw [c.1] at z1; exact absurd z1 (by decide)
    · rw [ns_shl (by omega), pk_sub (ns_subl z1)]
      refine ns_xcn hR (Nat.lt_of_le_of_lt (Nat.sub_le _ _) (by omega)) (ns_esL hE hj) (ns_br (fun z2 => ?_) (fun z2 => h))
      rw [c.2] at z2; exact absurd z2 (by decide)
def ns_co (c v : Nat) : Nat := c / 2 ^ (2 * v) % 4
theorem ns_xco {post : Int32 → Prop} {c v : Nat} (hc : c < 1024) (hv : v < 5) (h : post (nI (ns_co c v))) : wpX_colourOf post (nI v) (nI c) := by
  have e : (2 : Int32) * nI v = nI (2 * v) := pk_mul 2 v
  have e3 : nI c >>> (nI (2 * v) &&& 31) &&& 3 = nI (ns_co c v) := by
    have h2 : c / 2 ^ (2 * v) ≤ c := Nat.div_le_self _ _
    rw [pk_shrN (by omega) _ (2 * v) (s_l _ (by omega)), pk_andN (m := 3) (by omega) 2 (by decide)]
    rfl
  unfold wpX_colourOf
  rw [e, e3]
  exact h
theorem ns_coL (c v : Nat) : ns_co c v < 4 := Nat.mod_lt _ (by decide)
def ns_ub (q c : Nat) : Bool := ns_all (fun v => decide (ns_co c v < q)) 5 0
theorem ns_xub {post : Int32 → Prop} {q c : Nat} (hc : c < 1024) (hq : q ≤ 4) (h : post (ns_b (ns_ub q c))) : wpX_usesColoursBelow post (nI q) (nI c) := by
  unfold wpX_usesColoursBelow
  refine ⟨5 + 1, ?_⟩
  refine ns_exit (fun n j => wX_usesColoursBelow_2 post (nI q) (nI c) n (nI j)) (fun v => decide (ns_co c v < q)) (fun b => post (ns_b b)) 5 ?_ ?_ ?_ 5 0 rfl h
  · intro n h
    exact br_t (nI_le (b := 5) (Nat.le_refl 5) (by decide)) h
  · intro n j hj z h
    have := ns_coL c j
    rw [decide_eq_true_iff] at z
    exact br_f (nI_ge (b := 5) hj (by decide)) (ns_xco hc hj (br_t (nI_lt z (by omega)) (ns_nx h)))
  · intro n j hj z h
    have := ns_coL c j
    rw [decide_eq_false_iff_not] at z
    exact br_f (nI_ge (b := 5) hj (by decide)) (ns_xco hc hj (br_f (nI_nlt (by omega) (by omega)) h))
def ns_pe1 (A B : Nat → Nat) (f : Nat → Nat) (i : Nat) : Bool := !decide (f (A i) = f (B i))
def ns_np (A B : Nat → Nat) (m : Nat) (f : Nat → Nat) : Bool := ns_all (ns_pe1 A B f) m 0
theorem ns_xpe {post : Int32 → Prop} {c m : Nat} {F S sh ho : Nat → Int32} {A B : Nat → Nat} (hR : ns_R m F S ho A B) (hc : c < 1024) (h : post (ns_b (!ns_np A B m (ns_co c)))) : wpX_hasPlainEdge post (nI m, F, S, sh, ho) (nI c) := by
  have hm := hR.1
  unfold wpX_hasPlainEdge
  dsimp only
  refine ⟨m + 1, ?_⟩
  refine ns_exit (fun n j => wX_hasPlainEdge_2 post (nI c) (nI m) F S sh ho n (nI j)) (ns_pe1 A B (ns_co c)) (fun b => post (ns_b (!b))) m ?_ ?_ ?_ m 0 (Nat.zero_add m) h
  · intro n h
    exact br_t (nI_le (Nat.le_refl m) (by omega)) h
  · intro n j hj z h
    have hr := hR.2 j hj
    have hin : vp_in (nI j) 12 := vp_in_nI (by omega) (by decide)
    have e : (nI j).toNatClampNeg = j := nI_clamp (by omega)
    have l1 := ns_coL c (A j)
    have l2 := ns_coL c (B j)
    unfold ns_pe1 at z
    rw [Bool.not_eq_true', decide_eq_false_iff_not] at z
    refine br_f (nI_ge hj (by omega)) ⟨hin, ?_⟩
    rw [e, hr.1, hr.2.2.1]
    exact ns_xco hc hr.2.1 ⟨hin, ns_xco hc hr.2.2.2.1 (br_f (fun q => z ((nI_eq (by omega) (by omega)).mp q)) (ns_nx h))⟩
  · intro n j hj z h
    have hr := hR.2 j hj
    have hin : vp_in (nI j) 12 := vp_in_nI (by omega) (by decide)
    have e : (nI j).toNatClampNeg = j := nI_clamp (by omega)
    unfold ns_pe1 at z
    rw [Bool.not_eq_false', decide_eq_true_iff] at z
    refine br_f (nI_ge hj (by omega)) ⟨hin, ?_⟩
    rw [e, hr.1, hr.2.2.1]
    exact ns_xco hc hr.2.1 ⟨hin, ns_xco hc hr.2.2.2.1 (br_t (by rw [z]) h)⟩
def ns_pw (x e : Int32) : Int32 := ns_fo (fun p _ => p * x) e.toNatClampNeg 0 1
theorem ns_ex (e : Int32) : (e ≤ 0 ∧ e.toNatClampNeg = 0) ∨ ∃ k, k < 2 ^ 31 ∧ e = nI k := by
  by_cases h : e < 0
  · refine Or.inl ⟨Int32.le_of_lt h, ?_⟩
    have h2 : e.toInt < 0 := by rw [Int32.lt_iff_toInt_lt] at h; exact h
    show e.toInt.toNat = 0
    omega
  · exact Or.inr (nI_of h)
theorem ns_xpw {post : Int32 → Prop} {x e : Int32} (h : post (ns_pw x e)) : wpX_power post x e := by
  unfold wpX_power
  unfold ns_pw at h
  rcases ns_ex e with ⟨h0, h1⟩ | ⟨k, hk, rfl⟩
  · rw [h1] at h
    exact ⟨1, br_t h0 h⟩
  · rw [nI_clamp hk] at h
    refine ⟨k + 1, ?_⟩
    refine ns_loop (fun n p j => wX_power_4 post x (nI k) n p (nI j)) (fun p _ => p * x) post k ?_ ?_ k 0 1 (Nat.zero_add k) h
    · intro n p h
      exact br_t (nI_le (Nat.le_refl k) hk) h
    · intro n p j hj h
      exact br_f (nI_ge hj hk) (nm_e (ns_nx h))
end
section
/-! Y's own methods -/
theorem ns_yin {post : Int32 → Prop} {t i : Nat} {e : Int32} {F S sh ho pt co : Nat → Int32} (ht : t < 2 ^ 31) (hi : i < 32) (h : post (ns_b (t.testBit i))) : wpY_in post (e, F, S, sh, ho, pt, co) (nI t) (nI i) := by
  unfold wpY_in
  dsimp only
  rw [ns_bit ht hi]
  cases z : t.testBit i <;> rw [z] at h
  · exact br_f (by decide) h
  · exact br_t (by decide) h
theorem ns_y72 {post : SY → Prop} {J22 : Int32 → (Nat → Int32) → (Nat → Int32) → (Nat → Int32) → (Nat → Int32) → (Nat → Int32) → (Nat → Int32) → Prop} {t i a b c : Nat} {e : Int32} {F S sh ho co : Nat → Int32} {L : Nat → Nat} (ht : t < 2 ^ 31) (hi : i < 32) (z : t.testBit i = true) (hL : ∀ v, v < 5 → L v < 5) (ha : a < 5) (hb : b < 5)
    (hJ : ∀ pt', (∀ v, v < 5 → pt' v = nI (if L v = a ∨ L v = b then c else L v)) → J22 (nI (i + 1)) F S sh ho pt' co) :
    ∀ d k pt, k + d = 5 → (∀ v, v < 5 → pt v = nI (if v < k then (if L v = a ∨ L v = b then c else L v) else L v)) → wY_findParts_72 post J22 (nI t) (nI i) (nI a) (nI b) (nI c) e (d + 1) (nI k) F S sh ho pt co := by
  intro d
  induction d with
  | zero =>
    intro k pt hk hp
    have hk5 : k = 5 := hk
    subst hk5
    refine br_t (nI_le (b := 5) (Nat.le_refl 5) (by decide)) (ns_nx (hJ pt ?_))
    intro v hv
    rw [hp v hv, if_pos hv]
  | succ d ih =>
    intro k pt hk hp
    have hk5 : k < 5 := by omega
    have ec : (nI k).toNatClampNeg = k := nI_clamp (by omega)
    have hin : vp_in (nI k) 5 := vp_in_nI hk5 (by decide)
    have hpk : pt k = nI (L k) := by rw [hp k hk5, if_neg (Nat.lt_irrefl k)]
    have hLk := hL k hk5
    have step : ∀ x, x = (if L k = a ∨ L k = b then c else L k) → wY_findParts_72 post J22 (nI t) (nI i) (nI a) (nI b) (nI c) e (d + 1) (nI (k + 1)) F S sh ho (upd pt k (nI x)) co := by
      intro x hx
      refine ih (k + 1) _ (by omega) ?_
      intro v hv
      by_cases q : v = k
      · rw [q, pk_us, if_pos (Nat.lt_succ_self k), hx]
      · rw [pk_un q, hp v hv]
        by_cases w : v < k
        · rw [if_pos w, if_pos (show v < k + 1 by omega)]
        · rw [if_neg w, if_neg (show ¬ v < k + 1 by omega)]
    refine br_f (nI_ge (b := 5) hk5 (by decide)) (ns_yin ht hi ?_)
    rw [z]
    refine br_f (by decide) ⟨hin, ?_⟩
    rw [ec, hpk]
    refine pk_eq (L k) a (fun q => ⟨hin, nm_e (ns_nx (step c ?_))⟩) (fun q => ⟨hin, pk_eq (L k) b (fun w => ⟨hin, nm_e (ns_nx (step c ?_))⟩) (fun w => ⟨hin, hin, nm_e (ns_nx (step (L k) ?_))⟩)⟩)
    · rw [if_pos (Or.inl q)]
    · rw [if_pos (Or.inr w)]
    · rw [if_neg (fun x => x.elim q w)]
theorem ns_mgL {A B : Nat → Nat} {t j : Nat} {L : Nat → Nat} (ha : A j < 5) (hb : B j < 5) (h : ∀ v, v < 5 → L v ≤ v) : ∀ v, v < 5 → ns_mg A B t L j v ≤ v := by
  intro v hv
  have h0 := h v hv
  have h1 := h _ ha
  have h2 := h _ hb
  unfold ns_mg
  split
  · dsimp only
    split
    · split <;> omega
    · exact h0
  · exact h0
theorem ns_y22 {post : SY → Prop} {t m : Nat} {F S sh ho co : Nat → Int32} {A B : Nat → Nat} (hR : ns_R m F S ho A B) (ht : t < 2 ^ 31) : ∀ d j L, j + d = m → (∀ pt, (∀ v, v < 5 → pt v = nI (ns_fo (ns_mg A B t) d j L v)) → post (nI m, F, S, sh, ho, pt, co)) → ∀ pt, (∀ v, v < 5 → L v ≤ v) → (∀ v, v < 5 → pt v = nI (L v)) → wY_findParts_22 post (nI t) (nI m) (d + 1) (nI j) F S sh ho pt co := by
  have hm := hR.1
  refine ns_loop (fun n L j => ∀ pt, (∀ v, v < 5 → L v ≤ v) → (∀ v, v < 5 → pt v = nI (L v)) → wY_findParts_22 post (nI t) (nI m) n (nI j) F S sh ho pt co) (ns_mg A B t) (fun L => ∀ pt, (∀ v, v < 5 → pt v = nI (L v)) → post (nI m, F, S, sh, ho, pt, co)) m ?_ ?_
  · intro n L h pt _ hp
    exact br_t (nI_le (Nat.le_refl m) (by omega)) (h pt hp)
  · intro n L j hj h pt hL hp
    have hr := hR.2 j hj
    have ha := hr.2.1
    have hb := hr.2.2.2.1
    have l1 := hL _ ha
    have l2 := hL _ hb
    have hin : vp_in (nI j) 12 := vp_in_nI (by omega) (by decide)
    have e : (nI j).toNatClampNeg = j := nI_clamp (by omega)
    have eA : (nI (A j)).toNatClampNeg = A j := nI_clamp (by omega)
    have eB : (nI (B j)).toNatClampNeg = B j := nI_clamp (by omega)
    have hl5 : ∀ v, v < 5 → L v < 5 := fun v hv => Nat.lt_of_le_of_lt (hL v hv) hv
    have key : ∀ c, c = (if L (B j) ≤ L (A j) then L (B j) else L (A j)) → ∃ n72, wY_findParts_72 post (wY_findParts_22 post (nI t) (nI m) n) (nI t) (nI j) (nI (L (A j))) (nI (L (B j))) (nI c) (nI m) n72 0 F S sh ho pt co := by
      intro c hc
      by_cases z : t.testBit j = true
      · refine ⟨5 + 1, ns_y72 ht (by omega) z hl5 (by omega) (by omega) ?_ 5 0 pt rfl ?_⟩
        · intro pt' hp'
          refine h pt' (ns_mgL ha hb hL) ?_
          intro v hv
          rw [hp' v hv, hc]
          unfold ns_mg
          rw [if_pos z]
        · intro v hv
          rw [if_neg (Nat.not_lt_zero v)]
          exact hp v hv
      · refine ⟨1, br_f (nI_ge (a := 0) (b := 5) (by decide) (by decide)) (ns_yin ht (by omega) ?_)⟩
        rw [Bool.eq_false_iff.mpr z]
        refine br_t rfl (ns_nx (h pt (ns_mgL ha hb hL) ?_))
        intro v hv
        unfold ns_mg
        rw [if_neg z]
        exact hp v hv
    refine br_f (nI_ge hj (by omega)) ⟨hin, ?_⟩
    rw [e, hr.1, hr.2.2.1, eA, eB, hp _ ha, hp _ hb]
    exact ⟨vp_in_nI ha (by decide), nm_e ⟨hin, vp_in_nI hb (by decide), nm_e (pk_le (L (B j)) (L (A j)) (fun q => key _ (if_pos q).symm) (fun q => key _ (if_neg (by omega)).symm))⟩⟩
theorem ns_y2 {post : SY → Prop} {t m : Nat} {F S sh ho co : Nat → Int32} (h : ∀ pt, (∀ v, v < 5 → pt v = nI v) → ∃ n22, wY_findParts_22 post (nI t) (nI m) n22 0 F S sh ho pt co) : ∀ d k pt, k + d = 5 → (∀ v, v < k → pt v = nI v) → wY_findParts_2 post (nI t) (nI m) (d + 1) (nI k) F S sh ho pt co := by
  intro d
  induction d with
  | zero =>
    intro k pt hk hp
    have hk5 : k = 5 := hk
    subst hk5
    exact br_t (nI_le (b := 5) (Nat.le_refl 5) (by decide)) (h pt hp)
  | succ d ih =>
    intro k pt hk hp
    have hk5 : k < 5 := by omega
    have ec : (nI k).toNatClampNeg = k := nI_clamp (by omega)
    have hin : vp_in (nI k) 5 := vp_in_nI hk5 (by decide)
    refine br_f (nI_ge (b := 5) hk5 (by decide)) ⟨hin, ?_⟩
    rw [ec]
    refine nm_e (ns_nx (ih (k + 1) _ (by omega) ?_))
    intro v hv
    by_cases q : v = k
    · rw [q, pk_us]
    · rw [pk_un q]; exact hp v (by omega)
theorem ns_yfp {post : SY → Prop} {t m : Nat} {F S sh ho pt co : Nat → Int32} {A B : Nat → Nat} (hR : ns_R m F S ho A B) (ht : t < 2 ^ 31) (h : ∀ pt, (∀ v, v < 5 → pt v = nI (ns_lb A B t m v)) → post (nI m, F, S, sh, ho, pt, co)) : wpY_findParts post (nI m, F, S, sh, ho, pt, co) (nI t) := by
  unfold wpY_findParts
  dsimp only
  refine ⟨5 + 1, ns_y2 ?_ 5 0 pt rfl (fun v hv => absurd hv (Nat.not_lt_zero v))⟩
  intro pt' hp
  exact ⟨m + 1, ns_y22 hR ht m 0 (fun v => v) (Nat.zero_add m) h pt' (fun v _ => Nat.le_refl v) hp⟩
theorem ns_ycp {post : Int32 → SY → Prop} {t m : Nat} {F S sh ho pt co : Nat → Int32} {A B : Nat → Nat} (hR : ns_R m F S ho A B) (ht : t < 2 ^ 31) (h : ∀ pt, post (nI (ns_cp (ns_lb A B t m))) (nI m, F, S, sh, ho, pt, co)) : wpY_countParts post (nI m, F, S, sh, ho, pt, co) (nI t) := by
  unfold wpY_countParts
  dsimp only
  refine ns_yfp hR ht (fun pt' hp => ?_)
  have ok := (ns_okm (ns_RE hR) t).1
  refine Exists.intro (5 + 1) ?_
  refine ns_loop (fun n p j => wY_countParts_9 post (nI m) F S sh ho pt' co n (nI p) (nI j)) (fun n v => n + ns_f1 (ns_lb A B t m) v) (fun p => post (nI p) (nI m, F, S, sh, ho, pt', co)) 5 ?_ ?_ 5 0 0 rfl (h pt')
  · intro n p h
    exact br_t (nI_le (b := 5) (Nat.le_refl 5) (by decide)) h
  · intro n p j hj h
    have := ok j hj
    refine br_f (nI_ge (b := 5) hj (by decide)) ⟨vp_in_nI hj (by decide), ?_⟩
    rw [nI_clamp (by omega), hp j hj]
    refine pk_eq (ns_lb A B t m j) j (fun q => nm_r (nI_1 p) (ns_nx ?_)) (fun q => ns_nx ?_)
    · have e : ns_f1 (ns_lb A B t m) j = 1 := if_pos q
      rw [e] at h; exact h
    · have e : ns_f1 (ns_lb A B t m) j = 0 := if_neg q
      rw [e] at h; exact h
theorem ns_ycn {post : Int32 → SY → Prop} {t m s : Nat} {F S sh ho pt co : Nat → Int32} {A B : Nat → Nat} (hR : ns_R m F S ho A B) (ht : t < 2 ^ 31) (hs : s < 32) (h : ∀ pt, post (ns_b (ns_cn A B t m s)) (nI m, F, S, sh, ho, pt, co)) : wpY_connects post (nI m, F, S, sh, ho, pt, co) (nI t) (nI s) := by
  unfold wpY_connects
  dsimp only
  refine ns_yfp hR ht (fun pt' hp => ?_)
  have ok := (ns_okm (ns_RE hR) t).1
  have h := h pt'
  have key : ∀ d k (fi : Int32), k + d = 5 → ((fi = -1 ∧ ∀ v, v < k → s.testBit v = false) ∨ (∃ u, u < k ∧ s.testBit u = true ∧ fi = nI (ns_lb A B t m u) ∧ ∀ v, v < k → s.testBit v = true → ns_lb A B t m v = ns_lb A B t m u)) → wY_connects_10 post (nI s) (nI m) F S sh ho pt' co (d + 1) fi (nI k) := by
    intro d
    induction d with
    | zero =>
      intro k fi hk hI
      have hk5 : k = 5 := hk
      subst hk5
      have c : ns_cn A B t m s = true := by
        rw [ns_cnI]
        intro v hv w hw sv sw
        rcases hI with ⟨_, hI⟩ | ⟨u, _, _, _, hI⟩
        · rw [hI v hv] at sv; exact absurd sv (by decide)
        · exact (hI v hv sv).trans (hI w hw sw).symm
      rw [c] at h
      exact br_t (nI_le (b := 5) (Nat.le_refl 5) (by decide)) h
    | succ d ih =>
      intro k fi hk hI
      have hk5 : k < 5 := by omega
      have ec : (nI k).toNatClampNeg = k := nI_clamp (by omega)
      have hin : vp_in (nI k) 5 := vp_in_nI hk5 (by decide)
      have lk := ok k hk5
      refine br_f (nI_ge (b := 5) hk5 (by decide)) (ns_yin (by omega) (by omega) (ns_br (fun z => ns_nx (ih (k + 1) fi (by omega) ?_)) (fun z => ?_)))
      · rcases hI with ⟨h1, h2⟩ | ⟨u, h1, h2, h3, h4⟩
        · refine Or.inl ⟨h1, fun v hv => ?_⟩
          by_cases q : v = k
          · rw [q]; exact z
          · exact h2 v (by omega)
        · refine Or.inr ⟨u, by omega, h2, h3, fun v hv sv => ?_⟩
          by_cases q : v = k
          · rw [q, z] at sv; exact absurd sv (by decide)
          · exact h4 v (by omega) sv
      · rw [ec, hp k hk5]
        rcases hI with ⟨h1, h2⟩ | ⟨u, h1, h2, h3, h4⟩
        · refine br_t (by rw [h1]; decide) ⟨hin, nm_e (ns_nx (ih (k + 1) _ (by omega) (Or.inr ⟨k, by omega, z, rfl, fun v hv sv => ?_⟩)))⟩
          by_cases q : v = k
          · rw [q]
          · rw [h2 v (by omega)] at sv; exact absurd sv (by decide)
        · have lu := ok u (by omega)
          rw [h3]
          refine br_f (nI_pos (by omega)) ⟨hin, pk_eq (ns_lb A B t m k) (ns_lb A B t m u) (fun q => ⟨hin, nm_e (ns_nx (ih (k + 1) _ (by omega) (Or.inr ⟨k, by omega, z, rfl, fun v hv sv => ?_⟩)))⟩) (fun q => ?_)⟩
          · by_cases w : v = k
            · rw [w]
            · rw [q]; exact h4 v (by omega) sv
          · have c : ns_cn A B t m s = false := by
              rw [Bool.eq_false_iff]
              intro c
              rw [ns_cnI] at c
              exact q (c k hk5 u (by omega) z h2)
            rw [c] at h
            exact h
  exact Exists.intro (5 + 1) (key 5 0 (-1) rfl (Or.inl ⟨rfl, fun v hv => absurd hv (Nat.not_lt_zero v)⟩))
end
section
/-! Y: states, weights, sizes, pairs, cuts, trees, powers -/
theorem ns_ysets {post : Int32 → Prop} {m : Nat} {F S sh ho pt co : Nat → Int32} (hm : m ≤ 12) (h : post (nI (2 ^ m))) : wpY_sets post (nI m, F, S, sh, ho, pt, co) := by
  unfold wpY_sets
  dsimp only
  rw [ns_shl (by omega)]
  exact h
theorem ns_nar (b : Bool) : narrow .boolean (.int (ns_b b)) = .int (ns_b b) := by
  cases b
  · exact lw_bz_n 0
  · exact lw_bz_n 1
theorem ns_y51 {post : Int32 → Prop} {J5 : Int32 → Int32 → Prop} {t j : Nat} {lo e : Int32} {a : Bool} {F S sh ho pt co : Nat → Int32} (ht : t < 2 ^ 31) (hj : j < 32) (h : J5 (ns_b (decide (ns_b a = ns_b (t.testBit j)))) (nI (j + 1))) : wY_isState_51 post J5 (nI t) lo (nI j) (ns_b a) e F S sh ho pt co := by
  unfold wY_isState_51
  refine ns_yin ht hj (br_c (fun q => ns_nx ?_) (fun q => ns_nx ?_))
  · rw [decide_eq_true q] at h; exact h
  · rw [decide_eq_false q] at h; exact h
theorem ns_yst {post : Int32 → Prop} {t m : Nat} {lo : Int32} {F S sh ho pt co : Nat → Int32} {A B : Nat → Nat} (hR : ns_R m F S ho A B) (ht : t < 2 ^ 31) (h : post (ns_b (ns_st ho m t lo))) : wpY_isState post (nI m, F, S, sh, ho, pt, co) (nI t) lo := by
  have hm := hR.1
  unfold wpY_isState
  dsimp only
  refine ⟨m + 1, ?_⟩
  have h0 : post (ns_b (ns_fo (fun a j => a && ns_sc ho t lo j) m 0 true)) := by
    rw [ns_allA]; exact h
  refine ns_loop (fun n (a : Bool) j => wY_isState_5 post (nI t) lo (nI m) F S sh ho pt co n (ns_b a) (nI j)) (fun a j => a && ns_sc ho t lo j) (fun a => post (ns_b a)) m ?_ ?_ m 0 true (Nat.zero_add m) h0
  · intro n a h
    exact br_t (nI_le (Nat.le_refl m) (by omega)) ⟨ns_nar a, h⟩
  · intro n a j hj h
    have e : (nI j).toNatClampNeg = j := nI_clamp (by omega)
    have hin : vp_in (nI j) 12 := vp_in_nI (by omega) (by decide)
    have hh := (hR.2 j hj).2.2.2.2
    refine br_f (nI_ge hj (by omega)) (ns_br (fun z => ns_nx ?_) (fun z => ?_))
    · rw [z] at h; exact h
    · rw [z, Bool.true_and] at h
      unfold ns_sc at h
      refine br_c (fun q => ns_nx ?_) (fun q => ⟨hin, ?_⟩)
      · rw [decide_eq_true q] at h; exact h
      · rw [decide_eq_false q, Bool.false_or] at h
        rw [e]
        refine br_c (fun w => ns_nx ?_) (fun w => ⟨hin, ?_⟩)
        · rw [decide_eq_true w] at h; exact h
        · rw [decide_eq_false w, Bool.false_or] at h
          refine br_c (fun x => ns_y51 (a := true) ht (by omega) ?_) (fun x => ns_y51 (a := false) ht (by omega) ?_)
          · rw [x] at h; exact h
          · have x0 : ho j = 0 := by
              rcases hh with hh | hh | hh
              · exact hh
              · exact absurd hh x
              · exact absurd hh w
            rw [x0] at h; exact h
theorem ns_y71 {post : Int64 → Prop} {J5 : Int64 → Int32 → Prop} {x1 lo e : Int32} {p f : Int64} {j : Nat} {F S sh ho pt co : Nat → Int32} (h : J5 (if nI j = lo then p else p * f) (nI (j + 1))) : wY_weightOf_71 post J5 x1 lo p (nI j) f e F S sh ho pt co := by
  unfold wY_weightOf_71
  refine br_c (fun q => ns_nx ?_) (fun q => nm_e (ns_nx ?_))
  · rw [if_pos q] at h; exact h
  · rw [if_neg q] at h; exact h
theorem ns_16 : (16 : Int32).toInt64 = 16 := by decide
theorem ns_ywt {post : Int64 → Prop} {t m : Nat} {lo : Int32} {F S sh ho pt co : Nat → Int32} (hm : m ≤ 12) (ht : t < 2 ^ 31) (h : post (ns_wt sh ho m t lo)) : wpY_weightOf post (nI m, F, S, sh, ho, pt, co) (nI t) lo := by
  unfold wpY_weightOf
  dsimp only
  refine ⟨12 + 1, ?_⟩
  refine ns_loop (fun n p j => wY_weightOf_5 post (nI t) lo (nI m) F S sh ho pt co n p (nI j)) (ns_wg sh ho m t lo) post 12 ?_ ?_ 12 0 1 rfl h
  · intro n p h
    exact br_t (nI_le (b := 12) (Nat.le_refl 12) (by decide)) h
  · intro n p j hj h
    have e : (nI j).toNatClampNeg = j := nI_clamp (by omega)
    have hin : vp_in (nI j) 12 := vp_in_nI (by omega) (by decide)
    unfold ns_wg ns_ew at h
    refine br_f (nI_ge (b := 12) hj (by decide)) (pk_le m j (fun q => ns_y71 ?_) (fun q => ⟨hin, ?_⟩))
    · rw [if_pos q, ns_16] at h; exact h
    · rw [if_neg (show ¬ m ≤ j by omega)] at h
      rw [e]
      refine br_c (fun w => ns_yin ht (by omega) (ns_br (fun z => ⟨hin, ns_y71 ?_⟩) (fun z => ⟨hin, ns_y71 ?_⟩))) (fun w => ns_y71 ?_)
      · rw [if_pos w, if_neg (show ¬ t.testBit j = true by rw [z]; decide)] at h; exact h
      · rw [if_pos w, if_pos z] at h; exact h
      · rw [if_neg w, ns_16] at h; exact h
theorem ns_yon {post : Int32 → Prop} {t : Nat} {e : Int32} {F S sh ho pt co : Nat → Int32} (ht : t < 2 ^ 31) (h : post (nI (ns_pp t 12))) : wpY_ones post (e, F, S, sh, ho, pt, co) (nI t) := by
  unfold wpY_ones
  dsimp only
  refine ⟨12 + 1, ?_⟩
  refine ns_loop (fun n p j => wY_ones_4 post (nI t) e F S sh ho pt co n (nI p) (nI j)) (fun n i => n + (t.testBit i).toNat) (fun p => post (nI p)) 12 ?_ ?_ 12 0 0 rfl (by rw [ns_ppF]; exact h)
  · intro n p h
    exact br_t (nI_le (b := 12) (Nat.le_refl 12) (by decide)) h
  · intro n p j hj h
    refine br_f (nI_ge (b := 12) hj (by decide)) (nm_r ?_ (ns_nx h))
    rw [ns_bit ht (by omega), nI_add]
theorem ns_ypr {post : Int32 → SY → Prop} {t m : Nat} {F S sh ho pt co : Nat → Int32} {A B : Nat → Nat} (hR : ns_R m F S ho A B) (ht : t < 2 ^ 31) (h : ∀ pt, post (nI (ns_pr (ns_lb A B t m))) (nI m, F, S, sh, ho, pt, co)) : wpY_connectedPairs post (nI m, F, S, sh, ho, pt, co) (nI t) := by
  unfold wpY_connectedPairs
  dsimp only
  refine ns_yfp hR ht (fun pt' hp => ?_)
  have ok := (ns_okm (ns_RE hR) t).1
  refine Exists.intro (5 + 1) ?_
  refine ns_loop (fun n p j => wY_connectedPairs_9 post (nI m) F S sh ho pt' co n (nI p) (nI j)) (fun n v => ns_fo (fun n w => if ns_lb A B t m v = ns_lb A B t m w then n + 1 else n) v 0 n) (fun p => post (nI p) (nI m, F, S, sh, ho, pt', co)) 5 ?_ ?_ 5 0 0 rfl (h pt')
  · intro n p h
    exact br_t (nI_le (b := 5) (Nat.le_refl 5) (by decide)) h
  · intro n p j hj h
    refine br_f (nI_ge (b := 5) hj (by decide)) ⟨j + 1, ?_⟩
    refine ns_loop (fun k p w => wY_connectedPairs_17 post (wY_connectedPairs_9 post (nI m) F S sh ho pt' co n) (nI j) (nI m) F S sh ho pt' co k (nI p) (nI w)) (fun n w => if ns_lb A B t m j = ns_lb A B t m w then n + 1 else n) (fun p => wY_connectedPairs_9 post (nI m) F S sh ho pt' co n (nI p) (nI (j + 1))) j ?_ ?_ j 0 p (Nat.zero_add j) h
    · intro k p h
      exact br_t (nI_le (Nat.le_refl j) (by omega)) (ns_nx h)
    · intro k p w hw h
      have l1 := ok j hj
      have l2 := ok w (by omega)
      refine br_f (nI_ge hw (by omega)) ⟨vp_in_nI hj (by decide), vp_in_nI (by omega) (by decide), ?_⟩
      rw [nI_clamp (n := j) (by omega), nI_clamp (n := w) (by omega), hp j hj, hp w (by omega)]
      refine pk_eq (ns_lb A B t m j) (ns_lb A B t m w) (fun q => nm_r (nI_1 p) (ns_nx ?_)) (fun q => ns_nx ?_)
      · rw [if_pos q] at h; exact h
      · rw [if_neg q] at h; exact h
theorem ns_m1b : ∀ i, i < 32 → (-1 : Int32).toBitVec.getLsbD i = true := by decide +kernel
theorem ns_an {a b c : Nat} (h : ∀ k, k < 32 → c.testBit k = (a.testBit k && !b.testBit k)) : nI a &&& (nI b ^^^ (-1)) = nI c := by
  apply Int32.toBitVec_inj.1
  rw [Int32.toBitVec_and, Int32.toBitVec_xor]
  show BitVec.ofNat 32 a &&& (BitVec.ofNat 32 b ^^^ (-1 : Int32).toBitVec) = BitVec.ofNat 32 c
  apply BitVec.eq_of_getLsbD_eq
  intro i hi
  rw [BitVec.getLsbD_and, BitVec.getLsbD_xor, ns_m1b i hi, BitVec.getLsbD_ofNat, BitVec.getLsbD_ofNat, BitVec.getLsbD_ofNat, h i hi, decide_eq_true hi]
  cases a.testBit i <;> cases b.testBit i <;> rfl
theorem ns_cmpb {d m : Nat} (hd : d < 2 ^ m) (k : Nat) : (2 ^ m - 1 - d).testBit k = (decide (k < m) && !d.testBit k) := by
  rw [show 2 ^ m - 1 - d = 2 ^ m - (d + 1) by omega]
  exact Nat.testBit_two_pow_sub_succ hd k
theorem ns_cmp {d m : Nat} (hd : d < 2 ^ m) : nI (2 ^ m - 1) &&& (nI d ^^^ (-1)) = nI (2 ^ m - 1 - d) := by
  apply ns_an
  intro k _
  rw [ns_cmpb hd, Nat.testBit_two_pow_sub_one]
theorem ns_orA {t i : Nat} (h : t.testBit i = false) : t ||| 2 ^ i = t + 2 ^ i := by
  apply Nat.eq_of_testBit_eq
  intro j
  rw [ns_addb h, Nat.testBit_or, Nat.testBit_two_pow]
theorem ns_anS {t i : Nat} (h : t.testBit i = true) : nI t &&& (nI (2 ^ i) ^^^ (-1)) = nI (t - 2 ^ i) := by
  apply ns_an
  intro k _
  rw [ns_subb h, Nat.testBit_two_pow]
theorem ns_ymd {post : Int32 → SY → Prop} {d m s : Nat} {F S sh ho pt co : Nat → Int32} {A B : Nat → Nat} (hR : ns_R m F S ho A B) (hd : d < 2 ^ m) (hs : s < 32) (h : ∀ pt, post (ns_b (ns_all (ns_lcs A B m s d) m 0)) (nI m, F, S, sh, ho, pt, co)) : wpY_mendsWithAny post (nI m, F, S, sh, ho, pt, co) (nI d) (nI (2 ^ m - 1 - d)) (nI s) := by
  have hm := hR.1
  have hf := ns_full hm
  unfold wpY_mendsWithAny
  dsimp only
  refine ⟨m + 1, ?_⟩
  refine ns_exit (fun n j => ∀ pt, wY_mendsWithAny_3 post (nI d) (nI (2 ^ m - 1 - d)) (nI s) n (nI j) (nI m) F S sh ho pt co) (ns_lcs A B m s d) (fun b => ∀ pt, post (ns_b b) (nI m, F, S, sh, ho, pt, co)) m ?_ ?_ ?_ m 0 (Nat.zero_add m) h pt
  · intro n h pt
    exact br_t (nI_le (Nat.le_refl m) (by omega)) (h pt)
  · intro n j hj c h pt
    have hp := ns_p2 (i := j) (j := 12) (by omega)
    refine br_f (nI_ge hj (by omega)) (ns_yin (by omega) (by omega) (ns_br (fun z1 => ns_nx (h pt)) (fun z1 => ?_)))
    rw [ns_shl (by omega), ns_or, ns_orA (by rw [ns_cmpb hd, z1]; simp)]
    refine ns_ycn hR (by omega) hs (fun pt' => ns_br (fun z2 => ?_) (fun z2 => ns_nx (h pt')))
    unfold ns_lcs at c
    rw [z1, z2] at c
    exact absurd c (by decide)
  · intro n j hj c h pt
    have hp := ns_p2 (i := j) (j := 12) (by omega)
    unfold ns_lcs at c
    rw [Bool.not_eq_false', Bool.and_eq_true, Bool.not_eq_true'] at c
    refine br_f (nI_ge hj (by omega)) (ns_yin (by omega) (by omega) (ns_br (fun z1 => ?_) (fun z1 => ?_)))
    · rw [c.1] at z1; exact absurd z1 (by decide)
    · rw [ns_shl (by omega), ns_or, ns_orA (by rw [ns_cmpb hd, z1]; simp)]
      refine ns_ycn hR (by omega) hs (fun pt' => ns_br (fun z2 => h pt') (fun z2 => ?_))
      rw [c.2] at z2; exact absurd z2 (by decide)
theorem ns_ytr {post : Int32 → SY → Prop} {t m : Nat} {F S sh ho pt co : Nat → Int32} {A B : Nat → Nat} (hR : ns_R m F S ho A B) (ht : t < 2 ^ m) (h : ∀ pt, post (ns_b (ns_tr A B m t)) (nI m, F, S, sh, ho, pt, co)) : wpY_isTree post (nI m, F, S, sh, ho, pt, co) (nI t) := by
  have hm := hR.1
  have hf := ns_full hm
  unfold wpY_isTree
  dsimp only
  refine ns_ycn (s := 31) hR (by omega) (by decide) (fun pt => ns_br (fun z => ?_) (fun z => Exists.intro (m + 1) ?_))
  · have h := h pt
    unfold ns_tr at h; rw [z] at h; exact h
  · have h2 : ∀ pt, post (ns_b (ns_all (ns_trs A B m t) m 0)) (nI m, F, S, sh, ho, pt, co) := by
      intro pt
      have h := h pt
      unfold ns_tr at h; rw [z] at h; exact h
    refine ns_exit (fun n j => ∀ pt, wY_isTree_14 post (nI t) n (nI j) (nI m) F S sh ho pt co) (ns_trs A B m t) (fun b => ∀ pt, post (ns_b b) (nI m, F, S, sh, ho, pt, co)) m ?_ ?_ ?_ m 0 (Nat.zero_add m) h2 pt
    · intro n h pt
      exact br_t (nI_le (Nat.le_refl m) (by omega)) (h pt)
    · intro n j hj c h pt
      refine br_f (nI_ge hj (by omega)) (ns_yin (by omega) (by omega) (ns_br (fun z1 => ns_nx (h pt)) (fun z1 => ?_)))
      rw [ns_shl (by omega), ns_anS z1]
      refine ns_ycn (s := 31) hR (Nat.lt_of_le_of_lt (Nat.sub_le _ _) (by omega)) (by decide) (fun pt' => ns_br (fun z2 => ns_nx (h pt')) (fun z2 => ?_))
      unfold ns_trs at c
      rw [z1, z2] at c
      exact absurd c (by decide)
    · intro n j hj c h pt
      unfold ns_trs at c
      rw [Bool.not_eq_false', Bool.and_eq_true] at c
      refine br_f (nI_ge hj (by omega)) (ns_yin (by omega) (by omega) (ns_br (fun z1 => ?_) (fun z1 => ?_)))
      · rw [c.1] at z1; exact absurd z1 (by decide)
      · rw [ns_shl (by omega), ns_anS z1]
        refine ns_ycn (s := 31) hR (Nat.lt_of_le_of_lt (Nat.sub_le _ _) (by omega)) (by decide) (fun pt' => ns_br (fun z2 => ?_) (fun z2 => h pt'))
        rw [c.2] at z2; exact absurd z2 (by decide)
theorem ns_ypw {post : Int32 → Prop} {x e f : Int32} {F S sh ho pt co : Nat → Int32} (h : post (ns_pw x e)) : wpY_power post (f, F, S, sh, ho, pt, co) x e := by
  unfold wpY_power
  dsimp only
  unfold ns_pw at h
  rcases ns_ex e with ⟨h0, h1⟩ | ⟨k, hk, rfl⟩
  · rw [h1] at h
    exact ⟨1, br_t h0 h⟩
  · rw [nI_clamp hk] at h
    refine ⟨k + 1, ?_⟩
    refine ns_loop (fun n p j => wY_power_5 post x (nI k) f F S sh ho pt co n p (nI j)) (fun p _ => p * x) post k ?_ ?_ k 0 1 (Nat.zero_add k) h
    · intro n p h
      exact br_t (nI_le (Nat.le_refl k) hk) h
    · intro n p j hj h
      exact br_f (nI_ge hj hk) (nm_e (ns_nx h))
end
section
/-! the questions that both sides ask in the same order -/
theorem ns_top {m j : Nat} (hm : m ≤ 12) (hj : j < 2 ^ m) : ¬ ((1 : Int32) <<< (nI m &&& 31)) ≤ nI j := by
  have hf := ns_full hm
  rw [ns_shl (by omega)]
  exact nI_ge hj (by omega)
theorem ns_end {m : Nat} (hm : m ≤ 12) : ((1 : Int32) <<< (nI m &&& 31)) ≤ nI (2 ^ m) := by
  have hf := ns_full hm
  rw [ns_shl (by omega)]
  exact nI_le (Nat.le_refl _) (by omega)
theorem ns_mk (x : Int32) : (x < 0 ∨ (¬ x < 0 ∧ 31 < x)) ∨ ∃ s, s < 32 ∧ x = nI s := by
  rcases pk_ix x (n := 32) (by decide) with h | h | h
  · exact Or.inl (Or.inl h)
  · obtain ⟨k, hk, rfl⟩ := nI_of (x := x) (by
      intro q
      exact absurd (Int32.le_trans h (Int32.le_of_lt q)) (by decide))
    rw [nI_leI (by decide) hk] at h
    exact Or.inl (Or.inr ⟨nI_pos hk, nI_lt (a := 31) (by omega) hk⟩)
  · exact Or.inr h
theorem ns_xmk0 {post : Int32 → Prop} {x : Int32} (hx : x < 0 ∨ (¬ x < 0 ∧ 31 < x)) (h : post 0) : wpX_isMask post x := by
  unfold wpX_isMask
  rcases hx with hx | ⟨h1, h2⟩
  · exact br_t hx h
  · exact br_f h1 (br_t h2 h)
theorem ns_xmk1 {post : Int32 → Prop} {s : Nat} (hs : s < 32) (h : post 1) : wpX_isMask post (nI s) := by
  unfold wpX_isMask
  exact br_f (nI_pos (by omega)) (br_f (nI_nlt (a := 31) (by omega) (by decide)) h)
theorem ns_ymk0 {post : Int32 → Prop} {x e : Int32} {F S sh ho pt co : Nat → Int32} (hx : x < 0 ∨ (¬ x < 0 ∧ 31 < x)) (h : post 0) : wpY_isMask post (e, F, S, sh, ho, pt, co) x := by
  unfold wpY_isMask
  dsimp only
  rcases hx with hx | ⟨h1, h2⟩
  · exact br_t hx h
  · exact br_f h1 (br_t h2 h)
theorem ns_ymk1 {post : Int32 → Prop} {s : Nat} {e : Int32} {F S sh ho pt co : Nat → Int32} (hs : s < 32) (h : post 1) : wpY_isMask post (e, F, S, sh, ho, pt, co) (nI s) := by
  unfold wpY_isMask
  dsimp only
  exact br_f (nI_pos (by omega)) (br_f (nI_nlt (a := 31) (by omega) (by decide)) h)
/-! weight -/
noncomputable def ns_gW (A B : Nat → Nat) (sh ho : Nat → Int32) (m s : Nat) (a : Int64) (t : Nat) : Int64 := cond (ns_st ho m t (-1)) (cond (ns_cn A B t m s) (a + ns_wt sh ho m t (-1)) a) a
theorem ns_xqW {post : Int64 → Prop} {m s : Nat} {F S sh ho : Nat → Int32} {A B : Nat → Nat} (hR : ns_R m F S ho A B) (hs : s < 32) (h : post (ns_fo (ns_gW A B sh ho m s) (2 ^ m) 0 0)) : ∃ n, wX_weight_16 post (nI s) (nI m) F S sh ho n 0 0 := by
  have hm := hR.1
  have hf := ns_full hm
  refine ⟨2 ^ m + 1, ns_loop (fun n a j => wX_weight_16 post (nI s) (nI m) F S sh ho n a (nI j)) (ns_gW A B sh ho m s) post (2 ^ m) ?_ ?_ (2 ^ m) 0 0 (Nat.zero_add _) h⟩
  · intro n a h
    exact br_t (ns_end hm) h
  · intro n a j hj h
    unfold ns_gW at h
    have ht : j < 2 ^ 31 := by omega
    refine br_f (ns_top hm hj) (ns_xst hm ht (ns_br (fun z1 => ns_nx ?_) (fun z1 => ns_xcn hR ht hs (ns_br (fun z2 => ns_nx ?_) (fun z2 => ns_xwt hm ht (nm_e (ns_nx ?_)))))))
    · rw [z1] at h; exact h
    · rw [z1, z2] at h; exact h
    · rw [z1, z2] at h; exact h
theorem ns_yqW {post : Int64 → SY → Prop} {m s : Nat} {F S sh ho pt co : Nat → Int32} {A B : Nat → Nat} (hR : ns_R m F S ho A B) (hs : s < 32) (h : ∀ pt, post (ns_fo (ns_gW A B sh ho m s) (2 ^ m) 0 0) (nI m, F, S, sh, ho, pt, co)) : ∃ n, wY_weight_17 post (nI s) n 0 0 (nI m) F S sh ho pt co := by
  have hm := hR.1
  have hf := ns_full hm
  refine ⟨2 ^ m + 1, ns_loop (fun n a j => ∀ pt, wY_weight_17 post (nI s) n a (nI j) (nI m) F S sh ho pt co) (ns_gW A B sh ho m s) (fun a => ∀ pt, post a (nI m, F, S, sh, ho, pt, co)) (2 ^ m) ?_ ?_ (2 ^ m) 0 0 (Nat.zero_add _) h pt⟩
  · intro n a h pt
    rw [wY_weight_17]
    refine ns_ysets hm ?_
    exact br_t (nI_le (Nat.le_refl _) (by omega)) (h pt)
  · intro n a j hj h pt
    unfold ns_gW at h
    have ht : j < 2 ^ 31 := by omega
    rw [wY_weight_17]
    refine ns_ysets hm ?_
    refine br_f (nI_ge hj (by omega)) (ns_yst hR ht (ns_br (fun z1 => ns_nx ?_) (fun z1 => ns_ycn hR ht hs (fun pt' => ns_br (fun z2 => ns_nx ?_) (fun z2 => ns_ywt hm ht (nm_e (ns_nx ?_)))))))
    · rw [z1] at h; exact h pt
    · rw [z1, z2] at h; exact h pt'
    · rw [z1, z2] at h; exact h pt'
/-! states -/
noncomputable def ns_gS (A B : Nat → Nat) (ho : Nat → Int32) (m s : Nat) (k : Int32) (a : Int32) (t : Nat) : Int32 := cond (decide (nI (ns_pp t 12) = k)) (cond (ns_st ho m t (-1)) (cond (ns_cn A B t m s) (a + 1) a) a) a
theorem ns_xqS {post : Int32 → Prop} {m s : Nat} {k : Int32} {F S sh ho : Nat → Int32} {A B : Nat → Nat} (hR : ns_R m F S ho A B) (hs : s < 32) (h : post (ns_fo (ns_gS A B ho m s k) (2 ^ m) 0 0)) : ∃ n, wX_states_14 post (nI s) k (nI m) F S sh ho n 0 0 := by
  have hm := hR.1
  have hf := ns_full hm
  refine ⟨2 ^ m + 1, ns_loop (fun n a j => wX_states_14 post (nI s) k (nI m) F S sh ho n a (nI j)) (ns_gS A B ho m s k) post (2 ^ m) ?_ ?_ (2 ^ m) 0 0 (Nat.zero_add _) h⟩
  · intro n a h
    exact br_t (ns_end hm) h
  · intro n a j hj h
    unfold ns_gS at h
    have ht : j < 2 ^ 31 := by omega
    refine br_f (ns_top hm hj) (ns_xsz ht (br_c (fun q => ns_xst hm ht (ns_br (fun z1 => ns_nx ?_) (fun z1 => ns_xcn hR ht hs (ns_br (fun z2 => ns_nx ?_) (fun z2 => nm_e (ns_nx ?_)))))) (fun q => ns_nx ?_)))
    · rw [decide_eq_true q, z1] at h; exact h
    · rw [decide_eq_true q, z1, z2] at h; exact h
    · rw [decide_eq_true q, z1, z2] at h; exact h
    · rw [decide_eq_false q] at h; exact h
theorem ns_yqS {post : Int32 → SY → Prop} {m s : Nat} {k : Int32} {F S sh ho pt co : Nat → Int32} {A B : Nat → Nat} (hR : ns_R m F S ho A B) (hs : s < 32) (h : ∀ pt, post (ns_fo (ns_gS A B ho m s k) (2 ^ m) 0 0) (nI m, F, S, sh, ho, pt, co)) : ∃ n, wY_states_15 post (nI s) k n 0 0 (nI m) F S sh ho pt co := by
  have hm := hR.1
  have hf := ns_full hm
  refine ⟨2 ^ m + 1, ns_loop (fun n a j => ∀ pt, wY_states_15 post (nI s) k n a (nI j) (nI m) F S sh ho pt co) (ns_gS A B ho m s k) (fun a => ∀ pt, post a (nI m, F, S, sh, ho, pt, co)) (2 ^ m) ?_ ?_ (2 ^ m) 0 0 (Nat.zero_add _) h pt⟩
  · intro n a h pt
    rw [wY_states_15]
    refine ns_ysets hm ?_
    exact br_t (nI_le (Nat.le_refl _) (by omega)) (h pt)
  · intro n a j hj h pt
    unfold ns_gS at h
    have ht : j < 2 ^ 31 := by omega
    rw [wY_states_15]
    refine ns_ysets hm ?_
    refine br_f (nI_ge hj (by omega)) (ns_yon ht (br_c (fun q => ns_yst hR ht (ns_br (fun z1 => ns_nx ?_) (fun z1 => ns_ycn hR ht hs (fun pt' => ns_br (fun z2 => ns_nx ?_) (fun z2 => nm_e (ns_nx ?_)))))) (fun q => ns_nx ?_)))
    · rw [decide_eq_true q, z1] at h; exact h pt
    · rw [decide_eq_true q, z1, z2] at h; exact h pt'
    · rw [decide_eq_true q, z1, z2] at h; exact h pt'
    · rw [decide_eq_false q] at h; exact h pt
/-! parts -/
def ns_gP (A B : Nat → Nat) (sh ho : Nat → Int32) (m : Nat) (k : Int32) (a : Int64) (t : Nat) : Int64 := cond (ns_st ho m t (-1)) (cond (decide (nI (ns_cp (ns_lb A B t m)) = k)) (a + ns_wt sh ho m t (-1)) a) a
theorem ns_xqP {post : Int64 → Prop} {m : Nat} {k : Int32} {F S sh ho : Nat → Int32} {A B : Nat → Nat} (hR : ns_R m F S ho A B) (h : post (ns_fo (ns_gP A B sh ho m k) (2 ^ m) 0 0)) : ∃ n, wX_parts_5 post k (nI m) F S sh ho n 0 0 := by
  have hm := hR.1
  have hf := ns_full hm
  refine ⟨2 ^ m + 1, ns_loop (fun n a j => wX_parts_5 post k (nI m) F S sh ho n a (nI j)) (ns_gP A B sh ho m k) post (2 ^ m) ?_ ?_ (2 ^ m) 0 0 (Nat.zero_add _) h⟩
  · intro n a h
    exact br_t (ns_end hm) h
  · intro n a j hj h
    unfold ns_gP at h
    have ht : j < 2 ^ 31 := by omega
    refine br_f (ns_top hm hj) (ns_xst hm ht (ns_br (fun z1 => ns_nx ?_) (fun z1 => ns_xpt hR ht (br_c (fun q => ns_xwt hm ht (nm_e (ns_nx ?_))) (fun q => ns_nx ?_)))))
    · rw [z1] at h; exact h
    · rw [z1, decide_eq_true q] at h; exact h
    · rw [z1, decide_eq_false q] at h; exact h
theorem ns_yqP {post : Int64 → SY → Prop} {m : Nat} {k : Int32} {F S sh ho pt co : Nat → Int32} {A B : Nat → Nat} (hR : ns_R m F S ho A B) (h : ∀ pt, post (ns_fo (ns_gP A B sh ho m k) (2 ^ m) 0 0) (nI m, F, S, sh, ho, pt, co)) : ∃ n, wY_parts_5 post k n 0 0 (nI m) F S sh ho pt co := by
  have hm := hR.1
  have hf := ns_full hm
  refine ⟨2 ^ m + 1, ns_loop (fun n a j => ∀ pt, wY_parts_5 post k n a (nI j) (nI m) F S sh ho pt co) (ns_gP A B sh ho m k) (fun a => ∀ pt, post a (nI m, F, S, sh, ho, pt, co)) (2 ^ m) ?_ ?_ (2 ^ m) 0 0 (Nat.zero_add _) h pt⟩
  · intro n a h pt
    rw [wY_parts_5]
    refine ns_ysets hm ?_
    exact br_t (nI_le (Nat.le_refl _) (by omega)) (h pt)
  · intro n a j hj h pt
    unfold ns_gP at h
    have ht : j < 2 ^ 31 := by omega
    rw [wY_parts_5]
    refine ns_ysets hm ?_
    refine br_f (nI_ge hj (by omega)) (ns_yst hR ht (ns_br (fun z1 => ns_nx ?_) (fun z1 => ns_ycp hR ht (fun pt' => br_c (fun q => ns_ywt hm ht (nm_e (ns_nx ?_))) (fun q => ns_nx ?_)))))
    · rw [z1] at h; exact h pt
    · rw [z1, decide_eq_true q] at h; exact h pt'
    · rw [z1, decide_eq_false q] at h; exact h pt'
/-! pairs -/
def ns_gQ (A B : Nat → Nat) (sh ho : Nat → Int32) (m : Nat) (a : Int64) (t : Nat) : Int64 := cond (ns_st ho m t (-1)) (a + ns_wt sh ho m t (-1) * (nI (ns_pr (ns_lb A B t m))).toInt64) a
theorem ns_xqQ {post : Int64 → Prop} {m : Nat} {F S sh ho : Nat → Int32} {A B : Nat → Nat} (hR : ns_R m F S ho A B) (h : post (ns_fo (ns_gQ A B sh ho m) (2 ^ m) 0 0)) : ∃ n, wX_pairs_4 post (nI m) F S sh ho n 0 0 := by
  have hm := hR.1
  have hf := ns_full hm
  refine ⟨2 ^ m + 1, ns_loop (fun n a j => wX_pairs_4 post (nI m) F S sh ho n a (nI j)) (ns_gQ A B sh ho m) post (2 ^ m) ?_ ?_ (2 ^ m) 0 0 (Nat.zero_add _) h⟩
  · intro n a h
    exact br_t (ns_end hm) h
  · intro n a j hj h
    unfold ns_gQ at h
    have ht : j < 2 ^ 31 := by omega
    refine br_f (ns_top hm hj) (ns_xst hm ht (ns_br (fun z1 => ns_nx ?_) (fun z1 => ns_xwt hm ht (ns_xpr hR ht (nm_e (ns_nx ?_))))))
    · rw [z1] at h; exact h
    · rw [z1] at h; exact h
theorem ns_yqQ {post : Int64 → SY → Prop} {m : Nat} {F S sh ho pt co : Nat → Int32} {A B : Nat → Nat} (hR : ns_R m F S ho A B) (h : ∀ pt, post (ns_fo (ns_gQ A B sh ho m) (2 ^ m) 0 0) (nI m, F, S, sh, ho, pt, co)) : ∃ n, wY_pairs_4 post n 0 0 (nI m) F S sh ho pt co := by
  have hm := hR.1
  have hf := ns_full hm
  refine ⟨2 ^ m + 1, ns_loop (fun n a j => ∀ pt, wY_pairs_4 post n a (nI j) (nI m) F S sh ho pt co) (ns_gQ A B sh ho m) (fun a => ∀ pt, post a (nI m, F, S, sh, ho, pt, co)) (2 ^ m) ?_ ?_ (2 ^ m) 0 0 (Nat.zero_add _) h pt⟩
  · intro n a h pt
    rw [wY_pairs_4]
    refine ns_ysets hm ?_
    exact br_t (nI_le (Nat.le_refl _) (by omega)) (h pt)
  · intro n a j hj h pt
    unfold ns_gQ at h
    have ht : j < 2 ^ 31 := by omega
    rw [wY_pairs_4]
    refine ns_ysets hm ?_
    refine br_f (nI_ge hj (by omega)) (ns_yst hR ht (ns_br (fun z1 => ns_nx ?_) (fun z1 => ns_ypr hR ht (fun pt' => ns_ywt hm ht (nm_e (ns_nx ?_))))))
    · rw [z1] at h; exact h pt
    · rw [z1] at h; exact h pt'
end
section
/-! cuts -/
noncomputable def ns_gC (A B : Nat → Nat) (m s : Nat) (k : Int32) (a : Int32) (d : Nat) : Int32 := cond (decide (nI (ns_pp d 12) = k)) (cond (ns_lc A B m s d) (a + 1) a) a
theorem ns_xqC {post : Int32 → Prop} {m s : Nat} {k : Int32} {F S sh ho : Nat → Int32} {A B : Nat → Nat} (hR : ns_R m F S ho A B) (hs : s < 32) (h : post (ns_fo (ns_gC A B m s k) (2 ^ m) 0 0)) : ∃ n, wX_cuts_14 post (nI s) k (nI m) F S sh ho n 0 0 := by
  have hm := hR.1
  have hf := ns_full hm
  refine ⟨2 ^ m + 1, ns_loop (fun n a j => wX_cuts_14 post (nI s) k (nI m) F S sh ho n a (nI j)) (ns_gC A B m s k) post (2 ^ m) ?_ ?_ (2 ^ m) 0 0 (Nat.zero_add _) h⟩
  · intro n a h
    exact br_t (ns_end hm) h
  · intro n a j hj h
    unfold ns_gC at h
    have ht : j < 2 ^ 31 := by omega
    refine br_f (ns_top hm hj) (ns_xsz ht (br_c (fun q => ns_xlc hR hj hs (ns_br (fun z1 => ns_nx ?_) (fun z1 => nm_e (ns_nx ?_)))) (fun q => ns_nx ?_)))
    · rw [decide_eq_true q, z1] at h; exact h
    · rw [decide_eq_true q, z1] at h; exact h
    · rw [decide_eq_false q] at h; exact h
theorem ns_yqC {post : Int32 → SY → Prop} {m s : Nat} {k : Int32} {F S sh ho pt co : Nat → Int32} {A B : Nat → Nat} (hR : ns_R m F S ho A B) (hs : s < 32) (h : ∀ pt, post (ns_fo (ns_gC A B m s k) (2 ^ m) 0 0) (nI m, F, S, sh, ho, pt, co)) : ∃ n, wY_cuts_15 post (nI s) k n 0 0 (nI m) F S sh ho pt co := by
  have hm := hR.1
  have hf := ns_full hm
  refine ⟨2 ^ m + 1, ns_loop (fun n a j => ∀ pt, wY_cuts_15 post (nI s) k n a (nI j) (nI m) F S sh ho pt co) (ns_gC A B m s k) (fun a => ∀ pt, post a (nI m, F, S, sh, ho, pt, co)) (2 ^ m) ?_ ?_ (2 ^ m) 0 0 (Nat.zero_add _) h pt⟩
  · intro n a h pt
    rw [wY_cuts_15]
    refine ns_ysets hm ?_
    exact br_t (nI_le (Nat.le_refl _) (by omega)) (h pt)
  · intro n a j hj h pt
    unfold ns_gC ns_lc at h
    have ht : j < 2 ^ 31 := by omega
    have e : nI (2 ^ m) - 1 = nI (2 ^ m - 1) := pk_sub (b := 1) (Nat.two_pow_pos m)
    rw [wY_cuts_15]
    refine ns_ysets hm ?_
    refine br_f (nI_ge hj (by omega)) (ns_ysets hm ?_)
    refine nm_r (e' := nI (2 ^ m - 1 - j)) (by rw [e]; exact ns_cmp hj) (ns_yon ht (br_c (fun q => ns_ycn hR (by omega) hs (fun pt' => ns_br (fun z1 => ns_ymd hR hj hs (fun pt2 => ns_br (fun z2 => ns_nx ?_) (fun z2 => nm_e (ns_nx ?_)))) (fun z1 => ns_nx ?_))) (fun q => ns_nx ?_)))
    · rw [decide_eq_true q, z1, z2] at h; exact h pt2
    · rw [decide_eq_true q, z1, z2] at h; exact h pt2
    · rw [decide_eq_true q, z1] at h; exact h pt'
    · rw [decide_eq_false q] at h; exact h pt
/-! trees -/
noncomputable def ns_gT (A B : Nat → Nat) (m : Nat) (a : Int32) (t : Nat) : Int32 := cond (ns_tr A B m t) (a + 1) a
theorem ns_xqT {post : Int32 → Prop} {m : Nat} {F S sh ho : Nat → Int32} {A B : Nat → Nat} (hR : ns_R m F S ho A B) (h : post (ns_fo (ns_gT A B m) (2 ^ m) 0 0)) : ∃ n, wX_trees_4 post (nI m) F S sh ho n 0 0 := by
  have hm := hR.1
  have hf := ns_full hm
  refine ⟨2 ^ m + 1, ns_loop (fun n a j => wX_trees_4 post (nI m) F S sh ho n a (nI j)) (ns_gT A B m) post (2 ^ m) ?_ ?_ (2 ^ m) 0 0 (Nat.zero_add _) h⟩
  · intro n a h
    exact br_t (ns_end hm) h
  · intro n a j hj h
    unfold ns_gT at h
    refine br_f (ns_top hm hj) (ns_xtr hR hj (ns_br (fun z1 => ns_nx ?_) (fun z1 => nm_e (ns_nx ?_))))
    · rw [z1] at h; exact h
    · rw [z1] at h; exact h
theorem ns_yqT {post : Int32 → SY → Prop} {m : Nat} {F S sh ho pt co : Nat → Int32} {A B : Nat → Nat} (hR : ns_R m F S ho A B) (h : ∀ pt, post (ns_fo (ns_gT A B m) (2 ^ m) 0 0) (nI m, F, S, sh, ho, pt, co)) : ∃ n, wY_trees_4 post n 0 0 (nI m) F S sh ho pt co := by
  have hm := hR.1
  have hf := ns_full hm
  refine ⟨2 ^ m + 1, ns_loop (fun n a j => ∀ pt, wY_trees_4 post n a (nI j) (nI m) F S sh ho pt co) (ns_gT A B m) (fun a => ∀ pt, post a (nI m, F, S, sh, ho, pt, co)) (2 ^ m) ?_ ?_ (2 ^ m) 0 0 (Nat.zero_add _) h pt⟩
  · intro n a h pt
    rw [wY_trees_4]
    refine ns_ysets hm ?_
    exact br_t (nI_le (Nat.le_refl _) (by omega)) (h pt)
  · intro n a j hj h pt
    unfold ns_gT at h
    rw [wY_trees_4]
    refine ns_ysets hm ?_
    refine br_f (nI_ge hj (by omega)) (ns_ytr hR hj (fun pt' => ns_br (fun z1 => ns_nx ?_) (fun z1 => nm_e (ns_nx ?_))))
    · rw [z1] at h; exact h pt'
    · rw [z1] at h; exact h pt'
/-! forests -/
noncomputable def ns_gF (A B : Nat → Nat) (m : Nat) (k : Int32) (a : Int32) (t : Nat) : Int32 := cond (decide (nI (ns_pp t 12) = k)) (cond (ns_nc A B m t) (a + 1) a) a
theorem ns_ppm {t m : Nat} (ht : t < 2 ^ m) : ∀ d, ns_pp t (m + d) = ns_pp t m := by
  intro d
  induction d with
  | zero => rfl
  | succ d ih =>
    rw [← Nat.add_assoc, ns_pp, ih, Nat.testBit_lt_two_pow (Nat.lt_of_lt_of_le ht (ns_p2 (by omega)))]
    rfl
theorem ns_ncI {A B : Nat → Nat} {t m : Nat} (hE : ns_E A B m) (hm : m ≤ 12) (ht : t < 2 ^ m) : ns_nc A B m t = true ↔ ns_cp (ns_lb A B t m) + ns_pp t 12 = 5 := by
  have e : ns_pp t 12 = ns_pp t m := by
    have := ns_ppm ht (12 - m)
    rw [show m + (12 - m) = 12 by omega] at this
    exact this
  rw [e, ← ns_forest hE t]
  unfold ns_nc
  rw [ns_allI]
  constructor
  · intro h i hi
    have := h i (Nat.zero_le i) (by omega)
    unfold ns_cws at this
    rw [Bool.not_eq_true'] at this
    rintro ⟨h1, h2⟩
    rw [h1, h2] at this
    exact absurd this (by decide)
  · intro h i _ hi
    have := h i (by omega)
    unfold ns_cws
    rw [Bool.not_eq_true', Bool.eq_false_iff]
    intro q
    rw [Bool.and_eq_true] at q
    exact this q
theorem ns_fk {c p : Nat} {k : Int32} (hc : c ≤ 5) (hp : p ≤ 12) (hk : nI p = k) : nI c = 5 - k ↔ c + p = 5 := by
  rw [← hk]
  constructor
  · intro h
    have h2 : nI c + nI p = nI 5 := by
      rw [h, Int32.sub_add_cancel]; rfl
    rw [nI_add, nI_eq (by omega) (by decide)] at h2
    exact h2
  · intro h
    have h2 : nI 5 - nI p = nI (5 - p) := pk_sub (by omega)
    rw [show c = 5 - p by omega, ← h2]
    rfl
theorem ns_xqF {post : Int32 → Prop} {m : Nat} {k : Int32} {F S sh ho : Nat → Int32} {A B : Nat → Nat} (hR : ns_R m F S ho A B) (h : post (ns_fo (ns_gF A B m k) (2 ^ m) 0 0)) : ∃ n, wX_forests_4 post k (nI m) F S sh ho n 0 0 := by
  have hm := hR.1
  have hf := ns_full hm
  refine ⟨2 ^ m + 1, ns_loop (fun n a j => wX_forests_4 post k (nI m) F S sh ho n a (nI j)) (ns_gF A B m k) post (2 ^ m) ?_ ?_ (2 ^ m) 0 0 (Nat.zero_add _) h⟩
  · intro n a h
    exact br_t (ns_end hm) h
  · intro n a j hj h
    unfold ns_gF at h
    have ht : j < 2 ^ 31 := by omega
    refine br_f (ns_top hm hj) (ns_xsz ht (br_c (fun q => ns_xcw hR hj (ns_br (fun z1 => nm_e (ns_nx ?_)) (fun z1 => ns_nx ?_))) (fun q => ns_nx ?_)))
    · rw [Bool.not_eq_false'] at z1
      rw [decide_eq_true q, z1] at h; exact h
    · rw [Bool.not_eq_true'] at z1
      rw [decide_eq_true q, z1] at h; exact h
    · rw [decide_eq_false q] at h; exact h
theorem ns_yqF {post : Int32 → SY → Prop} {m : Nat} {k : Int32} {F S sh ho pt co : Nat → Int32} {A B : Nat → Nat} (hR : ns_R m F S ho A B) (h : ∀ pt, post (ns_fo (ns_gF A B m k) (2 ^ m) 0 0) (nI m, F, S, sh, ho, pt, co)) : ∃ n, wY_forests_4 post k n 0 0 (nI m) F S sh ho pt co := by
  have hm := hR.1
  have hf := ns_full hm
  refine ⟨2 ^ m + 1, ns_loop (fun n a j => ∀ pt, wY_forests_4 post k n a (nI j) (nI m) F S sh ho pt co) (ns_gF A B m k) (fun a => ∀ pt, post a (nI m, F, S, sh, ho, pt, co)) (2 ^ m) ?_ ?_ (2 ^ m) 0 0 (Nat.zero_add _) h pt⟩
  · intro n a h pt
    rw [wY_forests_4]
    refine ns_ysets hm ?_
    exact br_t (nI_le (Nat.le_refl _) (by omega)) (h pt)
  · intro n a j hj h pt
    unfold ns_gF at h
    have ht : j < 2 ^ 31 := by omega
    have iff1 := ns_ncI (ns_RE hR) hm hj
    have iff2 : nI (ns_pp j 12) = k → (nI (ns_cp (ns_lb A B j m)) = 5 - k ↔ ns_nc A B m j = true) := fun q => (ns_fk (ns_cpL _) (ns_ppL j 12) q).trans iff1.symm
    rw [wY_forests_4]
    refine ns_ysets hm ?_
    refine br_f (nI_ge hj (by omega)) (ns_yon ht (br_c (fun q => ns_ycp hR ht (fun pt' => ns_if (iff2 q) (fun z1 => nm_e (ns_nx ?_)) (fun z1 => ns_nx ?_))) (fun q => ns_nx ?_)))
    · rw [decide_eq_true q, z1] at h; exact h pt'
    · rw [decide_eq_true q, Bool.eq_false_iff.mpr z1] at h; exact h pt'
    · rw [decide_eq_false q] at h; exact h pt
/-! polynomial -/
def ns_gY (A B : Nat → Nat) (m : Nat) (x y few : Int32) (a : Int32) (t : Nat) : Int32 := a + ns_pw x (nI (ns_cp (ns_lb A B t m)) - few) * ns_pw y (nI (ns_pp t 12) + nI (ns_cp (ns_lb A B t m)) - 5)
theorem ns_xqY {post : Int32 → Prop} {m : Nat} {x y few : Int32} {F S sh ho : Nat → Int32} {A B : Nat → Nat} (hR : ns_R m F S ho A B) (h : post (ns_fo (ns_gY A B m x y few) (2 ^ m) 0 0)) : ∃ n, wX_polynomial_36 post x y few (nI m) F S sh ho n 0 0 := by
  have hm := hR.1
  have hf := ns_full hm
  refine ⟨2 ^ m + 1, ns_loop (fun n a j => wX_polynomial_36 post x y few (nI m) F S sh ho n a (nI j)) (ns_gY A B m x y few) post (2 ^ m) ?_ ?_ (2 ^ m) 0 0 (Nat.zero_add _) h⟩
  · intro n a h
    exact br_t (ns_end hm) h
  · intro n a j hj h
    have ht : j < 2 ^ 31 := by omega
    exact br_f (ns_top hm hj) (ns_xpt hR ht (ns_xpw (ns_xsz ht (nm_e (ns_xpw (nm_e (ns_nx h)))))))
theorem ns_yqY {post : Int32 → SY → Prop} {m : Nat} {x y few : Int32} {F S sh ho pt co : Nat → Int32} {A B : Nat → Nat} (hR : ns_R m F S ho A B) (h : ∀ pt, post (ns_fo (ns_gY A B m x y few) (2 ^ m) 0 0) (nI m, F, S, sh, ho, pt, co)) : ∃ n, wY_polynomial_44 post x y few n 0 0 (nI m) F S sh ho pt co := by
  have hm := hR.1
  have hf := ns_full hm
  refine ⟨2 ^ m + 1, ns_loop (fun n a j => ∀ pt, wY_polynomial_44 post x y few n a (nI j) (nI m) F S sh ho pt co) (ns_gY A B m x y few) (fun a => ∀ pt, post a (nI m, F, S, sh, ho, pt, co)) (2 ^ m) ?_ ?_ (2 ^ m) 0 0 (Nat.zero_add _) h pt⟩
  · intro n a h pt
    rw [wY_polynomial_44]
    refine ns_ysets hm ?_
    exact br_t (nI_le (Nat.le_refl _) (by omega)) (h pt)
  · intro n a j hj h pt
    have ht : j < 2 ^ 31 := by omega
    rw [wY_polynomial_44]
    refine ns_ysets hm ?_
    exact br_f (nI_ge hj (by omega)) (ns_ycp hR ht (fun pt' => ns_yon ht (ns_ypw (ns_ypw (nm_e (ns_nx (h pt')))))))
end
section
/-! pivotal: X meets each state of the other edges with edge i up, Y with edge i down -/
def ns_sm (f : Nat → Int64) : Nat → Nat → Int64
  | _, 0 => 0
  | j, d + 1 => f j + ns_sm f (j + 1) d
theorem ns_smF (f : Nat → Int64) : ∀ d j a, ns_fo (fun a t => a + f t) d j a = a + ns_sm f j d := by
  intro d
  induction d with
  | zero => intro j a; exact (Int64.add_zero a).symm
  | succ d ih =>
    intro j a
    rw [ns_fo, ih, ns_sm, Int64.add_assoc]
theorem ns_smA (f : Nat → Int64) (e : Nat) : ∀ d j, ns_sm f j (d + e) = ns_sm f j d + ns_sm f (j + d) e := by
  intro d
  induction d with
  | zero => intro j; rw [Nat.zero_add, Nat.add_zero, ns_sm, Int64.zero_add]
  | succ d ih =>
    intro j
    rw [show d + 1 + e = d + e + 1 by omega, ns_sm, ih, ns_sm, Int64.add_assoc, show j + 1 + d = j + (d + 1) by omega]
theorem ns_smC (f g : Nat → Int64) : ∀ d j j', (∀ l, l < d → f (j + l) = g (j' + l)) → ns_sm f j d = ns_sm g j' d := by
  intro d
  induction d with
  | zero => intro j j' _; rfl
  | succ d ih =>
    intro j j' h
    have h0 := h 0 (by omega)
    rw [ns_sm, ns_sm, ih (j + 1) (j' + 1) (fun l hl => by
      have := h (l + 1) (by omega)
      rw [show j + 1 + l = j + (l + 1) by omega, show j' + 1 + l = j' + (l + 1) by omega]
      exact this)]
    rw [Nat.add_zero, Nat.add_zero] at h0
    rw [h0]
theorem ns_smZ (f : Nat → Int64) : ∀ d j, (∀ l, l < d → f (j + l) = 0) → ns_sm f j d = 0 := by
  intro d
  induction d with
  | zero => intro j _; rfl
  | succ d ih =>
    intro j h
    have h0 := h 0 (by omega)
    rw [Nat.add_zero] at h0
    rw [ns_sm, h0, Int64.zero_add]
    refine ih (j + 1) (fun l hl => ?_)
    have := h (l + 1) (by omega)
    rw [show j + 1 + l = j + (l + 1) by omega]
    exact this
theorem ns_lob {i K l : Nat} (hl : l < 2 ^ i) : (K * (2 ^ i + 2 ^ i) + l).testBit i = false := by
  rw [show K * (2 ^ i + 2 ^ i) + l = 2 ^ i * (2 * K + false.toNat) + l by
    rw [Bool.toNat_false, Nat.add_zero, ← Nat.mul_two, Nat.mul_comm, Nat.mul_assoc], Nat.testBit_two_pow_mul_add _ hl, if_neg (Nat.lt_irrefl i), ns_bq, Nat.sub_self]
  rfl
theorem ns_hib {i K l : Nat} (hl : l < 2 ^ i) : (K * (2 ^ i + 2 ^ i) + 2 ^ i + l).testBit i = true := by
  rw [show K * (2 ^ i + 2 ^ i) + 2 ^ i + l = 2 ^ i * (2 * K + true.toNat) + l by
    rw [Bool.toNat_true, Nat.mul_add (2 ^ i), Nat.mul_one, ← Nat.mul_two, Nat.mul_comm K, Nat.mul_assoc], Nat.testBit_two_pow_mul_add _ hl, if_neg (Nat.lt_irrefl i), ns_bq, Nat.sub_self]
  rfl
theorem ns_smP (f : Nat → Int64) (i : Nat) : ∀ N, ns_sm (fun t => cond (t.testBit i) (f (t - 2 ^ i)) 0) 0 (N * (2 ^ i + 2 ^ i)) = ns_sm (fun t => cond (t.testBit i) 0 (f t)) 0 (N * (2 ^ i + 2 ^ i)) := by
  intro N
  induction N with
  | zero => rw [Nat.zero_mul]; rfl
  | succ N ih =>
    rw [Nat.succ_mul, ns_smA, ns_smA, ih, ns_smA, ns_smA]
    congr 1
    simp only [Nat.zero_add]
    rw [ns_smZ (fun t => cond (t.testBit i) (f (t - 2 ^ i)) 0) (2 ^ i) (N * (2 ^ i + 2 ^ i)) (fun l hl => by
        show cond ((N * (2 ^ i + 2 ^ i) + l).testBit i) _ _ = _
        rw [ns_lob hl]; rfl),
      ns_smZ (fun t => cond (t.testBit i) 0 (f t)) (2 ^ i) (N * (2 ^ i + 2 ^ i) + 2 ^ i) (fun l hl => by
        show cond ((N * (2 ^ i + 2 ^ i) + 2 ^ i + l).testBit i) _ _ = _
        rw [ns_hib hl]; rfl), Int64.zero_add, Int64.add_zero]
    refine ns_smC _ _ (2 ^ i) _ _ (fun l hl => ?_)
    show cond ((N * (2 ^ i + 2 ^ i) + 2 ^ i + l).testBit i) (f (N * (2 ^ i + 2 ^ i) + 2 ^ i + l - 2 ^ i)) 0 = cond ((N * (2 ^ i + 2 ^ i) + l).testBit i) 0 (f (N * (2 ^ i + 2 ^ i) + l))
    rw [ns_lob hl, ns_hib hl, Nat.add_right_comm, Nat.add_sub_cancel]
    rfl
theorem ns_stS {ho : Nat → Int32} {m t i : Nat} (hm : m ≤ 12) (h : t.testBit i = true) : ns_st ho m t (nI i) = ns_st ho m (t - 2 ^ i) (nI i) := by
  unfold ns_st
  refine ns_allE _ _ m (fun j hj => ?_) m 0 (Nat.zero_add m)
  unfold ns_sc
  by_cases e : nI j = nI i
  · rw [decide_eq_true e]; rfl
  · have e2 : ¬ i = j := fun q => e (by rw [q])
    rw [ns_subb h, decide_eq_false e2, Bool.not_false, Bool.and_true]
theorem ns_wtS {sh ho : Nat → Int32} {m t i : Nat} (h : t.testBit i = true) : ns_wt sh ho m t (nI i) = ns_wt sh ho m (t - 2 ^ i) (nI i) := by
  unfold ns_wt
  refine ns_foE _ _ 12 (fun a j hj => ?_) 12 0 1 rfl
  unfold ns_wg
  by_cases e : nI j = nI i
  · rw [if_pos e, if_pos e]
  · have e2 : ¬ i = j := fun q => e (by rw [q])
    have e3 : (t - 2 ^ i).testBit j = t.testBit j := by
      rw [ns_subb h, decide_eq_false e2, Bool.not_false, Bool.and_true]
    rw [if_neg e, if_neg e]
    unfold ns_ew
    rw [e3]
noncomputable def ns_pv (A B : Nat → Nat) (sh ho : Nat → Int32) (m s i : Nat) (t : Nat) : Int64 := cond (ns_st ho m t (nI i)) (cond (ns_cn A B t m s) 0 (cond (ns_cn A B (t + 2 ^ i) m s) (ns_wt sh ho m t (nI i)) 0)) 0
theorem ns_xqV {post : Int64 → Prop} {m s i : Nat} {F S sh ho : Nat → Int32} {A B : Nat → Nat} (hR : ns_R m F S ho A B) (hs : s < 32) (hi : i < m) (h : post (ns_fo (fun a t => a + cond (t.testBit i) (ns_pv A B sh ho m s i (t - 2 ^ i)) 0) (2 ^ m) 0 0)) : ∃ n, wX_pivotal_28 post (nI s) (nI i) (nI m) F S sh ho n 0 0 := by
  have hm := hR.1
  have hf := ns_full hm
  refine ⟨2 ^ m + 1, ns_loop (fun n a j => wX_pivotal_28 post (nI s) (nI i) (nI m) F S sh ho n a (nI j)) (fun a t => a + cond (t.testBit i) (ns_pv A B sh ho m s i (t - 2 ^ i)) 0) post (2 ^ m) ?_ ?_ (2 ^ m) 0 0 (Nat.zero_add _) h⟩
  · intro n a h
    exact br_t (ns_end hm) h
  · intro n a j hj h
    have ht : j < 2 ^ 31 := by omega
    refine br_f (ns_top hm hj) (ns_xhas ht (by omega) (ns_br (fun z0 => ns_nx ?_) (fun z0 => ?_)))
    · rw [z0] at h
      have h : wX_pivotal_28 post (nI s) (nI i) (nI m) F S sh ho n (a + 0) (nI (j + 1)) := h
      rw [Int64.add_zero] at h; exact h
    · have h : wX_pivotal_28 post (nI s) (nI i) (nI m) F S sh ho n (a + ns_pv A B sh ho m s i (j - 2 ^ i)) (nI (j + 1)) := by
        rw [z0] at h; exact h
      unfold ns_pv at h
      rw [← ns_stS hm z0, ← ns_wtS z0, Nat.sub_add_cancel (ns_subl z0)] at h
      have fin0 : wX_pivotal_28 post (nI s) (nI i) (nI m) F S sh ho n (a + 0) (nI (j + 1)) → wX_pivotal_28 post (nI s) (nI i) (nI m) F S sh ho n a (nI (j + 1)) := fun q => by
        rw [Int64.add_zero] at q; exact q
      rw [ns_shl (by omega), pk_sub (ns_subl z0)]
      refine ns_xst hm ht (ns_br (fun z1 => ns_nx (fin0 ?_)) (fun z1 => ns_xcn hR ht hs (ns_br (fun z2 => ns_nx (fin0 ?_)) (fun z2 => ns_xcn hR (Nat.lt_of_le_of_lt (Nat.sub_le _ _) ht) hs (ns_br (fun z3 => ns_xwt hm ht (nm_e (ns_nx ?_))) (fun z3 => ns_nx (fin0 ?_)))))))
      · rw [z1] at h; exact h
      · rw [z1, z2] at h
        cases z3 : ns_cn A B (j - 2 ^ i) m s <;> rw [z3] at h <;> exact h
      · rw [z1, z2, z3] at h; exact h
      · rw [z1, z2, z3] at h; exact h
theorem ns_yqV {post : Int64 → SY → Prop} {m s i : Nat} {F S sh ho pt co : Nat → Int32} {A B : Nat → Nat} (hR : ns_R m F S ho A B) (hs : s < 32) (hi : i < m) (h : ∀ pt, post (ns_fo (fun a t => a + cond (t.testBit i) 0 (ns_pv A B sh ho m s i t)) (2 ^ m) 0 0) (nI m, F, S, sh, ho, pt, co)) : ∃ n, wY_pivotal_29 post (nI s) (nI i) n 0 0 (nI m) F S sh ho pt co := by
  have hm := hR.1
  have hf := ns_full hm
  refine ⟨2 ^ m + 1, ns_loop (fun n a j => ∀ pt, wY_pivotal_29 post (nI s) (nI i) n a (nI j) (nI m) F S sh ho pt co) (fun a t => a + cond (t.testBit i) 0 (ns_pv A B sh ho m s i t)) (fun a => ∀ pt, post a (nI m, F, S, sh, ho, pt, co)) (2 ^ m) ?_ ?_ (2 ^ m) 0 0 (Nat.zero_add _) h pt⟩
  · intro n a h pt
    rw [wY_pivotal_29]
    refine ns_ysets hm ?_
    exact br_t (nI_le (Nat.le_refl _) (by omega)) (h pt)
  · intro n a j hj h pt
    have ht : j < 2 ^ 31 := by omega
    have fin0 : (∀ pt, wY_pivotal_29 post (nI s) (nI i) n (a + 0) (nI (j + 1)) (nI m) F S sh ho pt co) → ∀ pt, wY_pivotal_29 post (nI s) (nI i) n a (nI (j + 1)) (nI m) F S sh ho pt co := fun q => by
      rw [Int64.add_zero] at q; exact q
    rw [wY_pivotal_29]
    refine ns_ysets hm ?_
    refine br_f (nI_ge hj (by omega)) (ns_yin ht (by omega) (ns_br (fun z0 => ?_) (fun z0 => ns_nx (fin0 ?_ pt))))
    · have h : ∀ pt, wY_pivotal_29 post (nI s) (nI i) n (a + ns_pv A B sh ho m s i j) (nI (j + 1)) (nI m) F S sh ho pt co := by
        rw [z0] at h; exact h
      unfold ns_pv at h
      have hp := ns_p2 (i := i) (j := 12) (by omega)
      rw [ns_shl (by omega), ns_or, ns_orA z0]
      refine ns_yst hR ht (ns_br (fun z1 => ns_nx (fin0 ?_ pt)) (fun z1 => ns_ycn hR ht hs (fun pt1 => ns_br (fun z2 => ns_ycn hR (by omega) hs (fun pt2 => ns_br (fun z3 => ns_nx (fin0 ?_ pt2)) (fun z3 => ns_ywt hm ht (nm_e (ns_nx ?_))))) (fun z2 => ns_nx (fin0 ?_ pt1)))))
      · rw [z1] at h; exact h
      · rw [z1, z2, z3] at h; exact h
      · rw [z1, z2, z3] at h; exact h pt2
      · rw [z1, z2] at h; exact h
    · rw [z0] at h; exact h
theorem ns_pvE (A B : Nat → Nat) (sh ho : Nat → Int32) {m s i : Nat} (hi : i < m) : ns_fo (fun a t => a + cond (t.testBit i) (ns_pv A B sh ho m s i (t - 2 ^ i)) 0) (2 ^ m) 0 0 = ns_fo (fun a t => a + cond (t.testBit i) 0 (ns_pv A B sh ho m s i t)) (2 ^ m) 0 0 := by
  rw [ns_smF, ns_smF]
  congr 1
  have e : 2 ^ m = 2 ^ (m - i - 1) * (2 ^ i + 2 ^ i) := by
    rw [← Nat.mul_two, ← Nat.pow_succ, ← Nat.pow_add]
    congr 1
    omega
  rw [e]
  exact ns_smP (ns_pv A B sh ho m s i) i _
end
section
/-! worst, worstState -/
noncomputable def ns_gX (A B : Nat → Nat) (sh ho : Nat → Int32) (m s : Nat) (a : Int64 × Int32) (t : Nat) : Int64 × Int32 := cond (ns_st ho m t (-1)) (cond (ns_cn A B t m s) a (if ns_wt sh ho m t (-1) ≤ a.1 then a else (ns_wt sh ho m t (-1), nI t))) a
noncomputable def ns_gV (A B : Nat → Nat) (sh ho : Nat → Int32) (m s : Nat) (a : Int64) (t : Nat) : Int64 := if ns_wt sh ho m t (-1) ≤ a then a else cond (ns_st ho m t (-1)) (cond (ns_cn A B t m s) a (ns_wt sh ho m t (-1))) a
theorem ns_gXV (A B : Nat → Nat) (sh ho : Nat → Int32) (m s : Nat) : ∀ d j a l, (ns_fo (ns_gX A B sh ho m s) d j (a, l)).1 = ns_fo (ns_gV A B sh ho m s) d j a := by
  intro d
  induction d with
  | zero => intro j a l; rfl
  | succ d ih =>
    intro j a l
    show (ns_fo (ns_gX A B sh ho m s) d (j + 1) ((ns_gX A B sh ho m s (a, l) j).1, (ns_gX A B sh ho m s (a, l) j).2)).1 = ns_fo (ns_gV A B sh ho m s) d (j + 1) (ns_gV A B sh ho m s a j)
    rw [ih]
    congr 1
    unfold ns_gX ns_gV
    by_cases c : ns_wt sh ho m j (-1) ≤ a
    · rw [if_pos c]
      have c2 : ns_wt sh ho m j (-1) ≤ (a, l).1 := c
      rw [if_pos c2]
      cases ns_st ho m j (-1) <;> cases ns_cn A B j m s <;> rfl
    · rw [if_neg c]
      have c2 : ¬ ns_wt sh ho m j (-1) ≤ (a, l).1 := c
      rw [if_neg c2]
      cases ns_st ho m j (-1) <;> cases ns_cn A B j m s <;> rfl
/-- t is the first of the failing states with the greatest weight a -/
def ns_Fst (A B : Nat → Nat) (sh ho : Nat → Int32) (m s : Nat) (a : Int64) (l : Int32) (j : Nat) : Prop :=
  (∀ t, t < j → ns_st ho m t (-1) = true → ns_cn A B t m s = false → ns_wt sh ho m t (-1) ≤ a) ∧
  ((a = 0 ∧ l = -2) ∨ (0 < a ∧ ∃ t0, t0 < j ∧ ns_st ho m t0 (-1) = true ∧ ns_cn A B t0 m s = false ∧ ns_wt sh ho m t0 (-1) = a ∧ l = nI t0 ∧ ∀ t, t < t0 → ns_st ho m t (-1) = true → ns_cn A B t m s = false → ¬ ns_wt sh ho m t (-1) = a))
theorem ns_FstI (A B : Nat → Nat) (sh ho : Nat → Int32) (m s : Nat) : ns_Fst A B sh ho m s (ns_fo (ns_gX A B sh ho m s) (2 ^ m) 0 (0, -2)).1 (ns_fo (ns_gX A B sh ho m s) (2 ^ m) 0 (0, -2)).2 (2 ^ m) := by
  refine ns_foI (ns_gX A B sh ho m s) (fun j a => ns_Fst A B sh ho m s a.1 a.2 j) (2 ^ m) ?_ (2 ^ m) 0 (0, -2) (Nat.zero_add _) ⟨fun t ht => absurd ht (Nat.not_lt_zero t), Or.inl ⟨rfl, rfl⟩⟩
  rintro ⟨a, l⟩ j hj ⟨h1, h2⟩
  have skip : (ns_st ho m j (-1) = true → ns_cn A B j m s = false → ns_wt sh ho m j (-1) ≤ a) → ns_Fst A B sh ho m s a l (j + 1) := by
    intro q
    refine ⟨fun t ht => ?_, ?_⟩
    · by_cases e : t = j
      · rw [e]; exact q
      · exact h1 t (by omega)
    · rcases h2 with h2 | ⟨h2, t0, h3, h4⟩
      · exact Or.inl h2
      · exact Or.inr ⟨h2, t0, by omega, h4⟩
  unfold ns_gX
  cases z1 : ns_st ho m j (-1)
  · exact skip (fun q => by rw [z1] at q; exact absurd q (by decide))
  · cases z2 : ns_cn A B j m s
    · by_cases c : ns_wt sh ho m j (-1) ≤ a
      · have c2 : ns_wt sh ho m j (-1) ≤ (a, l).1 := c
        show ns_Fst A B sh ho m s (if ns_wt sh ho m j (-1) ≤ (a, l).1 then (a, l) else (ns_wt sh ho m j (-1), nI j)).1 (if ns_wt sh ho m j (-1) ≤ (a, l).1 then (a, l) else (ns_wt sh ho m j (-1), nI j)).2 (j + 1)
        rw [if_pos c2]
        exact skip (fun _ _ => c)
      · have c2 : ¬ ns_wt sh ho m j (-1) ≤ (a, l).1 := c
        show ns_Fst A B sh ho m s (if ns_wt sh ho m j (-1) ≤ (a, l).1 then (a, l) else (ns_wt sh ho m j (-1), nI j)).1 (if ns_wt sh ho m j (-1) ≤ (a, l).1 then (a, l) else (ns_wt sh ho m j (-1), nI j)).2 (j + 1)
        rw [if_neg c2]
        have gt : a < ns_wt sh ho m j (-1) := Int64.not_le.mp c
        have a0 : (0 : Int64) ≤ a := by
          rcases h2 with ⟨h2, _⟩ | ⟨h2, _⟩
          · have h2 : a = 0 := h2
            rw [h2]; exact Int64.le_refl 0
          · exact Int64.le_of_lt h2
        refine ⟨fun t ht g1 g2 => ?_, Or.inr ⟨Int64.lt_of_le_of_lt a0 gt, j, by omega, z1, z2, rfl, rfl, fun t ht g1 g2 q => ?_⟩⟩
        · by_cases e : t = j
          · rw [e]; exact Int64.le_refl _
          · exact Int64.le_trans (h1 t (by omega) g1 g2) (Int64.le_of_lt gt)
        · have := h1 t ht g1 g2
          rw [q] at this
          exact c this
    · exact skip (fun _ q => by rw [z2] at q; exact absurd q (by decide))
theorem ns_xqX {post : Int32 → Prop} {m s : Nat} {F S sh ho : Nat → Int32} {A B : Nat → Nat} (hR : ns_R m F S ho A B) (hs : s < 32) (h : post (ns_fo (ns_gX A B sh ho m s) (2 ^ m) 0 (0, -2)).2) : ∃ n, wX_worstState_18 post (nI s) (nI m) F S sh ho n 0 (-2) 0 := by
  have hm := hR.1
  have hf := ns_full hm
  refine ⟨2 ^ m + 1, ns_loop (fun n a j => wX_worstState_18 post (nI s) (nI m) F S sh ho n a.1 a.2 (nI j)) (ns_gX A B sh ho m s) (fun a => post a.2) (2 ^ m) ?_ ?_ (2 ^ m) 0 (0, -2) (Nat.zero_add _) h⟩
  · intro n a h
    exact br_t (ns_end hm) h
  · intro n a j hj h
    unfold ns_gX at h
    have ht : j < 2 ^ 31 := by omega
    refine br_f (ns_top hm hj) (ns_xst hm ht (ns_br (fun z1 => ns_nx ?_) (fun z1 => ns_xcn hR ht hs (ns_br (fun z2 => ns_xwt hm ht (br_c (fun q => ns_nx ?_) (fun q => ns_nx ?_))) (fun z2 => ns_nx ?_)))))
    · rw [z1] at h; exact h
    · rw [z1, z2, if_pos q] at h; exact h
    · rw [z1, z2, if_neg q] at h; exact h
    · rw [z1, z2] at h; exact h
theorem ns_yqX {post : Int64 → SY → Prop} {m s : Nat} {F S sh ho pt co : Nat → Int32} {A B : Nat → Nat} (hR : ns_R m F S ho A B) (hs : s < 32) (h : ∀ pt, post (ns_fo (ns_gX A B sh ho m s) (2 ^ m) 0 (0, -2)).1 (nI m, F, S, sh, ho, pt, co)) : wpY_worstWeight post (nI m, F, S, sh, ho, pt, co) (nI s) := by
  have hm := hR.1
  have hf := ns_full hm
  rw [ns_gXV] at h
  unfold wpY_worstWeight
  dsimp only
  refine ⟨2 ^ m + 1, ns_loop (fun n a j => ∀ pt, wY_worstWeight_5 post (nI s) n a (nI j) (nI m) F S sh ho pt co) (ns_gV A B sh ho m s) (fun a => ∀ pt, post a (nI m, F, S, sh, ho, pt, co)) (2 ^ m) ?_ ?_ (2 ^ m) 0 0 (Nat.zero_add _) h pt⟩
  · intro n a h pt
    rw [wY_worstWeight_5]
    refine ns_ysets hm ?_
    exact br_t (nI_le (Nat.le_refl _) (by omega)) (h pt)
  · intro n a j hj h pt
    unfold ns_gV at h
    have ht : j < 2 ^ 31 := by omega
    rw [wY_worstWeight_5]
    refine ns_ysets hm ?_
    refine br_f (nI_ge hj (by omega)) (ns_ywt hm ht (br_c (fun q => ns_nx ?_) (fun q => ns_yst hR ht (ns_br (fun z1 => ns_nx ?_) (fun z1 => ns_ycn hR ht hs (fun pt' => ns_br (fun z2 => ns_nx ?_) (fun z2 => ns_nx ?_)))))))
    · rw [if_pos q] at h; exact h pt
    · rw [if_neg q, z1] at h; exact h pt
    · rw [if_neg q, z1, z2] at h; exact h pt'
    · rw [if_neg q, z1, z2] at h; exact h pt'
theorem ns_yqZ {post : Int32 → SY → Prop} {m s : Nat} {a : Int64} {l : Int32} {F S sh ho pt co : Nat → Int32} {A B : Nat → Nat} (hR : ns_R m F S ho A B) (hs : s < 32) (hI : ns_Fst A B sh ho m s a l (2 ^ m)) (h : ∀ pt, post l (nI m, F, S, sh, ho, pt, co)) : ∃ n, wY_worstState_19 post (nI s) a n 0 (nI m) F S sh ho pt co := by
  have hm := hR.1
  have hf := ns_full hm
  obtain ⟨h1, ⟨h2, h3⟩ | ⟨h2, t0, h3, g1, g2, g3, g4, g5⟩⟩ := hI
  · refine ⟨2 ^ m + 1, ns_loop (fun n (_ : Unit) j => ∀ pt, wY_worstState_19 post (nI s) a n (nI j) (nI m) F S sh ho pt co) (fun u _ => u) (fun _ => ∀ pt, post l (nI m, F, S, sh, ho, pt, co)) (2 ^ m) ?_ ?_ (2 ^ m) 0 () (Nat.zero_add _) h pt⟩
    · intro n _ h pt
      rw [wY_worstState_19]
      refine ns_ysets hm ?_
      rw [← h3]
      exact br_t (nI_le (Nat.le_refl _) (by omega)) (h pt)
    · intro n _ j hj h pt
      rw [wY_worstState_19]
      refine ns_ysets hm ?_
      exact br_f (nI_ge hj (by omega)) (br_t (by rw [h2]; exact Int64.le_refl 0) (ns_nx (h pt)))
  · refine ⟨t0 + 1, ns_loop (fun n (_ : Unit) j => ∀ pt, wY_worstState_19 post (nI s) a n (nI j) (nI m) F S sh ho pt co) (fun u _ => u) (fun _ => ∀ pt, post l (nI m, F, S, sh, ho, pt, co)) t0 ?_ ?_ t0 0 () (Nat.zero_add _) h pt⟩
    · intro n _ h pt
      rw [wY_worstState_19]
      refine ns_ysets hm ?_
      refine br_f (nI_ge h3 (by omega)) (br_f (Int64.not_le.mpr h2) (ns_ywt hm (by omega) (br_t g3 (ns_yst hR (by omega) ?_))))
      rw [g1]
      refine br_f (by decide) (ns_ycn hR (by omega) hs (fun pt' => ?_))
      rw [g2]
      refine br_t rfl ?_
      rw [← g4]
      exact h pt'
    · intro n _ j hj h pt
      have ht : j < 2 ^ 31 := by omega
      rw [wY_worstState_19]
      refine ns_ysets hm ?_
      refine br_f (nI_ge (by omega) (by omega)) (br_f (Int64.not_le.mpr h2) (ns_ywt hm ht (br_c (fun q => ns_yst hR ht (ns_br (fun z1 => ns_nx (h pt)) (fun z1 => ns_ycn hR ht hs (fun pt' => ns_br (fun z2 => ?_) (fun z2 => ns_nx (h pt')))))) (fun q => ns_nx (h pt)))))
      exact absurd q (g5 j hj z1 z2)
end
section
/-! colourings -/
def ns_cg (A B : Nat → Nat) (m : Nat) (f : Nat → Nat → Nat) (a : Int32) (c : Nat) : Int32 := cond (ns_np A B m (f c)) (a + 1) a
theorem ns_xqK {post : Int32 → Prop} {m q : Nat} {F S sh ho : Nat → Int32} {A B : Nat → Nat} (hR : ns_R m F S ho A B) (hq : q ≤ 4) (h : post (ns_fo (fun a c => cond (ns_ub q c) (ns_cg A B m ns_co a c) a) 1024 0 0)) : ∃ n, wX_colourings_15 post (nI q) (nI m) F S sh ho n 0 0 := by
  have hm := hR.1
  refine ⟨1024 + 1, ns_loop (fun n a j => wX_colourings_15 post (nI q) (nI m) F S sh ho n a (nI j)) (fun a c => cond (ns_ub q c) (ns_cg A B m ns_co a c) a) post 1024 ?_ ?_ 1024 0 0 rfl h⟩
  · intro n a h
    exact br_t (nI_le (b := 1024) (Nat.le_refl 1024) (by decide)) h
  · intro n a j hj h
    refine br_f (nI_ge (b := 1024) hj (by decide)) (ns_xub hj hq (ns_br (fun z1 => ns_nx ?_) (fun z1 => ns_xpe hR hj (ns_br (fun z2 => nm_e (ns_nx ?_)) (fun z2 => ns_nx ?_)))))
    · rw [z1] at h; exact h
    · rw [Bool.not_eq_false'] at z2
      unfold ns_cg at h
      rw [z1, z2] at h; exact h
    · rw [Bool.not_eq_true'] at z2
      unfold ns_cg at h
      rw [z1, z2] at h; exact h
def ns_dg (q w v : Nat) : Nat := w / q ^ v % q
theorem ns_y78 {post : Int32 → SY → Prop} {J26 : Int32 → Int32 → (Nat → Int32) → (Nat → Int32) → (Nat → Int32) → (Nat → Int32) → (Nat → Int32) → (Nat → Int32) → Prop} {m w : Nat} {x1 x2 x3 : Int32} {F S sh ho pt co : Nat → Int32} {A B : Nat → Nat} {f : Nat → Nat} (hR : ns_R m F S ho A B) (hf : ∀ v, v < 5 → f v < 2 ^ 31) (hc : ∀ v, v < 5 → co v = nI (f v)) (h : J26 (cond (ns_np A B m f) (x3 + 1) x3) (nI (w + 1)) F S sh ho pt co) : ∃ n, wY_colourings_78 post J26 x1 x2 x3 (nI w) (nI m) F S sh ho pt co n 1 0 := by
  have hm := hR.1
  have h0 : J26 (cond (ns_fo (fun a j => a && ns_pe1 A B f j) m 0 true) (x3 + 1) x3) (nI (w + 1)) F S sh ho pt co := by
    rw [ns_allA]; exact h
  refine ⟨m + 1, ns_loop (fun n (a : Bool) i => wY_colourings_78 post J26 x1 x2 x3 (nI w) (nI m) F S sh ho pt co n (ns_b a) (nI i)) (fun a i => a && ns_pe1 A B f i) (fun a => J26 (cond a (x3 + 1) x3) (nI (w + 1)) F S sh ho pt co) m ?_ ?_ m 0 true (Nat.zero_add m) h0⟩
  · intro n a h
    refine br_t (nI_le (Nat.le_refl m) (by omega)) (ns_br (fun z => ns_nx ?_) (fun z => nm_e (ns_nx ?_)))
    · rw [z] at h; exact h
    · rw [z] at h; exact h
  · intro n a i hi h
    have hr := hR.2 i hi
    have hin : vp_in (nI i) 12 := vp_in_nI (by omega) (by decide)
    have e : (nI i).toNatClampNeg = i := nI_clamp (by omega)
    have eA : (nI (A i)).toNatClampNeg = A i := nI_clamp (by omega)
    have eB : (nI (B i)).toNatClampNeg = B i := nI_clamp (by omega)
    refine br_f (nI_ge hi (by omega)) (ns_br (fun z => ns_nx ?_) (fun z => ⟨hin, ?_⟩))
    · rw [z] at h; exact h
    · rw [z, Bool.true_and] at h
      unfold ns_pe1 at h
      rw [e, hr.1, hr.2.2.1, eA, eB, hc _ hr.2.1, hc _ hr.2.2.2.1]
      refine ⟨vp_in_nI hr.2.1 (by decide), hin, vp_in_nI hr.2.2.2.1 (by decide), ns_if (nI_eq (hf _ hr.2.1) (hf _ hr.2.2.2.1)) (fun q => ns_nx ?_) (fun q => ns_nx ?_)⟩
      · rw [decide_eq_true q] at h; exact h
      · rw [decide_eq_false q] at h; exact h
theorem ns_y42 {post : Int32 → SY → Prop} {J26 : Int32 → Int32 → (Nat → Int32) → (Nat → Int32) → (Nat → Int32) → (Nat → Int32) → (Nat → Int32) → (Nat → Int32) → Prop} {m w q : Nat} {x2 x3 : Int32} {F S sh ho pt : Nat → Int32} {A B : Nat → Nat} (hR : ns_R m F S ho A B) (hq0 : 0 < q) (hq : q ≤ 4) (hw : w < 2 ^ 31) (h : ∀ co, J26 (cond (ns_np A B m (ns_dg q w)) (x3 + 1) x3) (nI (w + 1)) F S sh ho pt co) : ∀ d k co, k + d = 5 → (∀ v, v < k → co v = nI (ns_dg q w v)) → wY_colourings_42 post J26 (nI q) x2 x3 (nI w) 1 (nI m) (d + 1) (nI (w / q ^ k)) (nI k) F S sh ho pt co := by
  have hl : ∀ v, ns_dg q w v < q := fun v => Nat.mod_lt _ hq0
  intro d
  induction d with
  | zero =>
    intro k co hk hc
    have hk5 : k = 5 := hk
    subst hk5
    exact br_t (nI_le (b := 5) (Nat.le_refl 5) (by decide)) (ns_y78 hR (fun v _ => by have := hl v; omega) hc (h co))
  | succ d ih =>
    intro k co hk hc
    have hk5 : k < 5 := by omega
    have ec : (nI k).toNatClampNeg = k := nI_clamp (by omega)
    have hin : vp_in (nI k) 5 := vp_in_nI hk5 (by decide)
    have hwk : w / q ^ k < 2 ^ 31 := Nat.lt_of_le_of_lt (Nat.div_le_self _ _) hw
    have e1 : nI (w / q ^ k) - nI (w / q ^ k) / nI q * nI q = nI (ns_dg q w k) := pk_rem hwk hq0 (by omega)
    have e2 : nI (w / q ^ k) / nI q = nI (w / q ^ (k + 1)) := by
      rw [pk_div hwk hq0 (by omega), Nat.div_div_eq_div_mul, Nat.pow_succ]
    have qn : ¬ nI q = 0 := nI_ne0 hq0 (by omega)
    refine br_f (nI_ge (b := 5) hk5 (by decide)) (br_f (nI_nle hq0 (by omega)) ⟨qn, hin, ?_⟩)
    rw [e1, e2, ec]
    refine nm_e ⟨qn, nm_e (ns_nx (ih (k + 1) _ (by omega) ?_))⟩
    intro v hv
    by_cases z : v = k
    · rw [z, pk_us]
    · rw [pk_un z]; exact hc v (by omega)
theorem ns_yqK {post : Int32 → SY → Prop} {m q : Nat} {F S sh ho pt co : Nat → Int32} {A B : Nat → Nat} (hR : ns_R m F S ho A B) (hq : q ≤ 4) (h : ∀ co, post (ns_fo (ns_cg A B m (ns_dg q)) (q ^ 5) 0 0) (nI m, F, S, sh, ho, pt, co)) : ∃ n, wY_colourings_26 post (nI q) (nI (q ^ 5)) (nI m) n 0 0 F S sh ho pt co := by
  have hm := hR.1
  have hw : q ^ 5 ≤ 1024 := (by decide +kernel : ∀ q, q < 5 → q ^ 5 ≤ 1024) q (by omega)
  refine ⟨q ^ 5 + 1, ns_loop (fun n a j => ∀ co, wY_colourings_26 post (nI q) (nI (q ^ 5)) (nI m) n a (nI j) F S sh ho pt co) (ns_cg A B m (ns_dg q)) (fun a => ∀ co, post a (nI m, F, S, sh, ho, pt, co)) (q ^ 5) ?_ ?_ (q ^ 5) 0 0 (Nat.zero_add _) h co⟩
  · intro n a h co
    exact br_t (nI_le (Nat.le_refl _) (by omega)) (h co)
  · intro n a j hj h co
    have hq0 : 0 < q := by
      rcases Nat.eq_zero_or_pos q with z | z
      · rw [z] at hj; exact absurd hj (Nat.not_lt_zero j)
      · exact z
    refine br_f (nI_ge hj (by omega)) ⟨5 + 1, ?_⟩
    have key := ns_y42 (post := post) (J26 := wY_colourings_26 post (nI q) (nI (q ^ 5)) (nI m) n) (x2 := nI (q ^ 5)) (x3 := a) (pt := pt) (w := j) hR hq0 hq (by omega) h 5 0 co rfl (fun v hv => absurd hv (Nat.not_lt_zero v))
    rw [Nat.pow_zero, Nat.div_one] at key
    exact key
/-! the two orders are one -/
theorem ns_foL {α : Type} (g : α → Nat → α) : ∀ d j a, ns_fo g d j a = (List.range' j d).foldl g a := by
  intro d
  induction d with
  | zero => intro j a; rfl
  | succ d ih =>
    intro j a
    rw [ns_fo, ih]
    rfl
def ns_rc (q w : Nat) : Nat := w % q + 4 * (w / q % q) + 16 * (w / q ^ 2 % q) + 64 * (w / q ^ 3 % q) + 256 * (w / q ^ 4 % q)
set_option maxRecDepth 100000 in
theorem ns_k0 : (List.range' 0 1024).filter (ns_ub 0) = (List.range' 0 (0 ^ 5)).map (ns_rc 0) := by decide +kernel
set_option maxRecDepth 100000 in
theorem ns_k1 : (List.range' 0 1024).filter (ns_ub 1) = (List.range' 0 (1 ^ 5)).map (ns_rc 1) := by decide +kernel
set_option maxRecDepth 100000 in
theorem ns_k2 : (List.range' 0 1024).filter (ns_ub 2) = (List.range' 0 (2 ^ 5)).map (ns_rc 2) := by decide +kernel
set_option maxRecDepth 100000 in
theorem ns_k3 : (List.range' 0 1024).filter (ns_ub 3) = (List.range' 0 (3 ^ 5)).map (ns_rc 3) := by decide +kernel
set_option maxRecDepth 100000 in
theorem ns_k4 : (List.range' 0 1024).filter (ns_ub 4) = (List.range' 0 (4 ^ 5)).map (ns_rc 4) := by decide +kernel
set_option maxRecDepth 100000 in
theorem ns_kd : ∀ q, q < 5 → (List.range' 0 (q ^ 5)).all (fun w => (List.range 5).all (fun v => ns_co (ns_rc q w) v == ns_dg q w v)) = true := by decide +kernel
theorem ns_kk {q : Nat} (hq : q ≤ 4) : (List.range' 0 1024).filter (ns_ub q) = (List.range' 0 (q ^ 5)).map (ns_rc q) := by
  have c : q = 0 ∨ q = 1 ∨ q = 2 ∨ q = 3 ∨ q = 4 := by omega
  rcases c with c | c | c | c | c <;> subst c
  · exact ns_k0
  · exact ns_k1
  · exact ns_k2
  · exact ns_k3
  · exact ns_k4
theorem ns_npE {A B : Nat → Nat} {m : Nat} (hE : ns_E A B m) {f g : Nat → Nat} (h : ∀ v, v < 5 → f v = g v) : ns_np A B m f = ns_np A B m g := by
  unfold ns_np
  refine ns_allE _ _ m (fun j hj => ?_) m 0 (Nat.zero_add m)
  unfold ns_pe1
  rw [h _ (hE j hj).1, h _ (hE j hj).2]
theorem ns_flE {α : Type} (g g' : α → Nat → α) : ∀ (l : List Nat) (a : α), (∀ w, w ∈ l → ∀ a, g a w = g' a w) → l.foldl g a = l.foldl g' a := by
  intro l
  induction l with
  | nil => intro a _; rfl
  | cons x l ih =>
    intro a h
    rw [List.foldl_cons, List.foldl_cons, h x (List.mem_cons_self ..)]
    exact ih _ (fun w hw => h w (List.mem_cons_of_mem x hw))
theorem ns_flF {α : Type} (p : Nat → Bool) (g : α → Nat → α) : ∀ (l : List Nat) (a : α), l.foldl (fun a c => cond (p c) (g a c) a) a = (l.filter p).foldl g a := by
  intro l
  induction l with
  | nil => intro a; rfl
  | cons x l ih =>
    intro a
    rw [List.foldl_cons, ih]
    cases z : p x
    · rw [List.filter_cons_of_neg (by rw [z]; decide)]; rfl
    · rw [List.filter_cons_of_pos z, List.foldl_cons]; rfl
theorem ns_colE {A B : Nat → Nat} {m q : Nat} (hE : ns_E A B m) (hq : q ≤ 4) : ns_fo (fun a c => cond (ns_ub q c) (ns_cg A B m ns_co a c) a) 1024 0 0 = ns_fo (ns_cg A B m (ns_dg q)) (q ^ 5) 0 0 := by
  rw [ns_foL, ns_foL, ns_flF, ns_kk hq, List.foldl_map]
  refine ns_flE _ _ _ _ (fun w hw a => ?_)
  have h := ns_kd q (by omega)
  rw [List.all_eq_true] at h
  have h := h w hw
  rw [List.all_eq_true] at h
  unfold ns_cg
  rw [ns_npE hE (fun v hv => eq_of_beq (h v (List.mem_range.mpr hv)))]
end
section
/-! the relation, and the calls that write -/
def ns_Q (m : Nat) (F S ho : Nat → Int32) : Prop := m ≤ 12 ∧ ∀ i, i < m → (∃ a, a < 5 ∧ F i = nI a) ∧ (∃ b, b < 5 ∧ S i = nI b) ∧ (ho i = 0 ∨ ho i = 1 ∨ ho i = 2)
theorem ns_QR {m : Nat} {F S ho : Nat → Int32} (h : ns_Q m F S ho) : ∃ A B, ns_R m F S ho A B := by
  refine ⟨fun i => (F i).toNatClampNeg, fun i => (S i).toNatClampNeg, h.1, fun i hi => ?_⟩
  obtain ⟨⟨a, ha, ea⟩, ⟨b, hb, eb⟩, hh⟩ := h.2 i hi
  have e1 : (F i).toNatClampNeg = a := by rw [ea]; exact nI_clamp (by omega)
  have e2 : (S i).toNatClampNeg = b := by rw [eb]; exact nI_clamp (by omega)
  dsimp only
  rw [e1, e2]
  exact ⟨ea, ha, eb, hb, hh⟩
def i_Rel (k : Nat) (u : SX) (v : SY) : Prop := ∃ m F S sh ho pt co, ns_Q m F S ho ∧ u = (nI m, F, S, sh, ho) ∧ v = (nI m, F, S, sh, ho, pt, co)
theorem ns_rel {k m : Nat} {F S sh ho : Nat → Int32} (h : ns_Q m F S ho) (pt co : Nat → Int32) : i_Rel k (nI m, F, S, sh, ho) (nI m, F, S, sh, ho, pt, co) := ⟨m, F, S, sh, ho, pt, co, h, rfl, rfl⟩
theorem i_up {k : Nat} {u : SX} {v : SY} (h : i_Rel k u v) : i_Rel (k + 4) u v := h
theorem i_vc0 : wpX_init (fun u => wpY_init (fun v => i_Rel 0 u v)) :=
  ⟨0, fun _ => 0, fun _ => 0, fun _ => 0, fun _ => 0, fun _ => 0, fun _ => 0, ⟨by decide, fun i hi => absurd hi (Nat.not_lt_zero i)⟩, rfl, rfl⟩
theorem ns_nd (x : Int32) : (x < 0 ∨ (¬ x < 0 ∧ 5 ≤ x ∧ 4 < x)) ∨ ∃ s, s < 5 ∧ x = nI s := by
  rcases pk_ix x (n := 5) (by decide) with h | h | h
  · exact Or.inl (Or.inl h)
  · obtain ⟨k, hk, rfl⟩ := nI_of (x := x) (by
      intro q
      exact absurd (Int32.le_trans h (Int32.le_of_lt q)) (by decide))
    have h2 := h
    rw [nI_leI (by decide) hk] at h2
    exact Or.inl (Or.inr ⟨nI_pos hk, h, nI_lt (a := 4) (by omega) hk⟩)
  · exact Or.inr h
theorem ns_xnd0 {post : Int32 → Prop} {x : Int32} (hx : x < 0 ∨ (¬ x < 0 ∧ 5 ≤ x ∧ 4 < x)) (h : post 0) : wpX_isNode post x := by
  unfold wpX_isNode
  rcases hx with hx | ⟨h1, h2, h3⟩
  · exact br_t hx h
  · exact br_f h1 (br_t h2 h)
theorem ns_xnd1 {post : Int32 → Prop} {s : Nat} (hs : s < 5) (h : post 1) : wpX_isNode post (nI s) := by
  unfold wpX_isNode
  exact br_f (nI_pos (by omega)) (br_f (nI_ge (b := 5) hs (by decide)) h)
theorem ns_ynd0 {post : Int32 → Prop} {x e : Int32} {F S sh ho pt co : Nat → Int32} (hx : x < 0 ∨ (¬ x < 0 ∧ 5 ≤ x ∧ 4 < x)) (h : post 0) : wpY_isNode post (e, F, S, sh, ho, pt, co) x := by
  unfold wpY_isNode
  dsimp only
  rcases hx with hx | ⟨h1, h2, h3⟩
  · exact br_t hx h
  · exact br_f h1 (br_t h3 h)
theorem ns_ynd1 {post : Int32 → Prop} {s : Nat} {e : Int32} {F S sh ho pt co : Nat → Int32} (hs : s < 5) (h : post 1) : wpY_isNode post (e, F, S, sh, ho, pt, co) (nI s) := by
  unfold wpY_isNode
  dsimp only
  exact br_f (nI_pos (by omega)) (br_f (nI_nlt (a := 4) (by omega) (by decide)) h)
theorem ns_xed0 {post : Int32 → Prop} {x e : Int32} {F S sh ho : Nat → Int32} (hx : x < 0 ∨ e ≤ x) (h : post 0) : wpX_isEdge post (e, F, S, sh, ho) x := by
  unfold wpX_isEdge
  dsimp only
  by_cases h0 : x < 0
  · exact br_t h0 h
  · exact br_f h0 (br_t (hx.resolve_left h0) h)
theorem ns_xed1 {post : Int32 → Prop} {m i : Nat} {F S sh ho : Nat → Int32} (hm : m ≤ 12) (hi : i < m) (h : post 1) : wpX_isEdge post (nI m, F, S, sh, ho) (nI i) := by
  unfold wpX_isEdge
  dsimp only
  exact br_f (nI_pos (by omega)) (br_f (nI_ge hi (by omega)) h)
theorem ns_yed0 {post : Int32 → Prop} {x e : Int32} {F S sh ho pt co : Nat → Int32} (hx : x < 0 ∨ e ≤ x) (h : post 0) : wpY_isEdge post (e, F, S, sh, ho, pt, co) x := by
  unfold wpY_isEdge
  dsimp only
  by_cases h0 : x < 0
  · exact br_t h0 h
  · exact br_f h0 (br_t (hx.resolve_left h0) h)
theorem ns_yed1 {post : Int32 → Prop} {m i : Nat} {F S sh ho pt co : Nat → Int32} (hm : m ≤ 12) (hi : i < m) (h : post 1) : wpY_isEdge post (nI m, F, S, sh, ho, pt, co) (nI i) := by
  unfold wpY_isEdge
  dsimp only
  exact br_f (nI_pos (by omega)) (br_f (nI_ge hi (by omega)) h)
theorem ns_xsh0 {post : Int32 → Prop} {x : Int32} (hx : x < 0 ∨ (¬ x < 0 ∧ 16 < x)) (h : post 0) : wpX_isShare post x := by
  unfold wpX_isShare
  rcases hx with hx | ⟨h1, h2⟩
  · exact br_t hx h
  · exact br_f h1 (br_t h2 h)
theorem ns_xsh1 {post : Int32 → Prop} {x : Int32} (h1 : ¬ x < 0) (h2 : ¬ 16 < x) (h : post 1) : wpX_isShare post x := by
  unfold wpX_isShare
  exact br_f h1 (br_f h2 h)
theorem ns_shc (x : Int32) : (x < 0 ∨ (¬ x < 0 ∧ 16 < x)) ∨ (¬ x < 0 ∧ ¬ 16 < x) := by
  by_cases h1 : x < 0
  · exact Or.inl (Or.inl h1)
  · by_cases h2 : 16 < x
    · exact Or.inl (Or.inr ⟨h1, h2⟩)
    · exact Or.inr ⟨h1, h2⟩
theorem ns_ysh0 {A B C : Prop} {x : Int32} (hx : x < 0 ∨ (¬ x < 0 ∧ 16 < x)) (h : A) (h' : C) : (x < 0 → A) ∧ (¬ x < 0 → ((x ≤ 16 → B) ∧ (¬ x ≤ 16 → C))) := by
  rcases hx with hx | ⟨h1, h2⟩
  · exact br_t hx h
  · exact br_f h1 (br_f (Int32.not_le.mpr h2) h')
theorem ns_Qu {m : Nat} {F S ho : Nat → Int32} {a b : Nat} {x : Int32} (h : ns_Q m F S ho) (hm : m < 12) (ha : a < 5) (hb : b < 5) (hx : x = 0 ∨ x = 1 ∨ x = 2) : ns_Q (m + 1) (upd F m (nI a)) (upd S m (nI b)) (upd ho m x) := by
  refine ⟨by omega, fun i hi => ?_⟩
  by_cases e : i = m
  · rw [e, pk_us, pk_us, pk_us]
    exact ⟨⟨a, ha, rfl⟩, ⟨b, hb, rfl⟩, hx⟩
  · rw [pk_un e, pk_un e, pk_un e]
    exact h.2 i (by omega)
theorem i_vc_link {k : Nat} {u : SX} {v : SY} (I : i_Rel k u v) (hk : k + 4 ≤ 2048) (v1 : Int32) (v2 : Int32) (v3 : Int32) : wpX_link (fun r u' => wpY_link (fun r' v' => r' = r ∧ i_Rel (k + 4) u' v') v v1 v2 v3) u v1 v2 v3 := by
  obtain ⟨m, F, S, sh, ho, pt, co, hQ, rfl, rfl⟩ := I
  have hm := hQ.1
  unfold wpX_link wpY_link
  dsimp only
  rcases ns_nd v1 with h1 | ⟨a, ha, rfl⟩
  · refine ns_xnd0 h1 (br_t rfl ?_)
    refine ns_ynd0 h1 (br_t rfl ?_)
    exact ⟨rfl, ns_rel hQ _ _⟩
  · refine ns_xnd1 ha (br_f (by decide) ?_)
    rcases ns_nd v2 with h2 | ⟨b, hb, rfl⟩
    · refine ns_xnd0 h2 (br_t rfl ?_)
      refine ns_ynd1 ha (br_f (by decide) ?_)
      refine ns_ynd0 h2 (br_t rfl ?_)
      exact ⟨rfl, ns_rel hQ _ _⟩
    · refine ns_xnd1 hb (br_f (by decide) ?_)
      by_cases e : nI a = nI b
      · refine br_t e ?_
        refine ns_ynd1 ha (br_f (by decide) ?_)
        refine ns_ynd1 hb (br_f (by decide) ?_)
        exact br_t e ⟨rfl, ns_rel hQ _ _⟩
      · refine br_f e ?_
        rcases ns_shc v3 with h3 | ⟨h3, h4⟩
        · refine ns_xsh0 h3 (br_t rfl ?_)
          refine ns_ynd1 ha (br_f (by decide) ?_)
          refine ns_ynd1 hb (br_f (by decide) ?_)
          exact br_f e (ns_ysh0 h3 ⟨rfl, ns_rel hQ _ _⟩ ⟨rfl, ns_rel hQ _ _⟩)
        · refine ns_xsh1 h3 h4 (br_f (by decide) ?_)
          refine pk_lt m 12 (fun q => ?_) (fun q => ?_)
          · have hin : vp_in (nI m) 12 := vp_in_nI q (by decide)
            have ec : (nI m).toNatClampNeg = m := nI_clamp (by omega)
            rw [ec]
            refine ⟨hin, nm_e ⟨hin, nm_e ⟨hin, nm_e ⟨hin, nm_e (ns_nx ?_)⟩⟩⟩⟩
            refine ns_ynd1 ha (br_f (by decide) ?_)
            refine ns_ynd1 hb (br_f (by decide) ?_)
            refine br_f e (br_f h3 (br_t (Int32.not_lt.mp h4) (pk_eq m 12 (fun z => absurd z (by omega)) (fun _ => ?_))))
            refine ⟨hin, nm_e ⟨hin, nm_e ⟨hin, nm_e ⟨hin, nm_e (ns_nx ?_)⟩⟩⟩⟩
            exact ⟨nI_pred m, ns_rel (ns_Qu hQ q ha hb (Or.inr (Or.inr rfl))) _ _⟩
          · refine ns_ynd1 ha (br_f (by decide) ?_)
            refine ns_ynd1 hb (br_f (by decide) ?_)
            exact br_f e (br_f h3 (br_t (Int32.not_lt.mp h4) (pk_eq m 12 (fun z => ⟨rfl, ns_rel hQ _ _⟩) (fun z => absurd z (by omega)))))
/-! unlink -/
def ns_gU (a : (Nat → Int32) × (Nat → Int32) × (Nat → Int32) × (Nat → Int32)) (j : Nat) : (Nat → Int32) × (Nat → Int32) × (Nat → Int32) × (Nat → Int32) := (upd a.1 j (a.1 (j + 1)), upd a.2.1 j (a.2.1 (j + 1)), upd a.2.2.1 j (a.2.2.1 (j + 1)), upd a.2.2.2 j (a.2.2.2 (j + 1)))
theorem ns_xul {post : Int32 → SX → Prop} {m : Nat} (hm : m + 1 ≤ 12) : ∀ d j a, j + d = m → post (nI m) (nI m, (ns_fo ns_gU d j a).1, (ns_fo ns_gU d j a).2.1, (ns_fo ns_gU d j a).2.2.1, (ns_fo ns_gU d j a).2.2.2) → wX_unlink_12 post (nI (m + 1)) (d + 1) (nI j) a.1 a.2.1 a.2.2.1 a.2.2.2 := by
  have ep : nI (m + 1) - 1 = nI m := nI_pred m
  refine ns_loop (fun n a j => wX_unlink_12 post (nI (m + 1)) n (nI j) a.1 a.2.1 a.2.2.1 a.2.2.2) ns_gU (fun a => post (nI m) (nI m, a.1, a.2.1, a.2.2.1, a.2.2.2)) m ?_ ?_
  · intro n a h
    rw [wX_unlink_12]
    rw [ep]
    exact br_t (nI_le (Nat.le_refl m) (by omega)) (nm_e h)
  · intro n a j hj h
    have i1 : vp_in (nI j) 12 := vp_in_nI (by omega) (by decide)
    have i2 : vp_in (nI (j + 1)) 12 := vp_in_nI (by omega) (by decide)
    have e1 : (nI j).toNatClampNeg = j := nI_clamp (by omega)
    have e2 : (nI (j + 1)).toNatClampNeg = j + 1 := nI_clamp (by omega)
    rw [wX_unlink_12]
    dsimp only
    rw [ep, nI_1, e1, e2]
    exact br_f (nI_ge hj (by omega)) ⟨i2, i1, nm_e ⟨i2, i1, nm_e ⟨i2, i1, nm_e ⟨i2, i1, nm_e (nm_e h)⟩⟩⟩⟩
theorem ns_yul {post : Int32 → SY → Prop} {m : Nat} {pt co : Nat → Int32} (hm : m + 1 ≤ 12) : ∀ d j a, j + d = m → post (nI m) (nI m, (ns_fo ns_gU d j a).1, (ns_fo ns_gU d j a).2.1, (ns_fo ns_gU d j a).2.2.1, (ns_fo ns_gU d j a).2.2.2, pt, co) → wY_unlink_22 post (nI m) (d + 1) (nI j) a.1 a.2.1 a.2.2.1 a.2.2.2 pt co := by
  refine ns_loop (fun n a j => wY_unlink_22 post (nI m) n (nI j) a.1 a.2.1 a.2.2.1 a.2.2.2 pt co) ns_gU (fun a => post (nI m) (nI m, a.1, a.2.1, a.2.2.1, a.2.2.2, pt, co)) m ?_ ?_
  · intro n a h
    exact br_t (nI_le (Nat.le_refl m) (by omega)) h
  · intro n a j hj h
    have i1 : vp_in (nI j) 12 := vp_in_nI (by omega) (by decide)
    have i2 : vp_in (nI (j + 1)) 12 := vp_in_nI (by omega) (by decide)
    have e1 : (nI j).toNatClampNeg = j := nI_clamp (by omega)
    have e2 : (nI (j + 1)).toNatClampNeg = j + 1 := nI_clamp (by omega)
    rw [wY_unlink_22]
    dsimp only
    rw [nI_1, e1, e2]
    exact br_f (nI_ge hj (by omega)) ⟨i2, i1, nm_e ⟨i2, i1, nm_e ⟨i2, i1, nm_e ⟨i2, i1, nm_e (nm_e h)⟩⟩⟩⟩
theorem ns_ulQ {m i : Nat} {F S sh ho : Nat → Int32} (h : ns_Q (m + 1) F S ho) (hi : i ≤ m) : ns_Q m (ns_fo ns_gU (m - i) i (F, S, sh, ho)).1 (ns_fo ns_gU (m - i) i (F, S, sh, ho)).2.1 (ns_fo ns_gU (m - i) i (F, S, sh, ho)).2.2.2 := by
  have key := ns_foI ns_gU (fun _ a => ns_Q (m + 1) a.1 a.2.1 a.2.2.2) m ?_ (m - i) i (F, S, sh, ho) (by omega) h
  · exact ⟨Nat.le_of_succ_le key.1, fun j hj => key.2 j (by omega)⟩
  · rintro a j hj ⟨h1, h2⟩
    refine ⟨h1, fun k hk => ?_⟩
    unfold ns_gU
    dsimp only
    by_cases e : k = j
    · rw [e, pk_us, pk_us, pk_us]
      exact h2 (j + 1) (by omega)
    · rw [pk_un e, pk_un e, pk_un e]
      exact h2 k hk
theorem i_vc_unlink {k : Nat} {u : SX} {v : SY} (I : i_Rel k u v) (hk : k + 4 ≤ 2048) (v1 : Int32) : wpX_unlink (fun r u' => wpY_unlink (fun r' v' => r' = r ∧ i_Rel (k + 4) u' v') v v1) u v1 := by
  obtain ⟨m, F, S, sh, ho, pt, co, hQ, rfl, rfl⟩ := I
  have hm := hQ.1
  unfold wpX_unlink wpY_unlink
  dsimp only
  rcases pk_ix v1 (n := m) (by omega) with h | h | ⟨i, hi, rfl⟩
  · refine ns_xed0 (Or.inl h) (br_t rfl ?_)
    refine ns_yed0 (Or.inl h) (br_t rfl ?_)
    exact ⟨rfl, ns_rel hQ _ _⟩
  · refine ns_xed0 (Or.inr h) (br_t rfl ?_)
    refine ns_yed0 (Or.inr h) (br_t rfl ?_)
    exact ⟨rfl, ns_rel hQ _ _⟩
  · obtain ⟨m, rfl⟩ : ∃ q, m = q + 1 := ⟨m - 1, by omega⟩
    refine ns_xed1 hm hi (br_f (by decide) ⟨m - i + 1, ?_⟩)
    refine ns_xul (by omega) (m - i) i (F, S, sh, ho) (by omega) ?_
    refine ns_yed1 hm hi (br_f (by decide) (nm_r (nI_pred m) ⟨m - i + 1, ?_⟩))
    refine ns_yul (by omega) (m - i) i (F, S, sh, ho) (by omega) ?_
    exact ⟨rfl, ns_rel (ns_ulQ hQ (by omega)) _ _⟩
theorem i_vc_share {k : Nat} {u : SX} {v : SY} (I : i_Rel k u v) (hk : k + 4 ≤ 2048) (v1 : Int32) (v2 : Int32) : wpX_share (fun r u' => wpY_share (fun r' v' => r' = r ∧ i_Rel (k + 4) u' v') v v1 v2) u v1 v2 := by
  obtain ⟨m, F, S, sh, ho, pt, co, hQ, rfl, rfl⟩ := I
  have hm := hQ.1
  unfold wpX_share wpY_share
  dsimp only
  rcases pk_ix v1 (n := m) (by omega) with h | h | ⟨i, hi, rfl⟩
  · refine ns_xed0 (Or.inl h) (br_t rfl ?_)
    refine ns_yed0 (Or.inl h) (br_t rfl ?_)
    exact ⟨rfl, ns_rel hQ _ _⟩
  · refine ns_xed0 (Or.inr h) (br_t rfl ?_)
    refine ns_yed0 (Or.inr h) (br_t rfl ?_)
    exact ⟨rfl, ns_rel hQ _ _⟩
  · refine ns_xed1 hm hi (br_f (by decide) ?_)
    rcases ns_shc v2 with h3 | ⟨h3, h4⟩
    · refine ns_xsh0 h3 (br_t rfl ?_)
      refine ns_yed1 hm hi (br_f (by decide) ?_)
      exact ns_ysh0 h3 ⟨rfl, ns_rel hQ _ _⟩ ⟨rfl, ns_rel hQ _ _⟩
    · have hin : vp_in (nI i) 12 := vp_in_nI (by omega) (by decide)
      refine ns_xsh1 h3 h4 (br_f (by decide) ⟨hin, nm_e ⟨hin, nm_e ?_⟩⟩)
      refine ns_yed1 hm hi (br_f (by decide) ?_)
      exact br_f h3 (br_t (Int32.not_lt.mp h4) ⟨hin, nm_e ⟨hin, nm_e ⟨rfl, ns_rel hQ _ _⟩⟩⟩)
theorem i_vc_hold {k : Nat} {u : SX} {v : SY} (I : i_Rel k u v) (hk : k + 4 ≤ 2048) (v1 : Int32) (v2 : Int32) : wpX_hold (fun r u' => wpY_hold (fun r' v' => r' = r ∧ i_Rel (k + 4) u' v') v v1 v2) u v1 v2 := by
  obtain ⟨m, F, S, sh, ho, pt, co, hQ, rfl, rfl⟩ := I
  have hm := hQ.1
  unfold wpX_hold wpY_hold
  dsimp only
  rcases pk_ix v1 (n := m) (by omega) with h | h | ⟨i, hi, rfl⟩
  · refine ns_xed0 (Or.inl h) (br_t rfl ?_)
    refine ns_yed0 (Or.inl h) (br_t rfl ?_)
    exact ⟨rfl, ns_rel hQ _ _⟩
  · refine ns_xed0 (Or.inr h) (br_t rfl ?_)
    refine ns_yed0 (Or.inr h) (br_t rfl ?_)
    exact ⟨rfl, ns_rel hQ _ _⟩
  · refine ns_xed1 hm hi (br_f (by decide) ?_)
    have hin : vp_in (nI i) 12 := vp_in_nI (by omega) (by decide)
    have ec : (nI i).toNatClampNeg = i := nI_clamp (by omega)
    by_cases h0 : v2 < 0
    · refine br_t h0 ?_
      refine ns_yed1 hm hi (br_f (by decide) ?_)
      exact br_t h0 ⟨rfl, ns_rel hQ _ _⟩
    · refine br_f h0 ?_
      by_cases h2 : v2 ≤ 2
      · refine br_t h2 ⟨hin, nm_e ⟨hin, nm_e ?_⟩⟩
        refine ns_yed1 hm hi (br_f (by decide) ?_)
        refine br_f h0 (br_t h2 ⟨hin, nm_e ⟨hin, nm_e ⟨rfl, ?_⟩⟩⟩)
        refine ns_rel ⟨hm, fun j hj => ?_⟩ _ _
        have hj0 := hQ.2 j hj
        refine ⟨hj0.1, hj0.2.1, ?_⟩
        rw [ec]
        by_cases e : j = i
        · rw [e, pk_us]
          obtain ⟨c, hc, rfl⟩ := nI_of2 (x := v2) (M := 2) (n := 2) (by decide) h0 h2
          have cc : c = 0 ∨ c = 1 ∨ c = 2 := by omega
          rcases cc with cc | cc | cc <;> subst cc
          · exact Or.inl rfl
          · exact Or.inr (Or.inl rfl)
          · exact Or.inr (Or.inr rfl)
        · rw [pk_un e]; exact hj0.2.2
      · refine br_f h2 ?_
        refine ns_yed1 hm hi (br_f (by decide) ?_)
        exact br_f h0 (br_f h2 ⟨rfl, ns_rel hQ _ _⟩)
theorem i_vc_clear {k : Nat} {u : SX} {v : SY} (I : i_Rel k u v) (hk : k + 4 ≤ 2048) : wpX_clear (fun r u' => wpY_clear (fun r' v' => r' = r ∧ i_Rel (k + 4) u' v') v) u := by
  obtain ⟨m, F, S, sh, ho, pt, co, hQ, rfl, rfl⟩ := I
  unfold wpX_clear wpY_clear
  dsimp only
  exact ⟨rfl, ns_rel (m := 0) ⟨by decide, fun i hi => absurd hi (Nat.not_lt_zero i)⟩ pt co⟩
end
section
/-! the questions -/
theorem i_vc_weight {k : Nat} {u : SX} {v : SY} (I : i_Rel k u v) (hk : k + 4 ≤ 2048) (v1 : Int32) : wpX_weight (fun r => wpY_weight (fun r' v' => r' = r ∧ i_Rel (k + 4) u v') v v1) u v1 := by
  obtain ⟨m, F, S, sh, ho, pt, co, hQ, rfl, rfl⟩ := I
  obtain ⟨A, B, hR⟩ := ns_QR hQ
  unfold wpX_weight wpY_weight
  dsimp only
  rcases ns_mk v1 with h | ⟨s, hs, rfl⟩
  · refine ns_xmk0 h (br_t rfl ?_)
    refine ns_ymk0 h (br_t rfl ?_)
    exact ⟨rfl, ns_rel hQ _ _⟩
  · refine ns_xmk1 hs (br_f (by decide) ?_)
    refine ns_xqW hR hs ?_
    refine ns_ymk1 hs (br_f (by decide) ?_)
    exact ns_yqW hR hs (fun pt => ⟨rfl, ns_rel hQ _ _⟩)
theorem i_vc_states {k : Nat} {u : SX} {v : SY} (I : i_Rel k u v) (hk : k + 4 ≤ 2048) (v1 : Int32) (v2 : Int32) : wpX_states (fun r => wpY_states (fun r' v' => r' = r ∧ i_Rel (k + 4) u v') v v1 v2) u v1 v2 := by
  obtain ⟨m, F, S, sh, ho, pt, co, hQ, rfl, rfl⟩ := I
  obtain ⟨A, B, hR⟩ := ns_QR hQ
  unfold wpX_states wpY_states
  dsimp only
  rcases ns_mk v1 with h | ⟨s, hs, rfl⟩
  · refine ns_xmk0 h (br_t rfl ?_)
    refine ns_ymk0 h (br_t rfl ?_)
    exact ⟨rfl, ns_rel hQ _ _⟩
  · refine ns_xmk1 hs (br_f (by decide) ?_)
    refine ns_xqS hR hs ?_
    refine ns_ymk1 hs (br_f (by decide) ?_)
    exact ns_yqS hR hs (fun pt => ⟨rfl, ns_rel hQ _ _⟩)
theorem i_vc_parts {k : Nat} {u : SX} {v : SY} (I : i_Rel k u v) (hk : k + 4 ≤ 2048) (v1 : Int32) : wpX_parts (fun r => wpY_parts (fun r' v' => r' = r ∧ i_Rel (k + 4) u v') v v1) u v1 := by
  obtain ⟨m, F, S, sh, ho, pt, co, hQ, rfl, rfl⟩ := I
  obtain ⟨A, B, hR⟩ := ns_QR hQ
  unfold wpX_parts wpY_parts
  dsimp only
  refine ns_xqP hR ?_
  exact ns_yqP hR (fun pt => ⟨rfl, ns_rel hQ _ _⟩)
theorem i_vc_pairs {k : Nat} {u : SX} {v : SY} (I : i_Rel k u v) (hk : k + 4 ≤ 2048) : wpX_pairs (fun r => wpY_pairs (fun r' v' => r' = r ∧ i_Rel (k + 4) u v') v) u := by
  obtain ⟨m, F, S, sh, ho, pt, co, hQ, rfl, rfl⟩ := I
  obtain ⟨A, B, hR⟩ := ns_QR hQ
  unfold wpX_pairs wpY_pairs
  dsimp only
  refine ns_xqQ hR ?_
  exact ns_yqQ hR (fun pt => ⟨rfl, ns_rel hQ _ _⟩)
theorem i_vc_pivotal {k : Nat} {u : SX} {v : SY} (I : i_Rel k u v) (hk : k + 4 ≤ 2048) (v1 : Int32) (v2 : Int32) : wpX_pivotal (fun r => wpY_pivotal (fun r' v' => r' = r ∧ i_Rel (k + 4) u v') v v1 v2) u v1 v2 := by
  obtain ⟨m, F, S, sh, ho, pt, co, hQ, rfl, rfl⟩ := I
  obtain ⟨A, B, hR⟩ := ns_QR hQ
  have hm := hQ.1
  unfold wpX_pivotal wpY_pivotal
  dsimp only
  rcases ns_mk v1 with h | ⟨s, hs, rfl⟩
  · refine ns_xmk0 h (br_t rfl ?_)
    refine ns_ymk0 h (br_t rfl ?_)
    exact ⟨rfl, ns_rel hQ _ _⟩
  · refine ns_xmk1 hs (br_f (by decide) ?_)
    rcases pk_ix v2 (n := m) (by omega) with h | h | ⟨i, hi, rfl⟩
    · refine ns_xed0 (Or.inl h) (br_t rfl ?_)
      refine ns_ymk1 hs (br_f (by decide) ?_)
      refine ns_yed0 (Or.inl h) (br_t rfl ?_)
      exact ⟨rfl, ns_rel hQ _ _⟩
    · refine ns_xed0 (Or.inr h) (br_t rfl ?_)
      refine ns_ymk1 hs (br_f (by decide) ?_)
      refine ns_yed0 (Or.inr h) (br_t rfl ?_)
      exact ⟨rfl, ns_rel hQ _ _⟩
    · refine ns_xed1 hm hi (br_f (by decide) ?_)
      refine ns_xqV hR hs hi ?_
      refine ns_ymk1 hs (br_f (by decide) ?_)
      refine ns_yed1 hm hi (br_f (by decide) ?_)
      exact ns_yqV hR hs hi (fun pt => ⟨(ns_pvE A B sh ho hi).symm, ns_rel hQ _ _⟩)
theorem i_vc_worst {k : Nat} {u : SX} {v : SY} (I : i_Rel k u v) (hk : k + 4 ≤ 2048) (v1 : Int32) : wpX_worst (fun r => wpY_worst (fun r' v' => r' = r ∧ i_Rel (k + 4) u v') v v1) u v1 := by
  obtain ⟨m, F, S, sh, ho, pt, co, hQ, rfl, rfl⟩ := I
  obtain ⟨A, B, hR⟩ := ns_QR hQ
  have hm := hQ.1
  have hf := ns_full hm
  unfold wpX_worst wpY_worst
  dsimp only
  rcases ns_mk v1 with h | ⟨s, hs, rfl⟩
  · refine ns_xmk0 h (br_t rfl ?_)
    refine ns_ymk0 h (br_t rfl ?_)
    exact ⟨rfl, ns_rel hQ _ _⟩
  · refine ns_xmk1 hs (br_f (by decide) ?_)
    unfold wpX_worstState
    dsimp only
    refine ns_xmk1 hs (br_f (by decide) ?_)
    refine ns_xqX (A := A) (B := B) hR hs ?_
    have fi := ns_FstI A B sh ho m s
    have fin : ∀ r, (ns_fo (ns_gX A B sh ho m s) (2 ^ m) 0 (0, -2)).1 = r → wpY_isMask (fun r_1 => ((r_1 = 0 → ((-1 : Int64) = r ∧ i_Rel (k + 4) (nI m, F, S, sh, ho) (nI m, F, S, sh, ho, pt, co))) ∧ (¬ r_1 = 0 → wpY_worstWeight (fun r_10 u => match u with | (f_edges_11, a_from_12, a_to_13, a_shares_14, a_held_15, a_part_16, a_colour_17) => (r_10 = r ∧ i_Rel (k + 4) (nI m, F, S, sh, ho) (f_edges_11, a_from_12, a_to_13, a_shares_14, a_held_15, a_part_16, a_colour_17))) (nI m, F, S, sh, ho, pt, co) (nI s)))) (nI m, F, S, sh, ho, pt, co) (nI s) := by
      intro r hr
      refine ns_ymk1 hs (br_f (by decide) ?_)
      exact ns_yqX (A := A) (B := B) hR hs (fun pt => ⟨hr, ns_rel hQ _ _⟩)
    rcases fi.2 with ⟨h2, h3⟩ | ⟨h2, t0, h3, g1, g2, g3, g4, g5⟩
    · rw [h3]
      exact br_f (by decide) (fin 0 h2)
    · rw [g4]
      refine br_t (nI_pos' (by omega)) (ns_xwt hm (by omega) ?_)
      exact fin _ g3.symm
theorem i_vc_worstState {k : Nat} {u : SX} {v : SY} (I : i_Rel k u v) (hk : k + 4 ≤ 2048) (v1 : Int32) : wpX_worstState (fun r => wpY_worstState (fun r' v' => r' = r ∧ i_Rel (k + 4) u v') v v1) u v1 := by
  obtain ⟨m, F, S, sh, ho, pt, co, hQ, rfl, rfl⟩ := I
  obtain ⟨A, B, hR⟩ := ns_QR hQ
  unfold wpX_worstState wpY_worstState
  dsimp only
  rcases ns_mk v1 with h | ⟨s, hs, rfl⟩
  · refine ns_xmk0 h (br_t rfl ?_)
    refine ns_ymk0 h (br_t rfl ?_)
    exact ⟨rfl, ns_rel hQ _ _⟩
  · refine ns_xmk1 hs (br_f (by decide) ?_)
    refine ns_xqX (A := A) (B := B) hR hs ?_
    refine ns_ymk1 hs (br_f (by decide) ?_)
    refine ns_yqX (A := A) (B := B) hR hs (fun pt => ?_)
    exact ns_yqZ hR hs (ns_FstI A B sh ho m s) (fun pt => ⟨rfl, ns_rel hQ _ _⟩)
theorem i_vc_cuts {k : Nat} {u : SX} {v : SY} (I : i_Rel k u v) (hk : k + 4 ≤ 2048) (v1 : Int32) (v2 : Int32) : wpX_cuts (fun r => wpY_cuts (fun r' v' => r' = r ∧ i_Rel (k + 4) u v') v v1 v2) u v1 v2 := by
  obtain ⟨m, F, S, sh, ho, pt, co, hQ, rfl, rfl⟩ := I
  obtain ⟨A, B, hR⟩ := ns_QR hQ
  unfold wpX_cuts wpY_cuts
  dsimp only
  rcases ns_mk v1 with h | ⟨s, hs, rfl⟩
  · refine ns_xmk0 h (br_t rfl ?_)
    refine ns_ymk0 h (br_t rfl ?_)
    exact ⟨rfl, ns_rel hQ _ _⟩
  · refine ns_xmk1 hs (br_f (by decide) ?_)
    refine ns_xqC hR hs ?_
    refine ns_ymk1 hs (br_f (by decide) ?_)
    exact ns_yqC hR hs (fun pt => ⟨rfl, ns_rel hQ _ _⟩)
theorem i_vc_trees {k : Nat} {u : SX} {v : SY} (I : i_Rel k u v) (hk : k + 4 ≤ 2048) : wpX_trees (fun r => wpY_trees (fun r' v' => r' = r ∧ i_Rel (k + 4) u v') v) u := by
  obtain ⟨m, F, S, sh, ho, pt, co, hQ, rfl, rfl⟩ := I
  obtain ⟨A, B, hR⟩ := ns_QR hQ
  unfold wpX_trees wpY_trees
  dsimp only
  refine ns_xqT hR ?_
  exact ns_yqT hR (fun pt => ⟨rfl, ns_rel hQ _ _⟩)
theorem i_vc_forests {k : Nat} {u : SX} {v : SY} (I : i_Rel k u v) (hk : k + 4 ≤ 2048) (v1 : Int32) : wpX_forests (fun r => wpY_forests (fun r' v' => r' = r ∧ i_Rel (k + 4) u v') v v1) u v1 := by
  obtain ⟨m, F, S, sh, ho, pt, co, hQ, rfl, rfl⟩ := I
  obtain ⟨A, B, hR⟩ := ns_QR hQ
  unfold wpX_forests wpY_forests
  dsimp only
  refine ns_xqF hR ?_
  exact ns_yqF hR (fun pt => ⟨rfl, ns_rel hQ _ _⟩)
theorem ns_5p (q : Nat) : (((nI q * nI q) * nI q) * nI q) * nI q = nI (q ^ 5) := by
  rw [pk_mul, pk_mul, pk_mul, pk_mul]
  congr 1
  rw [show q ^ 5 = q ^ 4 * q from Nat.pow_succ _ _, show q ^ 4 = q ^ 3 * q from Nat.pow_succ _ _, show q ^ 3 = q ^ 2 * q from Nat.pow_succ _ _, show q ^ 2 = q ^ 1 * q from Nat.pow_succ _ _, Nat.pow_one]
theorem i_vc_colourings {k : Nat} {u : SX} {v : SY} (I : i_Rel k u v) (hk : k + 4 ≤ 2048) (v1 : Int32) : wpX_colourings (fun r => wpY_colourings (fun r' v' => r' = r ∧ i_Rel (k + 4) u v') v v1) u v1 := by
  obtain ⟨m, F, S, sh, ho, pt, co, hQ, rfl, rfl⟩ := I
  obtain ⟨A, B, hR⟩ := ns_QR hQ
  unfold wpX_colourings wpY_colourings
  dsimp only
  by_cases h0 : v1 < 0
  · exact br_t h0 (br_t h0 ⟨rfl, ns_rel hQ _ _⟩)
  · by_cases h4 : v1 ≤ 4
    · obtain ⟨q, hq, rfl⟩ := nI_of2 (x := v1) (M := 4) (n := 4) (by decide) h0 h4
      refine br_f h0 (br_t h4 ?_)
      refine ns_xqK hR hq ?_
      refine br_f h0 (br_t h4 (nm_r (ns_5p q) ?_))
      exact ns_yqK hR hq (fun co => ⟨(ns_colE (ns_RE hR) hq).symm, ns_rel hQ _ _⟩)
    · exact br_f h0 (br_f h4 (br_f h0 (br_f h4 ⟨rfl, ns_rel hQ _ _⟩)))
theorem i_vc_polynomial {k : Nat} {u : SX} {v : SY} (I : i_Rel k u v) (hk : k + 4 ≤ 2048) (v1 : Int32) (v2 : Int32) : wpX_polynomial (fun r => wpY_polynomial (fun r' v' => r' = r ∧ i_Rel (k + 4) u v') v v1 v2) u v1 v2 := by
  obtain ⟨m, F, S, sh, ho, pt, co, hQ, rfl, rfl⟩ := I
  obtain ⟨A, B, hR⟩ := ns_QR hQ
  have hm := hQ.1
  have hf := ns_full hm
  unfold wpX_polynomial wpY_polynomial wpX_isBase
  dsimp only
  by_cases a1 : v1 < -3
  · exact br_t a1 (br_t rfl (br_t a1 ⟨rfl, ns_rel hQ _ _⟩))
  · by_cases a2 : 3 < v1
    · exact br_f a1 (br_t a2 (br_t rfl (br_f a1 (br_t a2 ⟨rfl, ns_rel hQ _ _⟩))))
    · refine br_f a1 (br_f a2 (br_f (by decide) ?_))
      by_cases b1 : v2 < -3
      · exact br_t b1 (br_t rfl (br_f a1 (br_f a2 (br_t b1 ⟨rfl, ns_rel hQ _ _⟩))))
      · by_cases b2 : 3 < v2
        · exact br_f b1 (br_t b2 (br_t rfl (br_f a1 (br_f a2 (br_f b1 (br_f (Int32.not_le.mpr b2) ⟨rfl, ns_rel hQ _ _⟩))))))
        · refine br_f b1 (br_f b2 (br_f (by decide) ?_))
          rw [ns_fullI hm]
          refine ns_xpt hR (by omega) ?_
          refine ns_xqY hR ?_
          refine br_f a1 (br_f a2 (br_f b1 (br_t (Int32.not_lt.mp b2) ?_)))
          refine ns_ycp hR (by omega) (fun pt => ?_)
          exact ns_yqY hR (fun pt => ⟨rfl, ns_rel hQ _ _⟩)
end
