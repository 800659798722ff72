/-! rows pasted from the given starting texts (kit/rows) -/
theorem pk_us {f : Nat → Int32} {k : Nat} {x : Int32} : upd f k x k = x := if_pos rfl
theorem pk_un {f : Nat → Int32} {k j : Nat} {x : Int32} (h : j ≠ k) : upd f k x j = f j := if_neg h
theorem pk_sub {a b : Nat} (h : b ≤ a) : nI a - nI b = nI (a - b) := by
  obtain ⟨c, rfl⟩ : ∃ c, a = c + b := ⟨a - b, by omega⟩
  rw [← nI_add, Int32.add_sub_cancel, Nat.add_sub_cancel]
theorem pk_m1 (n : Nat) : nI (n + 1) + (-1) = nI n := by
  rw [← nI_1, Int32.add_assoc, show (1 : Int32) + (-1) = 0 from rfl, Int32.add_zero]
theorem pk_mul (a b : Nat) : nI a * nI b = nI (a * b) := (Int32.ofNat_mul a b).symm
theorem pk_div {a d : Nat} (ha : a < 2 ^ 31) (h0 : 0 < d) (hd : d < 2 ^ 31) : nI a / nI d = nI (a / d) := by
  apply Int32.toInt_inj.mp
  rw [lg_idiv_nonneg (by rw [nI_toInt ha]; omega) (by rw [nI_toInt hd]; omega), nI_toInt ha, nI_toInt hd, nI_toInt (Nat.lt_of_le_of_lt (Nat.div_le_self a d) ha)]
  first | rfl | exact (Int.natCast_ediv _ _).symm
theorem pk_rem {a d : Nat} (ha : a < 2 ^ 31) (h0 : 0 < d) (hd : d < 2 ^ 31) : nI a - nI a / nI d * nI d = nI (a % d) := by
  rw [pk_div ha h0 hd, pk_mul, pk_sub (Nat.div_mul_le_self a d)]
  exact congrArg nI (by have := Nat.div_add_mod' a d; omega)
theorem pk_sub_toInt {a b : Nat} (ha : a < 2 ^ 30) (hb : b < 2 ^ 30) : (nI a - nI b).toInt = (a : Int) - b := by
  rw [Int32.toInt_sub, nI_toInt (by omega), nI_toInt (by omega)]
  exact Int.bmod_eq_of_le (by omega) (by omega)
theorem pk_sneg {a b : Nat} (hb : b < 2 ^ 30) (h : a < b) : nI a - nI b < 0 := by
  rw [Int32.lt_iff_toInt_lt, pk_sub_toInt (by omega) hb, show (0 : Int32).toInt = 0 from by decide]
  omega
theorem pk_ix (x : Int32) {n : Nat} (hn : n < 2 ^ 31) : x < 0 ∨ nI n ≤ x ∨ ∃ j : Nat, j < n ∧ x = nI j := by
  by_cases h : x < 0
  · exact Or.inl h
  · obtain ⟨j, hj, rfl⟩ := nI_of h
    by_cases h2 : j < n
    · exact Or.inr (Or.inr ⟨j, h2, rfl⟩)
    · exact Or.inr (Or.inl (nI_le (by omega) hj))
theorem pk_le {x y : Int32} {A B : Prop} (a b : Nat) (f : a ≤ b → A) (g : b < a → B) (hx : x = nI a := by rfl) (hy : y = nI b := by rfl) (ha : a < 2 ^ 31 := by omega) (hb : b < 2 ^ 31 := by omega) : (x ≤ y → A) ∧ (¬ x ≤ y → B) := by
  subst hx hy
  rw [nI_leI ha hb]
  exact ⟨f, fun z => g (by omega)⟩
theorem pk_lt {x y : Int32} {A B : Prop} (a b : Nat) (f : a < b → A) (g : b ≤ a → B) (hx : x = nI a := by rfl) (hy : y = nI b := by rfl) (ha : a < 2 ^ 31 := by omega) (hb : b < 2 ^ 31 := by omega) : (x < y → A) ∧ (¬ x < y → B) := by
  subst hx hy
  rw [nI_ltI ha hb]
  exact ⟨f, fun z => g (by omega)⟩
theorem pk_eq {x y : Int32} {A B : Prop} (a b : Nat) (f : a = b → A) (g : a ≠ b → B) (hx : x = nI a := by rfl) (hy : y = nI b := by rfl) (ha : a < 2 ^ 31 := by omega) (hb : b < 2 ^ 31 := by omega) : (x = y → A) ∧ (¬ x = y → B) := by
  subst hx hy
  rw [nI_eq ha hb]
  exact ⟨f, g⟩
theorem pk_in {x : Int32} (n N : Nat) (h : n < N) (hx : x = nI n := by rfl) (hN : N < 2 ^ 31 := by omega) : vp_in x N := by
  subst hx
  exact vp_in_nI h hN
theorem pk_cl {x : Int32} (n : Nat) (hx : x = nI n := by rfl) (h : n < 2 ^ 31 := by omega) : x.toNatClampNeg = n := by
  subst hx
  exact nI_clamp h
theorem pk_tn {n : Nat} (h : n < 2 ^ 32) : (nI n).toBitVec.toNat = n := Nat.mod_eq_of_lt h
theorem pk_and (x : Int32) {m : Int32} (k : Nat) (hm : m.toBitVec.toNat = 2 ^ k - 1) : x &&& m = nI (x.toBitVec.toNat % 2 ^ k) := by
  apply Int32.toBitVec_inj.mp
  apply BitVec.eq_of_toNat_eq
  rw [Int32.toBitVec_and, BitVec.toNat_and, hm, Nat.and_two_pow_sub_one_eq_mod]
  show _ = (BitVec.ofNat 32 _).toNat
  rw [BitVec.toNat_ofNat]
  exact (Nat.mod_eq_of_lt (Nat.lt_of_le_of_lt (Nat.mod_le _ _) x.toBitVec.isLt)).symm
theorem pk_andN {n : Nat} (h : n < 2 ^ 32) {m : Int32} (k : Nat) (hm : m.toBitVec.toNat = 2 ^ k - 1) : nI n &&& m = nI (n % 2 ^ k) := by
  rw [pk_and _ k hm, pk_tn h]
theorem pk_shl (a s : Int32) (k : Nat) (hs : (s.toBitVec.smod 32).toNat = k) : (a <<< s).toBitVec.toNat = a.toBitVec.toNat * 2 ^ k % 2 ^ 32 := by
  show (a.toBitVec <<< (s.toBitVec.smod 32).toNat).toNat = _
  rw [hs, BitVec.toNat_shiftLeft, Nat.shiftLeft_eq]
theorem pk_shlN {n : Nat} (s : Int32) (k : Nat) (hs : (s.toBitVec.smod 32).toNat = k) (h : n * 2 ^ k < 2 ^ 32) : nI n <<< s = nI (n * 2 ^ k) := by
  apply Int32.toBitVec_inj.mp
  apply BitVec.eq_of_toNat_eq
  have hn : n < 2 ^ 32 := Nat.lt_of_le_of_lt (Nat.le_mul_of_pos_right n (Nat.two_pow_pos k)) h
  rw [pk_shl _ _ k hs, pk_tn hn, pk_tn h, Nat.mod_eq_of_lt h]
theorem pk_shr (a s : Int32) (k : Nat) (hs : (s.toBitVec.smod 32).toNat = k) : (a >>> s).toInt = a.toInt >>> k := by
  show (a.toBitVec.sshiftRight (s.toBitVec.smod 32).toNat).toInt = _
  rw [hs, BitVec.toInt_sshiftRight]
  rfl
theorem pk_shrN {n : Nat} (h : n < 2 ^ 31) (s : Int32) (k : Nat) (hs : (s.toBitVec.smod 32).toNat = k) : nI n >>> s = nI (n / 2 ^ k) := by
  apply Int32.toInt_inj.mp
  have h2 : n / 2 ^ k ≤ n := Nat.div_le_self _ _
  rw [pk_shr _ _ k hs, nI_toInt h, nI_toInt (by omega), Int.shiftRight_eq_div_pow]
  rfl
theorem s_l : ∀ n, n < 32 → ((nI n &&& 31).toBitVec.smod 32).toNat = n := by decide +kernel
theorem nx_and (a b : Nat) : nI a &&& nI b = nI (a &&& b) := by
  apply Int32.toBitVec_inj.1
  show BitVec.ofNat 32 a &&& BitVec.ofNat 32 b = BitVec.ofNat 32 (a &&& b)
  apply BitVec.eq_of_getLsbD_eq
  intro i hi
  simp [hi]
theorem nx_xor (a b : Nat) : nI a ^^^ nI b = nI (a ^^^ b) := by
  apply Int32.toBitVec_inj.1
  show BitVec.ofNat 32 a ^^^ BitVec.ofNat 32 b = BitVec.ofNat 32 (a ^^^ b)
  apply BitVec.eq_of_getLsbD_eq
  intro i hi
  simp [hi]
/-! numbers, bits, loops -/
theorem ns_or (a b : Nat) : nI a ||| nI b = nI (a ||| b) := by
  apply Int32.toBitVec_inj.1
  show BitVec.ofNat 32 a ||| BitVec.ofNat 32 b = BitVec.ofNat 32 (a ||| b)
  apply BitVec.eq_of_getLsbD_eq
  intro i hi
  simp [hi]
def ns_b (b : Bool) : Int32 := if b then 1 else 0
theorem ns_b1 : ns_b true = 1 := rfl
theorem ns_b0 : ns_b false = 0 := rfl
theorem ns_br {b : Bool} {A B : Prop} (f : b = false → A) (g : b = true → B) : (ns_b b = 0 → A) ∧ (¬ ns_b b = 0 → B) := by
  cases b
  · exact ⟨fun _ => f rfl, fun h => absurd rfl h⟩
  · exact ⟨fun h => absurd h (by decide), fun _ => g rfl⟩
theorem ns_if {c d A B : Prop} (e : c ↔ d) (f : d → A) (g : ¬ d → B) : (c → A) ∧ (¬ c → B) := ⟨fun h => f (e.mp h), fun h => g (fun z => h (e.mpr z))⟩
theorem ns_bit {t i : Nat} (ht : t < 2 ^ 31) (hi : i < 32) : (nI t >>> (nI i &&& 31)) &&& 1 = nI (t.testBit i).toNat := by
  have h2 : t / 2 ^ i ≤ t := Nat.div_le_self _ _
  rw [pk_shrN ht _ i (s_l i hi), pk_andN (m := 1) (by omega) 1 (by decide), Nat.pow_one, Nat.toNat_testBit]
theorem ns_bn (b : Bool) : nI b.toNat = ns_b b := by cases b <;> rfl
theorem ns_p2 {i j : Nat} (h : i ≤ j) : 2 ^ i ≤ 2 ^ j := Nat.pow_le_pow_right (by decide) h
theorem ns_shl {i : Nat} (hi : i < 31) : (1 : Int32) <<< (nI i &&& 31) = nI (2 ^ i) := by
  have h0 := ns_p2 (i := i) (j := 31) (by omega)
  have h := pk_shlN (n := 1) (nI i &&& 31) i (s_l i (by omega)) (by omega)
  rw [Nat.one_mul] at h
  exact h
def ns_fo {α : Type} (g : α → Nat → α) : Nat → Nat → α → α
  | 0, _, a => a
  | d + 1, j, a => ns_fo g d (j + 1) (g a j)
theorem ns_loop {α : Type} (W : Nat → α → Nat → Prop) (g : α → Nat → α) (P : α → Prop) (e : Nat) (hx : ∀ n a, P a → W (n + 1) a e) (hs : ∀ n a j, j < e → W n (g a j) (j + 1) → W (n + 1) a j) : ∀ d j a, j + d = e → P (ns_fo g d j a) → W (d + 1) a j := by
  intro d
  induction d with
  | zero =>
    intro j a he h
    have e1 : j = e := he
    rw [e1]
    exact hx 0 a h
  | succ d ih =>
    intro j a he h
    exact hs _ _ _ (by omega) (ih (j + 1) (g a j) (by omega) h)
theorem ns_foI {α : Type} (g : α → Nat → α) (I : Nat → α → Prop) (e : Nat) (hs : ∀ a j, j < e → I j a → I (j + 1) (g a j)) : ∀ d j a, j + d = e → I j a → I e (ns_fo g d j a) := by
  intro d
  induction d with
  | zero =>
    intro j a he h
    have e1 : j = e := he
    rw [← e1]
    exact h
  | succ d ih =>
    intro j a he h
    exact ih (j + 1) (g a j) (by omega) (hs a j (by omega) h)
theorem ns_foE {α : Type} (g g' : α → Nat → α) (e : Nat) (hs : ∀ a j, j < e → g a j = g' a j) : ∀ d j a, j + d = e → ns_fo g d j a = ns_fo g' d j a := by
  intro d
  induction d with
  | zero => intro j a he; rfl
  | succ d ih =>
    intro j a he
    show ns_fo g d (j + 1) (g a j) = ns_fo g' d (j + 1) (g' a j)
    rw [hs a j (by omega)]
    exact ih (j + 1) _ (by omega)
def ns_all (c : Nat → Bool) : Nat → Nat → Bool
  | 0, _ => true
  | d + 1, j => c j && ns_all c d (j + 1)
theorem ns_exit (W : Nat → Nat → Prop) (c : Nat → Bool) (P : Bool → Prop) (e : Nat) (hx : ∀ n, P true → W (n + 1) e) (ht : ∀ n j, j < e → c j = true → W n (j + 1) → W (n + 1) j) (hf : ∀ n j, j < e → c j = false → P false → W (n + 1) j) : ∀ d j, j + d = e → P (ns_all c d j) → W (d + 1) j := by
  intro d
  induction d with
  | zero =>
    intro j he h
    have e1 : j = e := he
    rw [e1]
    exact hx 0 h
  | succ d ih =>
    intro j he h
    cases z : c j
    · refine hf _ _ (by omega) z ?_
      rw [ns_all, z] at h
      exact h
    · refine ht _ _ (by omega) z (ih (j + 1) (by omega) ?_)
      rw [ns_all, z] at h
      exact h
theorem ns_allE (c c' : Nat → Bool) (e : Nat) (hs : ∀ j, j < e → c j = c' j) : ∀ d j, j + d = e → ns_all c d j = ns_all c' d j := by
  intro d
  induction d with
  | zero => intro j he; rfl
  | succ d ih =>
    intro j he
    show (c j && ns_all c d (j + 1)) = (c' j && ns_all c' d (j + 1))
    rw [hs j (by omega), ih (j + 1) (by omega)]
theorem ns_allI (c : Nat → Bool) : ∀ d j, ns_all c d j = true ↔ ∀ i, j ≤ i → i < j + d → c i = true := by
  intro d
  induction d with
  | zero =>
    intro j
    exact ⟨fun _ i h1 h2 => absurd h2 (by omega), fun _ => rfl⟩
  | succ d ih =>
    intro j
    rw [ns_all, Bool.and_eq_true, ih (j + 1)]
    constructor
    · rintro ⟨h1, h2⟩ i h3 h4
      by_cases e : i = j
      · rw [e]; exact h1
      · exact h2 i (by omega) (by omega)
    · intro h
      exact ⟨h j (by omega) (by omega), fun i h1 h2 => h i (by omega) (by omega)⟩
theorem ns_allA (c : Nat → Bool) : ∀ d j (a : Bool), ns_fo (fun a j => a && c j) d j a = (a && ns_all c d j) := by
  intro d
  induction d with
  | zero => intro j a; cases a <;> rfl
  | succ d ih =>
    intro j a
    rw [ns_fo, ih, ns_all, Bool.and_assoc]
