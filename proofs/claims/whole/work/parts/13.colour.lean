/-! colourings -/
def ns_cg (A B : Nat → Nat) (m : Nat) (f : Nat → Nat → Nat) (a : Int32) (c : Nat) : Int32 := cond (ns_np A B m (f c)) (a + 1) a
theorem ns_xqK {post : Int32 → Prop} {m q : Nat} {F S sh ho : Nat → Int32} {A B : Nat → Nat} (hR : ns_R m F S ho A B) (hq : q ≤ 4) (h : post (ns_fo (fun a c => cond (ns_ub q c) (ns_cg A B m ns_co a c) a) 1024 0 0)) : ∃ n, wX_colourings_15 post (nI q) (nI m) F S sh ho n 0 0 := by
  have hm := hR.1
  refine ⟨1024 + 1, ns_loop (fun n a j => wX_colourings_15 post (nI q) (nI m) F S sh ho n a (nI j)) (fun a c => cond (ns_ub q c) (ns_cg A B m ns_co a c) a) post 1024 ?_ ?_ 1024 0 0 rfl h⟩
  · intro n a h
    exact br_t (nI_le (b := 1024) (Nat.le_refl 1024) (by decide)) h
  · intro n a j hj h
    refine br_f (nI_ge (b := 1024) hj (by decide)) (ns_xub hj hq (ns_br (fun z1 => ns_nx ?_) (fun z1 => ns_xpe hR hj (ns_br (fun z2 => nm_e (ns_nx ?_)) (fun z2 => ns_nx ?_)))))
    · rw [z1] at h; exact h
    · rw [Bool.not_eq_false'] at z2
      unfold ns_cg at h
      rw [z1, z2] at h; exact h
    · rw [Bool.not_eq_true'] at z2
      unfold ns_cg at h
      rw [z1, z2] at h; exact h
def ns_dg (q w v : Nat) : Nat := w / q ^ v % q
theorem ns_y78 {post : Int32 → SY → Prop} {J26 : Int32 → Int32 → (Nat → Int32) → (Nat → Int32) → (Nat → Int32) → (Nat → Int32) → (Nat → Int32) → (Nat → Int32) → Prop} {m w : Nat} {x1 x2 x3 : Int32} {F S sh ho pt co : Nat → Int32} {A B : Nat → Nat} {f : Nat → Nat} (hR : ns_R m F S ho A B) (hf : ∀ v, v < 5 → f v < 2 ^ 31) (hc : ∀ v, v < 5 → co v = nI (f v)) (h : J26 (cond (ns_np A B m f) (x3 + 1) x3) (nI (w + 1)) F S sh ho pt co) : ∃ n, wY_colourings_78 post J26 x1 x2 x3 (nI w) (nI m) F S sh ho pt co n 1 0 := by
  have hm := hR.1
  have h0 : J26 (cond (ns_fo (fun a j => a && ns_pe1 A B f j) m 0 true) (x3 + 1) x3) (nI (w + 1)) F S sh ho pt co := by
    rw [ns_allA]; exact h
  refine ⟨m + 1, ns_loop (fun n (a : Bool) i => wY_colourings_78 post J26 x1 x2 x3 (nI w) (nI m) F S sh ho pt co n (ns_b a) (nI i)) (fun a i => a && ns_pe1 A B f i) (fun a => J26 (cond a (x3 + 1) x3) (nI (w + 1)) F S sh ho pt co) m ?_ ?_ m 0 true (Nat.zero_add m) h0⟩
  · intro n a h
    refine br_t (nI_le (Nat.le_refl m) (by omega)) (ns_br (fun z => ns_nx ?_) (fun z => nm_e (ns_nx ?_)))
    · rw [z] at h; exact h
    · rw [z] at h; exact h
  · intro n a i hi h
    have hr := hR.2 i hi
    have hin : vp_in (nI i) 12 := vp_in_nI (by omega) (by decide)
    have e : (nI i).toNatClampNeg = i := nI_clamp (by omega)
    have eA : (nI (A i)).toNatClampNeg = A i := nI_clamp (by omega)
    have eB : (nI (B i)).toNatClampNeg = B i := nI_clamp (by omega)
    refine br_f (nI_ge hi (by omega)) (ns_br (fun z => ns_nx ?_) (fun z => ⟨hin, ?_⟩))
    · rw [z] at h; exact h
    · rw [z, Bool.true_and] at h
      unfold ns_pe1 at h
      rw [e, hr.1, hr.2.2.1, eA, eB, hc _ hr.2.1, hc _ hr.2.2.2.1]
      refine ⟨vp_in_nI hr.2.1 (by decide), hin, vp_in_nI hr.2.2.2.1 (by decide), ns_if (nI_eq (hf _ hr.2.1) (hf _ hr.2.2.2.1)) (fun q => ns_nx ?_) (fun q => ns_nx ?_)⟩
      · rw [decide_eq_true q] at h; exact h
      · rw [decide_eq_false q] at h; exact h
theorem ns_y42 {post : Int32 → SY → Prop} {J26 : Int32 → Int32 → (Nat → Int32) → (Nat → Int32) → (Nat → Int32) → (Nat → Int32) → (Nat → Int32) → (Nat → Int32) → Prop} {m w q : Nat} {x2 x3 : Int32} {F S sh ho pt : Nat → Int32} {A B : Nat → Nat} (hR : ns_R m F S ho A B) (hq0 : 0 < q) (hq : q ≤ 4) (hw : w < 2 ^ 31) (h : ∀ co, J26 (cond (ns_np A B m (ns_dg q w)) (x3 + 1) x3) (nI (w + 1)) F S sh ho pt co) : ∀ d k co, k + d = 5 → (∀ v, v < k → co v = nI (ns_dg q w v)) → wY_colourings_42 post J26 (nI q) x2 x3 (nI w) 1 (nI m) (d + 1) (nI (w / q ^ k)) (nI k) F S sh ho pt co := by
  have hl : ∀ v, ns_dg q w v < q := fun v => Nat.mod_lt _ hq0
  intro d
  induction d with
  | zero =>
    intro k co hk hc
    have hk5 : k = 5 := hk
    subst hk5
    exact br_t (nI_le (b := 5) (Nat.le_refl 5) (by decide)) (ns_y78 hR (fun v _ => by have := hl v; omega) hc (h co))
  | succ d ih =>
    intro k co hk hc
    have hk5 : k < 5 := by omega
    have ec : (nI k).toNatClampNeg = k := nI_clamp (by omega)
    have hin : vp_in (nI k) 5 := vp_in_nI hk5 (by decide)
    have hwk : w / q ^ k < 2 ^ 31 := Nat.lt_of_le_of_lt (Nat.div_le_self _ _) hw
    have e1 : nI (w / q ^ k) - nI (w / q ^ k) / nI q * nI q = nI (ns_dg q w k) := pk_rem hwk hq0 (by omega)
    have e2 : nI (w / q ^ k) / nI q = nI (w / q ^ (k + 1)) := by
      rw [pk_div hwk hq0 (by omega), Nat.div_div_eq_div_mul, Nat.pow_succ]
    have qn : ¬ nI q = 0 := nI_ne0 hq0 (by omega)
    refine br_f (nI_ge (b := 5) hk5 (by decide)) (br_f (nI_nle hq0 (by omega)) ⟨qn, hin, ?_⟩)
    rw [e1, e2, ec]
    refine nm_e ⟨qn, nm_e (ns_nx (ih (k + 1) _ (by omega) ?_))⟩
    intro v hv
    by_cases z : v = k
    · rw [z, pk_us]
    · rw [pk_un z]; exact hc v (by omega)
theorem ns_yqK {post : Int32 → SY → Prop} {m q : Nat} {F S sh ho pt co : Nat → Int32} {A B : Nat → Nat} (hR : ns_R m F S ho A B) (hq : q ≤ 4) (h : ∀ co, post (ns_fo (ns_cg A B m (ns_dg q)) (q ^ 5) 0 0) (nI m, F, S, sh, ho, pt, co)) : ∃ n, wY_colourings_26 post (nI q) (nI (q ^ 5)) (nI m) n 0 0 F S sh ho pt co := by
  have hm := hR.1
  have hw : q ^ 5 ≤ 1024 := (by decide +kernel : ∀ q, q < 5 → q ^ 5 ≤ 1024) q (by omega)
  refine ⟨q ^ 5 + 1, ns_loop (fun n a j => ∀ co, wY_colourings_26 post (nI q) (nI (q ^ 5)) (nI m) n a (nI j) F S sh ho pt co) (ns_cg A B m (ns_dg q)) (fun a => ∀ co, post a (nI m, F, S, sh, ho, pt, co)) (q ^ 5) ?_ ?_ (q ^ 5) 0 0 (Nat.zero_add _) h co⟩
  · intro n a h co
    exact br_t (nI_le (Nat.le_refl _) (by omega)) (h co)
  · intro n a j hj h co
    have hq0 : 0 < q := by
      rcases Nat.eq_zero_or_pos q with z | z
      · rw [z] at hj; exact absurd hj (Nat.not_lt_zero j)
      · exact z
    refine br_f (nI_ge hj (by omega)) ⟨5 + 1, ?_⟩
    have key := ns_y42 (post := post) (J26 := wY_colourings_26 post (nI q) (nI (q ^ 5)) (nI m) n) (x2 := nI (q ^ 5)) (x3 := a) (pt := pt) (w := j) hR hq0 hq (by omega) h 5 0 co rfl (fun v hv => absurd hv (Nat.not_lt_zero v))
    rw [Nat.pow_zero, Nat.div_one] at key
    exact key
/-! the two orders are one -/
theorem ns_foL {α : Type} (g : α → Nat → α) : ∀ d j a, ns_fo g d j a = (List.range' j d).foldl g a := by
  intro d
  induction d with
  | zero => intro j a; rfl
  | succ d ih =>
    intro j a
    rw [ns_fo, ih]
    rfl
def ns_rc (q w : Nat) : Nat := w % q + 4 * (w / q % q) + 16 * (w / q ^ 2 % q) + 64 * (w / q ^ 3 % q) + 256 * (w / q ^ 4 % q)
set_option maxRecDepth 100000 in
theorem ns_k0 : (List.range' 0 1024).filter (ns_ub 0) = (List.range' 0 (0 ^ 5)).map (ns_rc 0) := by decide +kernel
set_option maxRecDepth 100000 in
theorem ns_k1 : (List.range' 0 1024).filter (ns_ub 1) = (List.range' 0 (1 ^ 5)).map (ns_rc 1) := by decide +kernel
set_option maxRecDepth 100000 in
theorem ns_k2 : (List.range' 0 1024).filter (ns_ub 2) = (List.range' 0 (2 ^ 5)).map (ns_rc 2) := by decide +kernel
set_option maxRecDepth 100000 in
theorem ns_k3 : (List.range' 0 1024).filter (ns_ub 3) = (List.range' 0 (3 ^ 5)).map (ns_rc 3) := by decide +kernel
set_option maxRecDepth 100000 in
theorem ns_k4 : (List.range' 0 1024).filter (ns_ub 4) = (List.range' 0 (4 ^ 5)).map (ns_rc 4) := by decide +kernel
set_option maxRecDepth 100000 in
theorem ns_kd : ∀ q, q < 5 → (List.range' 0 (q ^ 5)).all (fun w => (List.range 5).all (fun v => ns_co (ns_rc q w) v == ns_dg q w v)) = true := by decide +kernel
theorem ns_kk {q : Nat} (hq : q ≤ 4) : (List.range' 0 1024).filter (ns_ub q) = (List.range' 0 (q ^ 5)).map (ns_rc q) := by
  have c : q = 0 ∨ q = 1 ∨ q = 2 ∨ q = 3 ∨ q = 4 := by omega
  rcases c with c | c | c | c | c <;> subst c
  · exact ns_k0
  · exact ns_k1
  · exact ns_k2
  · exact ns_k3
  · exact ns_k4
theorem ns_npE {A B : Nat → Nat} {m : Nat} (hE : ns_E A B m) {f g : Nat → Nat} (h : ∀ v, v < 5 → f v = g v) : ns_np A B m f = ns_np A B m g := by
  unfold ns_np
  refine ns_allE _ _ m (fun j hj => ?_) m 0 (Nat.zero_add m)
  unfold ns_pe1
  rw [h _ (hE j hj).1, h _ (hE j hj).2]
theorem ns_flE {α : Type} (g g' : α → Nat → α) : ∀ (l : List Nat) (a : α), (∀ w, w ∈ l → ∀ a, g a w = g' a w) → l.foldl g a = l.foldl g' a := by
  intro l
  induction l with
  | nil => intro a _; rfl
  | cons x l ih =>
    intro a h
    rw [List.foldl_cons, List.foldl_cons, h x (List.mem_cons_self ..)]
    exact ih _ (fun w hw => h w (List.mem_cons_of_mem x hw))
theorem ns_flF {α : Type} (p : Nat → Bool) (g : α → Nat → α) : ∀ (l : List Nat) (a : α), l.foldl (fun a c => cond (p c) (g a c) a) a = (l.filter p).foldl g a := by
  intro l
  induction l with
  | nil => intro a; rfl
  | cons x l ih =>
    intro a
    rw [List.foldl_cons, ih]
    cases z : p x
    · rw [List.filter_cons_of_neg (by rw [z]; decide)]; rfl
    · rw [List.filter_cons_of_pos z, List.foldl_cons]; rfl
theorem ns_colE {A B : Nat → Nat} {m q : Nat} (hE : ns_E A B m) (hq : q ≤ 4) : ns_fo (fun a c => cond (ns_ub q c) (ns_cg A B m ns_co a c) a) 1024 0 0 = ns_fo (ns_cg A B m (ns_dg q)) (q ^ 5) 0 0 := by
  rw [ns_foL, ns_foL, ns_flF, ns_kk hq, List.foldl_map]
  refine ns_flE _ _ _ _ (fun w hw a => ?_)
  have h := ns_kd q (by omega)
  rw [List.all_eq_true] at h
  have h := h w hw
  rw [List.all_eq_true] at h
  unfold ns_cg
  rw [ns_npE hE (fun v hv => eq_of_beq (h v (List.mem_range.mpr hv)))]
