theorem pk_us {f : Nat → Int32} {k : Nat} {x : Int32} : upd f k x k = x := if_pos rfl
theorem pk_un {f : Nat → Int32} {k j : Nat} {x : Int32} (h : j ≠ k) : upd f k x j = f j := if_neg h
theorem pk_m1 (n : Nat) : nI (n + 1) + (-1) = nI n := by
  rw [← nI_1, Int32.add_assoc, show (1 : Int32) + (-1) = 0 from rfl, Int32.add_zero]
theorem pk_mul (a b : Nat) : nI a * nI b = nI (a * b) := (Int32.ofNat_mul a b).symm
/-- what the class keeps of a condition's word: its comparison and its argument's number -/
def sf_cm (W : Nat → Int32) : Nat → Int32 := fun j => W j - W j / 8 * 8
def sf_sr (W : Nat → Int32) : Nat → Int32 := fun j => W j / 8
/-- a copy of row a into row b, as a map of places: one cell a row, two cells a row -/
def sf_s1 (a b : Nat) : Nat → Nat := fun j => if j = b then a else j
def sf_s2 (a b : Nat) : Nat → Nat := fun j => if j = 2 * b + 1 then 2 * a + 1 else if j = 2 * b then 2 * a else j
theorem sf_u1 (f : Nat → Int32) (a b : Nat) : upd f b (f a) = fun j => f (sf_s1 a b j) := by
  funext j
  unfold upd sf_s1
  by_cases h : j = b
  · rw [if_pos h, if_pos h]
  · rw [if_neg h, if_neg h]
theorem sf_u2 (f : Nat → Int32) (a b : Nat) : upd (upd f (2 * b) (f (2 * a))) (2 * b + 1) ((upd f (2 * b) (f (2 * a))) (2 * a + 1)) = fun j => f (sf_s2 a b j) := by
  funext j
  have e : ¬ 2 * a + 1 = 2 * b := by omega
  unfold upd sf_s2
  by_cases h : j = 2 * b + 1
  · rw [if_pos h, if_pos h, if_neg e]
  · rw [if_neg h, if_neg h]
    by_cases h2 : j = 2 * b
    · rw [if_pos h2, if_pos h2]
    · rw [if_neg h2, if_neg h2]
theorem sf_e (f : Nat → Int32) {x y : Int32} {p q : Nat} (hx : x = nI p) (hy : y = nI q) (hp : p < 28) (hq : q < 28) : upd f y.toNatClampNeg (f x.toNatClampNeg) = upd f q (f p) := by
  rw [hx, hy, nI_clamp (by omega), nI_clamp (by omega)]
theorem sf_e1 (f : Nat → Int32) {x y : Int32} {p q : Nat} (hx : x = nI p) (hy : y = nI q) (hp : p < 14) (hq : q < 14) : upd f y.toNatClampNeg (f x.toNatClampNeg) = fun j => f (sf_s1 p q j) := by
  rw [hx, hy, nI_clamp (by omega), nI_clamp (by omega)]
  exact sf_u1 f p q
theorem sf_in {x : Int32} {p N : Nat} (hx : x = nI p) (h : p < N) (hN : N < 2 ^ 31) : vp_in x N := by
  rw [hx]
  exact vp_in_nI h hN
theorem sf_ix (a s : Nat) : nI a * 2 + nI s = nI (2 * a + s) := by
  rw [show (2 : Int32) = nI 2 from rfl, pk_mul, nI_add]
  exact congrArg nI (by omega)
theorem sf_iy (a s : Nat) : 2 * nI a + nI s = nI (2 * a + s) := by
  rw [show (2 : Int32) = nI 2 from rfl, pk_mul, nI_add]
theorem sf_iy0 (a : Nat) : 2 * nI a = nI (2 * a) := by
  rw [show (2 : Int32) = nI 2 from rfl, pk_mul]
theorem sf_stX {post : SX → Prop} {x1 x2 c d : Int32} {n : Nat} {x3 x3' : Int32} {F L A C S M V G : Nat → Int32} (p q : Nat) (hp : p < 28) (hq : q < 28) (h2 : ¬ 2 ≤ x3) (hx : x3 + 1 = x3') (ep : x1 * 2 + x3 = nI p) (eq : x2 * 2 + x3 = nI q)
    (h : wX_copyRule_38 post x1 x2 c d n x3' F L A (upd C q (C p)) (upd S q (S p)) (upd M q (M p)) (upd V q (V p)) G) : wX_copyRule_38 post x1 x2 c d (n + 1) x3 F L A C S M V G :=
  br_f h2 (nm_r ep (nm_r eq ⟨sf_in rfl hp (by decide), sf_in rfl hq (by decide), nm_r (sf_e C rfl rfl hp hq) ⟨sf_in rfl hp (by decide), sf_in rfl hq (by decide), nm_r (sf_e S rfl rfl hp hq) ⟨sf_in rfl hp (by decide), sf_in rfl hq (by decide), nm_r (sf_e M rfl rfl hp hq) ⟨sf_in rfl hp (by decide), sf_in rfl hq (by decide), nm_r (sf_e V rfl rfl hp hq) (nm_r hx h)⟩⟩⟩⟩))
theorem sf_stY {post : SY → Prop} {x1 x2 c d : Int32} {n : Nat} {x3 x3' : Int32} {F L A W M V G : Nat → Int32} (p q : Nat) (hp : p < 28) (hq : q < 28) (h2 : ¬ 2 ≤ x3) (hx : x3 + 1 = x3') (ep : 2 * x1 + x3 = nI p) (eq : 2 * x2 + x3 = nI q)
    (h : wY_copy_38 post x1 x2 c d n x3' F L A (upd W q (W p)) (upd M q (M p)) (upd V q (V p)) G) : wY_copy_38 post x1 x2 c d (n + 1) x3 F L A W M V G :=
  br_f h2 ⟨sf_in ep hp (by decide), sf_in eq hq (by decide), nm_r (sf_e W ep eq hp hq) ⟨sf_in ep hp (by decide), sf_in eq hq (by decide), nm_r (sf_e M ep eq hp hq) ⟨sf_in ep hp (by decide), sf_in eq hq (by decide), nm_r (sf_e V ep eq hp hq) (nm_r hx h)⟩⟩⟩
theorem sf_cpX {post : SX → Prop} {x y c d : Int32} {F L A C S M V G : Nat → Int32} (a b : Nat) (ha : a < 14) (hb : b < 14) (ex : x = nI a) (ey : y = nI b)
    (h : post (c, d, fun j => F (sf_s1 a b j), fun j => L (sf_s1 a b j), fun j => A (sf_s1 a b j), fun j => C (sf_s2 a b j), fun j => S (sf_s2 a b j), fun j => M (sf_s2 a b j), fun j => V (sf_s2 a b j), G)) : wpX_copyRule post (c, d, F, L, A, C, S, M, V, G) x y := by
  subst ex ey
  have va : vp_in (nI a) 14 := vp_in_nI ha (by decide)
  have vb : vp_in (nI b) 14 := vp_in_nI hb (by decide)
  refine ⟨va, vb, nm_r (sf_e1 F rfl rfl ha hb) ⟨va, vb, nm_r (sf_e1 L rfl rfl ha hb) ⟨va, vb, nm_r (sf_e1 A rfl rfl ha hb) ⟨2 + 1, ?_⟩⟩⟩⟩
  refine sf_stX (x3' := 1) (2 * a) (2 * b) (by omega) (by omega) (by decide) (by decide) (sf_ix a 0) (sf_ix b 0) ?_
  refine sf_stX (n := 0 + 1) (x3' := 2) (2 * a + 1) (2 * b + 1) (by omega) (by omega) (by decide) (by decide) (sf_ix a 1) (sf_ix b 1) ?_
  refine br_t (by decide) ?_
  rw [sf_u2 C a b, sf_u2 S a b, sf_u2 M a b, sf_u2 V a b]
  exact h
theorem sf_cpY {post : SY → Prop} {x y c d : Int32} {F L A W M V G : Nat → Int32} (a b : Nat) (ha : a < 14) (hb : b < 14) (ex : x = nI a) (ey : y = nI b)
    (h : post (c, d, fun j => F (sf_s1 a b j), fun j => L (sf_s1 a b j), fun j => A (sf_s1 a b j), fun j => W (sf_s2 a b j), fun j => M (sf_s2 a b j), fun j => V (sf_s2 a b j), G)) : wpY_copy post (c, d, F, L, A, W, M, V, G) x y := by
  subst ex ey
  have va : vp_in (nI a) 14 := vp_in_nI ha (by decide)
  have vb : vp_in (nI b) 14 := vp_in_nI hb (by decide)
  refine ⟨va, vb, nm_r (sf_e1 F rfl rfl ha hb) ⟨va, vb, nm_r (sf_e1 L rfl rfl ha hb) ⟨va, vb, nm_r (sf_e1 A rfl rfl ha hb) ⟨2 + 1, ?_⟩⟩⟩⟩
  refine sf_stY (x3' := 1) (2 * a) (2 * b) (by omega) (by omega) (by decide) (by decide) (sf_iy a 0) (sf_iy b 0) ?_
  refine sf_stY (n := 0 + 1) (x3' := 2) (2 * a + 1) (2 * b + 1) (by omega) (by omega) (by decide) (by decide) (sf_iy a 1) (sf_iy b 1) ?_
  refine br_t (by decide) ?_
  rw [sf_u2 W a b, sf_u2 M a b, sf_u2 V a b]
  exact h
/-- the gap is opened: the same map of places on both sides, and row 12 goes nowhere -/
theorem sf_up (p : Nat) : ∀ k : Nat, p + k ≤ 11 → ∃ σ τ : Nat → Nat, (∀ j, σ j = 12 ↔ j = 12) ∧
    (∀ (post : SX → Prop) (c d : Int32) (F L A C S M V G : Nat → Int32), post (c + 1, d, fun j => F (σ j), fun j => L (σ j), fun j => A (σ j), fun j => C (τ j), fun j => S (τ j), fun j => M (τ j), fun j => V (τ j), G) → wX_openGap_5 post (nI p) (k + 1) (nI (p + k)) c d F L A C S M V G) ∧
    (∀ (post : SY → Prop) (x2 c d : Int32) (F L A W M V G : Nat → Int32), wY_insert_30 post (nI p) x2 c d (fun j => F (σ j)) (fun j => L (σ j)) (fun j => A (σ j)) (fun j => W (τ j)) (fun j => M (τ j)) (fun j => V (τ j)) G → wY_insert_5 post (nI p) x2 (k + 1) (nI (p + k)) c d F L A W M V G) := by
  intro k
  induction k with
  | zero =>
    intro hk
    have h : nI (p + 0) ≤ nI p := nI_le (by omega) (by omega)
    exact ⟨fun j => j, fun j => j, fun j => Iff.rfl, fun post c d F L A C S M V G hp => br_t h (nm_e hp), fun post x2 c d F L A W M V G hp => br_t h hp⟩
  | succ k ih =>
    intro hk
    obtain ⟨σ, τ, h12, hX, hY⟩ := ih (by omega)
    have h : ¬ nI (p + (k + 1)) ≤ nI p := nI_ge (by omega) (by omega)
    have h11 : ¬ (11 : Int32) < nI (p + (k + 1)) := nI_nlt (a := 11) (by omega) (by decide)
    refine ⟨fun j => sf_s1 (p + k) (p + k + 1) (σ j), fun j => sf_s2 (p + k) (p + k + 1) (τ j), fun j => ?_, fun post c d F L A C S M V G hp => br_f h ?_, fun post x2 c d F L A W M V G hp => br_f h (br_f h11 ?_)⟩
    · have := h12 j
      unfold sf_s1
      dsimp only
      by_cases z : σ j = p + k + 1
      · rw [if_pos z]; omega
      · rw [if_neg z]; exact this
    · refine sf_cpX (p + k) (p + k + 1) (by omega) (by omega) (nI_pred (p + k)) rfl ?_
      exact nm_r (pk_m1 (p + k)) (hX post c d _ _ _ _ _ _ _ G hp)
    · refine sf_cpY (p + k) (p + k + 1) (by omega) (by omega) (nI_pred (p + k)) rfl ?_
      exact nm_r (pk_m1 (p + k)) (hY post x2 c d _ _ _ _ _ _ G hp)
/-- the gap is closed: likewise -/
theorem sf_dn (c : Nat) (hc : c ≤ 11) : ∀ k i : Nat, i + k = c → ∃ σ τ : Nat → Nat, (∀ j, σ j = 12 ↔ j = 12) ∧
    (∀ (post : SX → Prop) (d : Int32) (F L A C S M V G : Nat → Int32), post (nI c, d, fun j => F (σ j), fun j => L (σ j), fun j => A (σ j), fun j => C (τ j), fun j => S (τ j), fun j => M (τ j), fun j => V (τ j), G) → wX_closeGap_12 post (k + 1) (nI i) (nI c) d F L A C S M V G) ∧
    (∀ (post : SY → Prop) (d : Int32) (F L A W M V G : Nat → Int32), post (nI c, d, fun j => F (σ j), fun j => L (σ j), fun j => A (σ j), fun j => W (τ j), fun j => M (τ j), fun j => V (τ j), G) → wY_takeOut_2 post (k + 1) (nI i) (nI (c + 1)) d F L A W M V G) := by
  intro k
  induction k with
  | zero =>
    intro i hi
    have h : nI c ≤ nI i := nI_le (by omega) (by omega)
    have h' : nI (c + 1) - 1 ≤ nI i := by rw [nI_pred]; exact h
    exact ⟨fun j => j, fun j => j, fun j => Iff.rfl, fun post d F L A C S M V G hp => br_t h hp, fun post d F L A W M V G hp => br_t h' (nm_r (nI_pred c) hp)⟩
  | succ k ih =>
    intro i hi
    obtain ⟨σ, τ, h12, hX, hY⟩ := ih (i + 1) (by omega)
    have h : ¬ nI c ≤ nI i := nI_ge (by omega) (by omega)
    have h' : ¬ nI (c + 1) - 1 ≤ nI i := by rw [nI_pred]; exact h
    have h11 : ¬ (11 : Int32) ≤ nI i := nI_ge (b := 11) (by omega) (by decide)
    refine ⟨fun j => sf_s1 (i + 1) i (σ j), fun j => sf_s2 (i + 1) i (τ j), fun j => ?_, fun post d F L A C S M V G hp => br_f h ?_, fun post d F L A W M V G hp => br_f h' (br_f h11 ?_)⟩
    · have := h12 j
      unfold sf_s1
      dsimp only
      by_cases z : σ j = i
      · rw [if_pos z]; omega
      · rw [if_neg z]; exact this
    · refine sf_cpX (i + 1) i (by omega) (by omega) (nI_1 i) rfl ?_
      exact nm_r (nI_1 i) (hX post d _ _ _ _ _ _ _ G hp)
    · refine sf_cpY (i + 1) i (by omega) (by omega) (nI_1 i) rfl ?_
      exact nm_r (nI_1 i) (hY post d _ _ _ _ _ _ G hp)
