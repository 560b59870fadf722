section
theorem pk_us {f : Nat → Int32} {k : Nat} {x : Int32} : upd f k x k = x := if_pos rfl
theorem pk_un {f : Nat → Int32} {k j : Nat} {x : Int32} (h : j ≠ k) : upd f k x j = f j := if_neg h
theorem pk_m1 (n : Nat) : nI (n + 1) + (-1) = nI n := by
  rw [← nI_1, Int32.add_assoc, show (1 : Int32) + (-1) = 0 from rfl, Int32.add_zero]
theorem pk_mul (a b : Nat) : nI a * nI b = nI (a * b) := (Int32.ofNat_mul a b).symm
/-- what the class keeps of a condition's word: its comparison and its argument's number -/
def sf_cm (W : Nat → Int32) : Nat → Int32 := fun j => W j - W j / 8 * 8
def sf_sr (W : Nat → Int32) : Nat → Int32 := fun j => W j / 8
/-- a copy of row a into row b, as a map of places: one cell a row, two cells a row -/
def sf_s1 (a b : Nat) : Nat → Nat := fun j => if j = b then a else j
def sf_s2 (a b : Nat) : Nat → Nat := fun j => if j = 2 * b + 1 then 2 * a + 1 else if j = 2 * b then 2 * a else j
theorem sf_u1 (f : Nat → Int32) (a b : Nat) : upd f b (f a) = fun j => f (sf_s1 a b j) := by
  funext j
  unfold upd sf_s1
  by_cases h : j = b
  · rw [if_pos h, if_pos h]
  · rw [if_neg h, if_neg h]
theorem sf_u2 (f : Nat → Int32) (a b : Nat) : upd (upd f (2 * b) (f (2 * a))) (2 * b + 1) ((upd f (2 * b) (f (2 * a))) (2 * a + 1)) = fun j => f (sf_s2 a b j) := by
  funext j
  have e : ¬ 2 * a + 1 = 2 * b := by omega
  unfold upd sf_s2
  by_cases h : j = 2 * b + 1
  · rw [if_pos h, if_pos h, if_neg e]
  · rw [if_neg h, if_neg h]
    by_cases h2 : j = 2 * b
    · rw [if_pos h2, if_pos h2]
    · rw [if_neg h2, if_neg h2]
theorem sf_e (f : Nat → Int32) {x y : Int32} {p q : Nat} (hx : x = nI p) (hy : y = nI q) (hp : p < 28) (hq : q < 28) : upd f y.toNatClampNeg (f x.toNatClampNeg) = upd f q (f p) := by
  rw [hx, hy, nI_clamp (by omega), nI_clamp (by omega)]
theorem sf_e1 (f : Nat → Int32) {x y : Int32} {p q : Nat} (hx : x = nI p) (hy : y = nI q) (hp : p < 14) (hq : q < 14) : upd f y.toNatClampNeg (f x.toNatClampNeg) = fun j => f (sf_s1 p q j) := by
  rw [hx, hy, nI_clamp (by omega), nI_clamp (by omega)]
  exact sf_u1 f p q
theorem sf_in {x : Int32} {p N : Nat} (hx : x = nI p) (h : p < N) (hN : N < 2 ^ 31) : vp_in x N := by
  rw [hx]
  exact vp_in_nI h hN
theorem sf_ix (a s : Nat) : nI a * 2 + nI s = nI (2 * a + s) := by
  rw [show (2 : Int32) = nI 2 from rfl, pk_mul, nI_add]
  exact congrArg nI (by omega)
theorem sf_iy (a s : Nat) : 2 * nI a + nI s = nI (2 * a + s) := by
  rw [show (2 : Int32) = nI 2 from rfl, pk_mul, nI_add]
theorem sf_iy0 (a : Nat) : 2 * nI a = nI (2 * a) := by
  rw [show (2 : Int32) = nI 2 from rfl, pk_mul]
theorem sf_stX {post : SX → Prop} {x1 x2 c d : Int32} {n : Nat} {x3 x3' : Int32} {F L A C S M V G : Nat → Int32} (p q : Nat) (hp : p < 28) (hq : q < 28) (h2 : ¬ 2 ≤ x3) (hx : x3 + 1 = x3') (ep : x1 * 2 + x3 = nI p) (eq : x2 * 2 + x3 = nI q)
    (h : wX_copyRule_38 post x1 x2 c d n x3' F L A (upd C q (C p)) (upd S q (S p)) (upd M q (M p)) (upd V q (V p)) G) : wX_copyRule_38 post x1 x2 c d (n + 1) x3 F L A C S M V G :=
  br_f h2 (nm_r ep (nm_r eq ⟨sf_in rfl hp (by decide), sf_in rfl hq (by decide), nm_r (sf_e C rfl rfl hp hq) ⟨sf_in rfl hp (by decide), sf_in rfl hq (by decide), nm_r (sf_e S rfl rfl hp hq) ⟨sf_in rfl hp (by decide), sf_in rfl hq (by decide), nm_r (sf_e M rfl rfl hp hq) ⟨sf_in rfl hp (by decide), sf_in rfl hq (by decide), nm_r (sf_e V rfl rfl hp hq) (nm_r hx h)⟩⟩⟩⟩))
theorem sf_stY {post : SY → Prop} {x1 x2 c d : Int32} {n : Nat} {x3 x3' : Int32} {F L A W M V G : Nat → Int32} (p q : Nat) (hp : p < 28) (hq : q < 28) (h2 : ¬ 2 ≤ x3) (hx : x3 + 1 = x3') (ep : 2 * x1 + x3 = nI p) (eq : 2 * x2 + x3 = nI q)
    (h : wY_copy_38 post x1 x2 c d n x3' F L A (upd W q (W p)) (upd M q (M p)) (upd V q (V p)) G) : wY_copy_38 post x1 x2 c d (n + 1) x3 F L A W M V G :=
  br_f h2 ⟨sf_in ep hp (by decide), sf_in eq hq (by decide), nm_r (sf_e W ep eq hp hq) ⟨sf_in ep hp (by decide), sf_in eq hq (by decide), nm_r (sf_e M ep eq hp hq) ⟨sf_in ep hp (by decide), sf_in eq hq (by decide), nm_r (sf_e V ep eq hp hq) (nm_r hx h)⟩⟩⟩
theorem sf_cpX {post : SX → Prop} {x y c d : Int32} {F L A C S M V G : Nat → Int32} (a b : Nat) (ha : a < 14) (hb : b < 14) (ex : x = nI a) (ey : y = nI b)
    (h : post (c, d, fun j => F (sf_s1 a b j), fun j => L (sf_s1 a b j), fun j => A (sf_s1 a b j), fun j => C (sf_s2 a b j), fun j => S (sf_s2 a b j), fun j => M (sf_s2 a b j), fun j => V (sf_s2 a b j), G)) : wpX_copyRule post (c, d, F, L, A, C, S, M, V, G) x y := by
  subst ex ey
  have va : vp_in (nI a) 14 := vp_in_nI ha (by decide)
  have vb : vp_in (nI b) 14 := vp_in_nI hb (by decide)
  refine ⟨va, vb, nm_r (sf_e1 F rfl rfl ha hb) ⟨va, vb, nm_r (sf_e1 L rfl rfl ha hb) ⟨va, vb, nm_r (sf_e1 A rfl rfl ha hb) ⟨2 + 1, ?_⟩⟩⟩⟩
  refine sf_stX (x3' := 1) (2 * a) (2 * b) (by omega) (by omega) (by decide) (by decide) (sf_ix a 0) (sf_ix b 0) ?_
  refine sf_stX (n := 0 + 1) (x3' := 2) (2 * a + 1) (2 * b + 1) (by omega) (by omega) (by decide) (by decide) (sf_ix a 1) (sf_ix b 1) ?_
  refine br_t (by decide) ?_
  rw [sf_u2 C a b, sf_u2 S a b, sf_u2 M a b, sf_u2 V a b]
  exact h
theorem sf_cpY {post : SY → Prop} {x y c d : Int32} {F L A W M V G : Nat → Int32} (a b : Nat) (ha : a < 14) (hb : b < 14) (ex : x = nI a) (ey : y = nI b)
    (h : post (c, d, fun j => F (sf_s1 a b j), fun j => L (sf_s1 a b j), fun j => A (sf_s1 a b j), fun j => W (sf_s2 a b j), fun j => M (sf_s2 a b j), fun j => V (sf_s2 a b j), G)) : wpY_copy post (c, d, F, L, A, W, M, V, G) x y := by
  subst ex ey
  have va : vp_in (nI a) 14 := vp_in_nI ha (by decide)
  have vb : vp_in (nI b) 14 := vp_in_nI hb (by decide)
  refine ⟨va, vb, nm_r (sf_e1 F rfl rfl ha hb) ⟨va, vb, nm_r (sf_e1 L rfl rfl ha hb) ⟨va, vb, nm_r (sf_e1 A rfl rfl ha hb) ⟨2 + 1, ?_⟩⟩⟩⟩
  refine sf_stY (x3' := 1) (2 * a) (2 * b) (by omega) (by omega) (by decide) (by decide) (sf_iy a 0) (sf_iy b 0) ?_
  refine sf_stY (n := 0 + 1) (x3' := 2) (2 * a + 1) (2 * b + 1) (by omega) (by omega) (by decide) (by decide) (sf_iy a 1) (sf_iy b 1) ?_
  refine br_t (by decide) ?_
  rw [sf_u2 W a b, sf_u2 M a b, sf_u2 V a b]
  exact h
/-- the gap is opened: the same map of places on both sides, and row 12 goes nowhere -/
theorem sf_up (p : Nat) : ∀ k : Nat, p + k ≤ 11 → ∃ σ τ : Nat → Nat, (∀ j, σ j = 12 ↔ j = 12) ∧
    (∀ (post : SX → Prop) (c d : Int32) (F L A C S M V G : Nat → Int32), post (c + 1, d, fun j => F (σ j), fun j => L (σ j), fun j => A (σ j), fun j => C (τ j), fun j => S (τ j), fun j => M (τ j), fun j => V (τ j), G) → wX_openGap_5 post (nI p) (k + 1) (nI (p + k)) c d F L A C S M V G) ∧
    (∀ (post : SY → Prop) (x2 c d : Int32) (F L A W M V G : Nat → Int32), wY_insert_30 post (nI p) x2 c d (fun j => F (σ j)) (fun j => L (σ j)) (fun j => A (σ j)) (fun j => W (τ j)) (fun j => M (τ j)) (fun j => V (τ j)) G → wY_insert_5 post (nI p) x2 (k + 1) (nI (p + k)) c d F L A W M V G) := by
  intro k
  induction k with
  | zero =>
    intro hk
    have h : nI (p + 0) ≤ nI p := nI_le (by omega) (by omega)
    exact ⟨fun j => j, fun j => j, fun j => Iff.rfl, fun post c d F L A C S M V G hp => br_t h (nm_e hp), fun post x2 c d F L A W M V G hp => br_t h hp⟩
  | succ k ih =>
    intro hk
    obtain ⟨σ, τ, h12, hX, hY⟩ := ih (by omega)
    have h : ¬ nI (p + (k + 1)) ≤ nI p := nI_ge (by omega) (by omega)
    have h11 : ¬ (11 : Int32) < nI (p + (k + 1)) := nI_nlt (a := 11) (by omega) (by decide)
    refine ⟨fun j => sf_s1 (p + k) (p + k + 1) (σ j), fun j => sf_s2 (p + k) (p + k + 1) (τ j), fun j => ?_, fun post c d F L A C S M V G hp => br_f h ?_, fun post x2 c d F L A W M V G hp => br_f h (br_f h11 ?_)⟩
    · have := h12 j
      unfold sf_s1
      dsimp only
      by_cases z : σ j = p + k + 1
      · rw [if_pos z]; omega
      · rw [if_neg z]; exact this
    · refine sf_cpX (p + k) (p + k + 1) (by omega) (by omega) (nI_pred (p + k)) rfl ?_
      exact nm_r (pk_m1 (p + k)) (hX post c d _ _ _ _ _ _ _ G hp)
    · refine sf_cpY (p + k) (p + k + 1) (by omega) (by omega) (nI_pred (p + k)) rfl ?_
      exact nm_r (pk_m1 (p + k)) (hY post x2 c d _ _ _ _ _ _ G hp)
/-- the gap is closed: likewise -/
theorem sf_dn (c : Nat) (hc : c ≤ 11) : ∀ k i : Nat, i + k = c → ∃ σ τ : Nat → Nat, (∀ j, σ j = 12 ↔ j = 12) ∧
    (∀ (post : SX → Prop) (d : Int32) (F L A C S M V G : Nat → Int32), post (nI c, d, fun j => F (σ j), fun j => L (σ j), fun j => A (σ j), fun j => C (τ j), fun j => S (τ j), fun j => M (τ j), fun j => V (τ j), G) → wX_closeGap_12 post (k + 1) (nI i) (nI c) d F L A C S M V G) ∧
    (∀ (post : SY → Prop) (d : Int32) (F L A W M V G : Nat → Int32), post (nI c, d, fun j => F (σ j), fun j => L (σ j), fun j => A (σ j), fun j => W (τ j), fun j => M (τ j), fun j => V (τ j), G) → wY_takeOut_2 post (k + 1) (nI i) (nI (c + 1)) d F L A W M V G) := by
  intro k
  induction k with
  | zero =>
    intro i hi
    have h : nI c ≤ nI i := nI_le (by omega) (by omega)
    have h' : nI (c + 1) - 1 ≤ nI i := by rw [nI_pred]; exact h
    exact ⟨fun j => j, fun j => j, fun j => Iff.rfl, fun post d F L A C S M V G hp => br_t h hp, fun post d F L A W M V G hp => br_t h' (nm_r (nI_pred c) hp)⟩
  | succ k ih =>
    intro i hi
    obtain ⟨σ, τ, h12, hX, hY⟩ := ih (i + 1) (by omega)
    have h : ¬ nI c ≤ nI i := nI_ge (by omega) (by omega)
    have h' : ¬ nI (c + 1) - 1 ≤ nI i := by rw [nI_pred]; exact h
    have h11 : ¬ (11 : Int32) ≤ nI i := nI_ge (b := 11) (by omega) (by decide)
    refine ⟨fun j => sf_s1 (i + 1) i (σ j), fun j => sf_s2 (i + 1) i (τ j), fun j => ?_, fun post d F L A C S M V G hp => br_f h ?_, fun post d F L A W M V G hp => br_f h' (br_f h11 ?_)⟩
    · have := h12 j
      unfold sf_s1
      dsimp only
      by_cases z : σ j = i
      · rw [if_pos z]; omega
      · rw [if_neg z]; exact this
    · refine sf_cpX (i + 1) i (by omega) (by omega) (nI_1 i) rfl ?_
      exact nm_r (nI_1 i) (hX post d _ _ _ _ _ _ _ G hp)
    · refine sf_cpY (i + 1) i (by omega) (by omega) (nI_1 i) rfl ?_
      exact nm_r (nI_1 i) (hY post d _ _ _ _ _ _ G hp)
end
section
section
variable {c : Nat} {d : Int32} {F L A B W M V G : Nat → Int32}
def sf_okW (W : Nat → Int32) : Prop := ∀ j, ∃ w : Nat, w < 16 ∧ w % 8 ≠ 7 ∧ W j = nI w
def sf_okN (F : Nat → Int32) : Prop := ∀ j, ∃ f : Nat, f < 32 ∧ F j = nI f
def sf_agr (A B : Nat → Int32) : Prop := ∀ j, j ≠ 12 → B j = A j
theorem sf_bi (p : Prop) (a b : Int32) : ∃ r : Int32, ∀ post : Int32 → Prop, post r → (p → post a) ∧ (¬ p → post b) := by
  by_cases h : p
  · exact ⟨a, fun _ hp => br_t h hp⟩
  · exact ⟨b, fun _ hp => br_f h hp⟩
theorem sf_wf : ∀ w : Nat, w < 16 → w % 8 ≠ 7 → (nI w / 8) &&& 1 = nI w / 8 ∧ 0 ≤ (nI w / 8).toInt ∧ (nI w / 8).toInt < 2 ∧ (nI w - nI w / 8 * 8 = 0 ∨ nI w - nI w / 8 * 8 = 1 ∨ nI w - nI w / 8 * 8 = 2 ∨ nI w - nI w / 8 * 8 = 3 ∨ nI w - nI w / 8 * 8 = 4 ∨ nI w - nI w / 8 * 8 = 5 ∨ nI w - nI w / 8 * 8 = 6) := by
  decide +kernel
theorem sf_8 : ¬ (8 : Int32) = 0 := by decide
theorem sf_has (i : Nat) (hi : i < 14) (k : Int32) : ∃ r : Int32, (∀ post : Int32 → Prop, post r → wpX_inRange post (nI c, d, F, L, A, sf_cm W, sf_sr W, M, V, G) (nI i) k) ∧ (∀ post : Int32 → Prop, post r → wpY_has post (nI c, d, F, L, B, W, M, V, G) (nI i) k) := by
  have hv : vp_in (nI i) 14 := vp_in_nI hi (by decide)
  by_cases h1 : k < F (nI i).toNatClampNeg
  · exact ⟨0, fun _ hp => ⟨hv, br_t h1 hp⟩, fun _ hp => ⟨hv, br_t h1 hp⟩⟩
  · by_cases h2 : L (nI i).toNatClampNeg < k
    · exact ⟨0, fun _ hp => ⟨hv, br_f h1 ⟨hv, br_t h2 hp⟩⟩, fun _ hp => ⟨hv, br_f h1 ⟨hv, br_t h2 hp⟩⟩⟩
    · exact ⟨1, fun _ hp => ⟨hv, br_f h1 ⟨hv, br_f h2 hp⟩⟩, fun _ hp => ⟨hv, br_f h1 ⟨hv, br_f h2 hp⟩⟩⟩
theorem sf_met (hW : sf_okW W) (q : Nat) (hq : q < 28) {x y : Int32} (ex : x = nI q) (ey : y = nI q) : ∃ r : Int32, (∀ post : Int32 → Prop, post r → wpX_isMet post (nI c, d, F, L, A, sf_cm W, sf_sr W, M, V, G) x) ∧ (∀ post : Int32 → Prop, post r → wpY_met post (nI c, d, F, L, B, W, M, V, G) y) := by
  subst ex
  subst ey
  obtain ⟨w, hw, h7, ew⟩ := hW q
  obtain ⟨e1, e2, e3, e4⟩ := sf_wf w hw h7
  have hv : vp_in (nI q) 28 := vp_in_nI hq (by decide)
  have eq : (nI q).toNatClampNeg = q := nI_clamp (by omega)
  have eW : W (nI q).toNatClampNeg = nI w := by rw [eq]; exact ew
  have eS : sf_sr W (nI q).toNatClampNeg = nI w / 8 := by unfold sf_sr; rw [eW]
  have hs : vp_in (sf_sr W (nI q).toNatClampNeg) 2 := by rw [eS]; exact vp_in_iff.mpr ⟨e2, e3⟩
  have hs' : vp_in ((W (nI q).toNatClampNeg / 8) &&& 1) 2 := by rw [eW, e1]; exact vp_in_iff.mpr ⟨e2, e3⟩
  have ex : G ((W (nI q).toNatClampNeg / 8) &&& 1).toNatClampNeg &&& M (nI q).toNatClampNeg = G (sf_sr W (nI q).toNatClampNeg).toNatClampNeg &&& M (nI q).toNatClampNeg := by rw [eS, eW, e1]
  have eC : W (nI q).toNatClampNeg - W (nI q).toNatClampNeg / 8 * 8 = nI w - nI w / 8 * 8 := by rw [eW]
  generalize hx : G (sf_sr W (nI q).toNatClampNeg).toNatClampNeg &&& M (nI q).toNatClampNeg = x at ex
  rcases e4 with z | z | z | z | z | z | z
  · have hC : sf_cm W (nI q).toNatClampNeg = 0 := eC.trans z
    exact ⟨1, fun post hp => ⟨hv, hs, hv, nm_e ⟨hv, nm_e ⟨hv, nm_r hC (br_t (by decide) hp)⟩⟩⟩, fun post hp => ⟨hv, sf_8, nm_r hC (br_t rfl hp)⟩⟩
  · have hC : sf_cm W (nI q).toNatClampNeg = 1 := eC.trans z
    obtain ⟨r, hr⟩ := sf_bi (x = V (nI q).toNatClampNeg) 1 0
    exact ⟨r, fun post hp => ⟨hv, hs, hv, nm_r hx ⟨hv, nm_e ⟨hv, nm_r hC (br_f (by decide) (br_f (by decide) (br_t rfl (hr post hp))))⟩⟩⟩, fun post hp => ⟨hv, sf_8, nm_r hC (br_f (by decide) ⟨hv, sf_8, hs', hv, nm_r ex ⟨hv, nm_e (br_t rfl (hr post hp))⟩⟩)⟩⟩
  · have hC : sf_cm W (nI q).toNatClampNeg = 2 := eC.trans z
    obtain ⟨r, hr⟩ := sf_bi (x = V (nI q).toNatClampNeg) 0 1
    exact ⟨r, fun post hp => ⟨hv, hs, hv, nm_r hx ⟨hv, nm_e ⟨hv, nm_r hC (br_f (by decide) (br_f (by decide) (br_f (by decide) (br_t rfl (hr post hp)))))⟩⟩⟩, fun post hp => ⟨hv, sf_8, nm_r hC (br_f (by decide) ⟨hv, sf_8, hs', hv, nm_r ex ⟨hv, nm_e (br_f (by decide) (br_t rfl (hr post hp)))⟩⟩)⟩⟩
  · have hC : sf_cm W (nI q).toNatClampNeg = 3 := eC.trans z
    obtain ⟨r, hr⟩ := sf_bi (V (nI q).toNatClampNeg ≤ x) 0 1
    exact ⟨r, fun post hp => ⟨hv, hs, hv, nm_r hx ⟨hv, nm_e ⟨hv, nm_r hC (br_f (by decide) (br_f (by decide) (br_f (by decide) (br_f (by decide) (br_t rfl (hr post hp))))))⟩⟩⟩, fun post hp => ⟨hv, sf_8, nm_r hC (br_f (by decide) ⟨hv, sf_8, hs', hv, nm_r ex ⟨hv, nm_e (br_f (by decide) (br_f (by decide) (br_t rfl (hr post hp))))⟩⟩)⟩⟩
  · have hC : sf_cm W (nI q).toNatClampNeg = 4 := eC.trans z
    obtain ⟨r, hr⟩ := sf_bi (V (nI q).toNatClampNeg < x) 0 1
    exact ⟨r, fun post hp => ⟨hv, hs, hv, nm_r hx ⟨hv, nm_e ⟨hv, nm_r hC (br_f (by decide) (br_f (by decide) (br_f (by decide) (br_f (by decide) (br_f (by decide) (br_t rfl (hr post hp)))))))⟩⟩⟩, fun post hp => ⟨hv, sf_8, nm_r hC (br_f (by decide) ⟨hv, sf_8, hs', hv, nm_r ex ⟨hv, nm_e (br_f (by decide) (br_f (by decide) (br_f (by decide) (br_t rfl (hr post hp)))))⟩⟩)⟩⟩
  · have hC : sf_cm W (nI q).toNatClampNeg = 5 := eC.trans z
    obtain ⟨r, hr⟩ := sf_bi (x ≤ V (nI q).toNatClampNeg) 0 1
    exact ⟨r, fun post hp => ⟨hv, hs, hv, nm_r hx ⟨hv, nm_e ⟨hv, nm_r hC (br_f (by decide) (br_f (by decide) (br_f (by decide) (br_f (by decide) (br_f (by decide) (br_f (by decide) (br_t rfl (hr post hp))))))))⟩⟩⟩, fun post hp => ⟨hv, sf_8, nm_r hC (br_f (by decide) ⟨hv, sf_8, hs', hv, nm_r ex ⟨hv, nm_e (br_f (by decide) (br_f (by decide) (br_f (by decide) (br_f (by decide) (br_t rfl (hr post hp))))))⟩⟩)⟩⟩
  · have hC : sf_cm W (nI q).toNatClampNeg = 6 := eC.trans z
    obtain ⟨r, hr⟩ := sf_bi (x < V (nI q).toNatClampNeg) 0 1
    exact ⟨r, fun post hp => ⟨hv, hs, hv, nm_r hx ⟨hv, nm_e ⟨hv, nm_r hC (br_f (by decide) (br_f (by decide) (br_f (by decide) (br_f (by decide) (br_f (by decide) (br_f (by decide) (br_f (by decide) (br_t rfl (hr post hp)))))))))⟩⟩⟩, fun post hp => ⟨hv, sf_8, nm_r hC (br_f (by decide) ⟨hv, sf_8, hs', hv, nm_r ex ⟨hv, nm_e (br_f (by decide) (br_f (by decide) (br_f (by decide) (br_f (by decide) (br_f (by decide) (hr post hp))))))⟩⟩)⟩⟩
theorem sf_mat (hW : sf_okW W) (i : Nat) (hi : i < 12) (k : Int32) : ∃ r : Int32, (∀ post : Int32 → Prop, post r → wpX_matches post (nI c, d, F, L, A, sf_cm W, sf_sr W, M, V, G) (nI i) k) ∧ (∀ post : Int32 → Prop, post r → wpY_matches post (nI c, d, F, L, B, W, M, V, G) (nI i) k) := by
  obtain ⟨r1, hX1, hY1⟩ := sf_has (c := c) (d := d) (F := F) (L := L) (A := A) (B := B) (W := W) (M := M) (V := V) (G := G) i (by omega) k
  obtain ⟨r2, hX2, hY2⟩ := sf_met (c := c) (d := d) (F := F) (L := L) (A := A) (B := B) (W := W) (M := M) (V := V) (G := G) hW (2 * i) (by omega) (sf_ix i 0) (sf_iy0 i)
  obtain ⟨r3, hX3, hY3⟩ := sf_met (c := c) (d := d) (F := F) (L := L) (A := A) (B := B) (W := W) (M := M) (V := V) (G := G) hW (2 * i + 1) (by omega) (sf_ix i 1) (sf_iy i 1)
  unfold wpX_matches wpY_matches
  dsimp only
  by_cases z1 : r1 = 0
  · exact ⟨0, fun post hp => hX1 _ (br_t z1 hp), fun post hp => hY1 _ (br_t z1 hp)⟩
  · by_cases z2 : r2 = 0
    · exact ⟨0, fun post hp => hX1 _ (br_f z1 ⟨0 + 1, br_f (by decide) (hX2 _ (br_t z2 hp))⟩), fun post hp => hY1 _ (br_f z1 (hY2 _ (br_t z2 hp)))⟩
    · by_cases z3 : r3 = 0
      · exact ⟨0, fun post hp => hX1 _ (br_f z1 ⟨1 + 1, br_f (by decide) (hX2 _ (br_f z2 (nm_r (e' := 1) (by decide) (br_f (by decide) (hX3 _ (br_t z3 hp))))))⟩), fun post hp => hY1 _ (br_f z1 (hY2 _ (br_f z2 (hY3 _ (br_t z3 hp)))))⟩
      · exact ⟨1, fun post hp => hX1 _ (br_f z1 ⟨2 + 1, br_f (by decide) (hX2 _ (br_f z2 (nm_r (e' := 1) (by decide) (br_f (by decide) (hX3 _ (br_f z3 (nm_r (e' := 2) (by decide) (br_t (by decide) hp))))))))⟩), fun post hp => hY1 _ (br_f z1 (hY2 _ (br_f z2 (hY3 _ (br_f z3 hp)))))⟩
theorem sf_fm (hc : c ≤ 12) (hW : sf_okW W) (k : Int32) : ∀ n i : Nat, i + n = c → ∃ r : Int32, (r = -2 ∨ ∃ j : Nat, j < 12 ∧ r = nI j) ∧ (∀ post : Int32 → Prop, post r → wX_firstMatch_2 post k (nI c) d F L A (sf_cm W) (sf_sr W) M V G (n + 1) (nI i)) ∧ (∀ post : Int32 → Prop, post r → wY_firstMatch_2 post k (nI c) d F L B W M V G (n + 1) (nI i)) := by
  intro n
  induction n with
  | zero =>
    intro i hi
    have h : nI c ≤ nI i := nI_le (by omega) (by omega)
    exact ⟨-2, Or.inl rfl, fun post hp => br_t h hp, fun post hp => br_t h hp⟩
  | succ n ih =>
    intro i hi
    have h : ¬ nI c ≤ nI i := nI_ge (by omega) (by omega)
    have h12 : ¬ (12 : Int32) ≤ nI i := nI_ge (b := 12) (by omega) (by decide)
    obtain ⟨r1, hX1, hY1⟩ := sf_mat (c := c) (d := d) (F := F) (L := L) (A := A) (B := B) (W := W) (M := M) (V := V) (G := G) hW i (by omega) k
    by_cases z : r1 = 0
    · obtain ⟨r, hr, hX, hY⟩ := ih (i + 1) (by omega)
      exact ⟨r, hr, fun post hp => br_f h (hX1 _ (br_t z (nm_r (nI_1 i) (hX post hp)))), fun post hp => br_f h (br_f h12 (hY1 _ (br_t z (nm_r (nI_1 i) (hY post hp)))))⟩
    · exact ⟨nI i, Or.inr ⟨i, by omega, rfl⟩, fun post hp => br_f h (hX1 _ (br_f z hp)), fun post hp => br_f h (br_f h12 (hY1 _ (br_f z hp)))⟩
theorem sf_fst (hc : c ≤ 12) (hW : sf_okW W) (k : Int32) : ∃ r : Int32, (r = -2 ∨ ∃ j : Nat, j < 12 ∧ r = nI j) ∧ (∀ post : Int32 → Prop, post r → wpX_firstMatch post (nI c, d, F, L, A, sf_cm W, sf_sr W, M, V, G) k) ∧ (∀ post : Int32 → Prop, post r → wpY_firstMatch post (nI c, d, F, L, B, W, M, V, G) k) := by
  obtain ⟨r, hr, hX, hY⟩ := sf_fm (d := d) (F := F) (L := L) (A := A) (B := B) (M := M) (V := V) (G := G) hc hW k c 0 (by omega)
  rw [nI_0] at hX hY
  exact ⟨r, hr, fun post hp => ⟨_, hX post hp⟩, fun post hp => ⟨_, hY post hp⟩⟩
theorem sf_n2 {j : Nat} (hj : j < 12) : ¬ nI j = -2 := by
  intro e
  have h := nI_pos (n := j) (by omega)
  rw [e] at h
  exact h (by decide)
theorem sf_ver (hc : c ≤ 12) (hW : sf_okW W) (hA : sf_agr A B) (k : Int32) : ∃ r : Int32, (∀ post : Int32 → Prop, post r → wpX_verdict post (nI c, d, F, L, A, sf_cm W, sf_sr W, M, V, G) k) ∧ (∀ post : Int32 → Prop, post r → wpY_verdict post (nI c, d, F, L, B, W, M, V, G) k) := by
  obtain ⟨r, hr, hX, hY⟩ := sf_fst (d := d) (F := F) (L := L) (A := A) (B := B) (M := M) (V := V) (G := G) hc hW k
  unfold wpX_verdict wpY_verdict
  dsimp only
  rcases hr with e | ⟨j, hj, e⟩
  · subst e
    exact ⟨d, fun post hp => hX _ (br_t rfl hp), fun post hp => hY _ (br_f (by decide) hp)⟩
  · subst e
    have hv : vp_in (nI j) 14 := vp_in_nI (by omega) (by decide)
    have e : B (nI j).toNatClampNeg = A (nI j).toNatClampNeg := by
      rw [nI_clamp (by omega)]
      exact hA j (by omega)
    refine ⟨A (nI j).toNatClampNeg, fun post hp => hX _ (br_f (sf_n2 hj) ⟨hv, hp⟩), fun post hp => hY _ (br_t (nI_pos' (by omega)) ⟨hv, ?_⟩)⟩
    rw [e]
    exact hp
theorem sf_cw (hc : c ≤ 12) (hW : sf_okW W) (hA : sf_agr A B) (a : Int32) (l : Nat) (hl : l < 32) : ∀ n j : Nat, j + n = l + 1 → ∀ x : Int32, ∃ r : Int32, (∀ post : Int32 → Prop, post r → wX_countWith_40 post a (nI l) (nI c) d F L A (sf_cm W) (sf_sr W) M V G (n + 1) x (nI j)) ∧ (∀ post : Int32 → Prop, post r → wY_countWith_43 post a (nI l) (nI c) d F L B W M V G (n + 1) x (nI j)) := by
  intro n
  induction n with
  | zero =>
    intro j hj x
    have h : nI l < nI j := nI_lt (by omega) (by omega)
    exact ⟨x, fun post hp => br_t h hp, fun post hp => br_t h hp⟩
  | succ n ih =>
    intro j hj x
    have h : ¬ nI l < nI j := nI_nlt (by omega) (by omega)
    obtain ⟨r1, hX1, hY1⟩ := sf_ver (d := d) (F := F) (L := L) (M := M) (V := V) (G := G) hc hW hA (nI j)
    by_cases z : r1 = a
    · obtain ⟨r, hX, hY⟩ := ih (j + 1) (by omega) (x + 1)
      exact ⟨r, fun post hp => br_f h (hX1 _ (br_t z (nm_e (nm_r (nI_1 j) (hX post hp))))), fun post hp => br_f h (hY1 _ (br_t z (nm_e (nm_r (nI_1 j) (hY post hp)))))⟩
    · obtain ⟨r, hX, hY⟩ := ih (j + 1) (by omega) x
      exact ⟨r, fun post hp => br_f h (hX1 _ (br_f z (nm_r (nI_1 j) (hX post hp)))), fun post hp => br_f h (hY1 _ (br_f z (nm_r (nI_1 j) (hY post hp))))⟩
theorem sf_nw (hc : c ≤ 12) (hW : sf_okW W) (hA : sf_agr A B) (a : Int32) : ∀ n j : Nat, j + n = 32 → ∃ r : Int32, (∀ post : Int32 → Prop, post r → wX_nextWith_21 post a (nI c) d F L A (sf_cm W) (sf_sr W) M V G (n + 1) (nI j)) ∧ (∀ post : Int32 → Prop, post r → wY_nextWith_23 post a (nI c) d F L B W M V G (n + 1) (nI j)) := by
  intro n
  induction n with
  | zero =>
    intro j hj
    have h : (32 : Int32) ≤ nI j := nI_le (a := 32) (by omega) (by omega)
    exact ⟨-3, fun post hp => br_t h hp, fun post hp => br_t h hp⟩
  | succ n ih =>
    intro j hj
    have h : ¬ (32 : Int32) ≤ nI j := nI_ge (b := 32) (by omega) (by decide)
    obtain ⟨r1, hX1, hY1⟩ := sf_ver (d := d) (F := F) (L := L) (M := M) (V := V) (G := G) hc hW hA (nI j)
    by_cases z : r1 = a
    · exact ⟨nI j, fun post hp => br_f h (hX1 _ (br_t z hp)), fun post hp => br_f h (hY1 _ (br_t z hp))⟩
    · obtain ⟨r, hX, hY⟩ := ih (j + 1) (by omega)
      exact ⟨r, fun post hp => br_f h (hX1 _ (br_f z (nm_r (nI_1 j) (hX post hp)))), fun post hp => br_f h (hY1 _ (br_f z (nm_r (nI_1 j) (hY post hp))))⟩
theorem sf_mg (hc : c ≤ 12) (hW : sf_okW W) (k : Int32) : ∀ n i : Nat, i + n = c → ∀ x : Int32, ∃ r : Int32, (∀ post : Int32 → Prop, post r → wX_matching_13 post k (nI c) d F L A (sf_cm W) (sf_sr W) M V G (n + 1) x (nI i)) ∧ (∀ post : Int32 → Prop, post r → wY_matching_14 post k (nI c) d F L B W M V G (n + 1) x (nI i)) := by
  intro n
  induction n with
  | zero =>
    intro i hi x
    have h : nI c ≤ nI i := nI_le (by omega) (by omega)
    exact ⟨x, fun post hp => br_t h hp, fun post hp => br_t h hp⟩
  | succ n ih =>
    intro i hi x
    have h : ¬ nI c ≤ nI i := nI_ge (by omega) (by omega)
    have h12 : ¬ (12 : Int32) ≤ nI i := nI_ge (b := 12) (by omega) (by decide)
    obtain ⟨r1, hX1, hY1⟩ := sf_mat (c := c) (d := d) (F := F) (L := L) (A := A) (B := B) (W := W) (M := M) (V := V) (G := G) hW i (by omega) k
    by_cases z : r1 = 0
    · obtain ⟨r, hX, hY⟩ := ih (i + 1) (by omega) x
      exact ⟨r, fun post hp => br_f h (hX1 _ (br_t z (nm_r (nI_1 i) (hX post hp)))), fun post hp => br_f h (br_f h12 (hY1 _ (br_t z (nm_r (nI_1 i) (hY post hp)))))⟩
    · obtain ⟨r, hX, hY⟩ := ih (i + 1) (by omega) (x + 1)
      exact ⟨r, fun post hp => br_f h (hX1 _ (br_f z (nm_e (nm_r (nI_1 i) (hX post hp))))), fun post hp => br_f h (br_f h12 (hY1 _ (br_f z (nm_e (nm_r (nI_1 i) (hY post hp))))))⟩
end
end
section
section
variable {c : Nat} {d : Int32} {F L A B W M V G : Nat → Int32}
theorem sf_unc (i : Nat) (hi : i < 14) : (¬ sf_cm W (2 * i) = 0 → ∀ post : Int32 → Prop, post 0 → wpX_isUnconditional post (nI c, d, F, L, A, sf_cm W, sf_sr W, M, V, G) (nI i)) ∧ (sf_cm W (2 * i) = 0 → ¬ sf_cm W (2 * i + 1) = 0 → ∀ post : Int32 → Prop, post 0 → wpX_isUnconditional post (nI c, d, F, L, A, sf_cm W, sf_sr W, M, V, G) (nI i)) ∧ (sf_cm W (2 * i) = 0 → sf_cm W (2 * i + 1) = 0 → ∀ post : Int32 → Prop, post 1 → wpX_isUnconditional post (nI c, d, F, L, A, sf_cm W, sf_sr W, M, V, G) (nI i)) := by
  have v0 : vp_in (nI i * 2 + 0) 28 := sf_in (sf_ix i 0) (by omega) (by decide)
  have v1 : vp_in (nI i * 2 + 1) 28 := sf_in (sf_ix i 1) (by omega) (by decide)
  have e0 : (nI i * 2 + 0).toNatClampNeg = 2 * i := (congrArg Int32.toNatClampNeg (sf_ix i 0)).trans (nI_clamp (by omega))
  have e1 : (nI i * 2 + 1).toNatClampNeg = 2 * i + 1 := (congrArg Int32.toNatClampNeg (sf_ix i 1)).trans (nI_clamp (by omega))
  rw [← e1, ← e0]
  exact ⟨fun z post hp => ⟨0 + 1, br_f (by decide) ⟨v0, br_f z hp⟩⟩,
    fun z z2 post hp => ⟨1 + 1, br_f (by decide) ⟨v0, br_t z (nm_r (e' := 1) (by decide) (br_f (by decide) ⟨v1, br_f z2 hp⟩))⟩⟩,
    fun z z2 post hp => ⟨2 + 1, br_f (by decide) ⟨v0, br_t z (nm_r (e' := 1) (by decide) (br_f (by decide) ⟨v1, br_t z2 (nm_r (e' := 2) (by decide) (br_t (by decide) hp))⟩))⟩⟩⟩
theorem sf_sh (p : Nat) (hp12 : p ≤ 12) (k : Int32) : ∀ n i : Nat, i + n = p → ∃ r : Int32, (∀ post : Int32 → Prop, post r → wX_alwaysMatchedBefore_2 post (nI p) k (nI c) d F L A (sf_cm W) (sf_sr W) M V G (n + 1) (nI i)) ∧ (∀ post : Int32 → Prop, post r → wY_shadowed_2 post (nI p) k (nI c) d F L B W M V G (n + 1) (nI i)) := by
  intro n
  induction n with
  | zero =>
    intro i hi
    have h : nI p ≤ nI i := nI_le (by omega) (by omega)
    exact ⟨0, fun post hp => br_t h hp, fun post hp => br_t h hp⟩
  | succ n ih =>
    intro i hi
    have h : ¬ nI p ≤ nI i := nI_ge (by omega) (by omega)
    have h12 : ¬ (12 : Int32) ≤ nI i := nI_ge (b := 12) (by omega) (by decide)
    have v0 : vp_in (2 * nI i) 28 := sf_in (sf_iy0 i) (by omega) (by decide)
    have v1 : vp_in (2 * nI i + 1) 28 := sf_in (sf_iy i 1) (by omega) (by decide)
    have e0 : (2 * nI i).toNatClampNeg = 2 * i := (congrArg Int32.toNatClampNeg (sf_iy0 i)).trans (nI_clamp (by omega))
    have e1 : (2 * nI i + 1).toNatClampNeg = 2 * i + 1 := (congrArg Int32.toNatClampNeg (sf_iy i 1)).trans (nI_clamp (by omega))
    obtain ⟨r1, hX1, hY1⟩ := sf_has (c := c) (d := d) (F := F) (L := L) (A := A) (B := B) (W := W) (M := M) (V := V) (G := G) i (by omega) k
    obtain ⟨r, hX, hY⟩ := ih (i + 1) (by omega)
    obtain ⟨u1, u2, u3⟩ := sf_unc (c := c) (d := d) (F := F) (L := L) (A := A) (W := W) (M := M) (V := V) (G := G) i (by omega)
    rw [← e1] at u2 u3
    rw [← e0] at u1 u2 u3
    by_cases z : r1 = 0
    · exact ⟨r, fun post hp => br_f h (hX1 _ (br_t z (nm_r (nI_1 i) (hX post hp)))), fun post hp => br_f h (br_f h12 (hY1 _ (br_t z (nm_r (nI_1 i) (hY post hp)))))⟩
    · by_cases z1 : sf_cm W (2 * nI i).toNatClampNeg = 0
      · by_cases z2 : sf_cm W (2 * nI i + 1).toNatClampNeg = 0
        · exact ⟨1, fun post hp => br_f h (hX1 _ (br_f z (u3 z1 z2 _ (br_f (by decide) hp)))), fun post hp => br_f h (br_f h12 (hY1 _ (br_f z ⟨v0, sf_8, br_t z1 ⟨v1, sf_8, br_t z2 hp⟩⟩)))⟩
        · exact ⟨r, fun post hp => br_f h (hX1 _ (br_f z (u2 z1 z2 _ (br_t rfl (nm_r (nI_1 i) (hX post hp)))))), fun post hp => br_f h (br_f h12 (hY1 _ (br_f z ⟨v0, sf_8, br_t z1 ⟨v1, sf_8, br_f z2 (nm_r (nI_1 i) (hY post hp))⟩⟩)))⟩
      · exact ⟨r, fun post hp => br_f h (hX1 _ (br_f z (u1 z1 _ (br_t rfl (nm_r (nI_1 i) (hX post hp)))))), fun post hp => br_f h (br_f h12 (hY1 _ (br_f z ⟨v0, sf_8, br_f z1 (nm_r (nI_1 i) (hY post hp))⟩)))⟩
theorem sf_shd (p : Nat) (hp12 : p ≤ 12) (k : Int32) : ∃ r : Int32, (∀ post : Int32 → Prop, post r → wpX_alwaysMatchedBefore post (nI c, d, F, L, A, sf_cm W, sf_sr W, M, V, G) (nI p) k) ∧ (∀ post : Int32 → Prop, post r → wpY_shadowed post (nI c, d, F, L, B, W, M, V, G) (nI p) k) := by
  obtain ⟨r, hX, hY⟩ := sf_sh (c := c) (d := d) (F := F) (L := L) (A := A) (B := B) (W := W) (M := M) (V := V) (G := G) p hp12 k p 0 (by omega)
  rw [nI_0] at hX hY
  exact ⟨r, fun post hp => ⟨_, hX post hp⟩, fun post hp => ⟨_, hY post hp⟩⟩
theorem sf_hid (hL : sf_okN L) (p : Nat) (hp12 : p < 12) : ∀ n j : Nat, 32 = j + n → ∃ r : Int32, (∀ post : Int32 → Prop, post r → wX_hidden_17 post (nI p) (nI c) d F L A (sf_cm W) (sf_sr W) M V G (n + 1) (nI j)) ∧ (∀ post : Int32 → Prop, post r → wY_hidden_17 post (nI p) (nI c) d F L B W M V G (n + 1) (nI j)) := by
  obtain ⟨l, hl, el⟩ := hL p
  have hv : vp_in (nI p) 14 := vp_in_nI (by omega) (by decide)
  have eL : L (nI p).toNatClampNeg = nI l := by rw [nI_clamp (by omega)]; exact el
  intro n
  induction n with
  | zero =>
    intro j hj
    have h : L (nI p).toNatClampNeg < nI j := by rw [eL]; exact nI_lt (by omega) (by omega)
    exact ⟨1, fun post hp => ⟨hv, br_t h hp⟩, fun post hp => ⟨hv, br_t h hp⟩⟩
  | succ n ih =>
    intro j hj
    by_cases h : L (nI p).toNatClampNeg < nI j
    · exact ⟨1, fun post hp => ⟨hv, br_t h hp⟩, fun post hp => ⟨hv, br_t h hp⟩⟩
    · have h32 : ¬ (32 : Int32) ≤ nI j := nI_ge (b := 32) (by omega) (by decide)
      obtain ⟨r1, hX1, hY1⟩ := sf_shd (c := c) (d := d) (F := F) (L := L) (A := A) (B := B) (W := W) (M := M) (V := V) (G := G) p (by omega) (nI j)
      by_cases z : r1 = 0
      · exact ⟨0, fun post hp => ⟨hv, br_f h (hX1 _ (br_t z hp))⟩, fun post hp => ⟨hv, br_f h (br_f h32 (hY1 _ (br_t z hp)))⟩⟩
      · obtain ⟨r, hX, hY⟩ := ih (j + 1) (by omega)
        exact ⟨r, fun post hp => ⟨hv, br_f h (hX1 _ (br_f z (nm_r (nI_1 j) (hX post hp))))⟩, fun post hp => ⟨hv, br_f h (br_f h32 (hY1 _ (br_f z (nm_r (nI_1 j) (hY post hp)))))⟩⟩
theorem sf_st0 (hc : c ≤ 12) (x : Int32) : ∀ n i : Nat, i + n = c → ∀ (post : Int32 → Prop) (J : Int32 → Int32 → Prop) (x1 : Int32), wY_stretches_58 post J x1 x 0 (nI c) d F L B W M V G → wY_stretches_15 post J x1 x (nI c) d F L B W M V G (n + 1) 0 (nI i) := by
  intro n
  induction n with
  | zero =>
    intro i hi post J x1 hp
    exact br_t (nI_le (by omega) (by omega)) hp
  | succ n ih =>
    intro i hi post J x1 hp
    obtain ⟨r1, hX1, hY1⟩ := sf_has (c := c) (d := d) (F := F) (L := L) (A := F) (B := B) (W := W) (M := M) (V := V) (G := G) i (by omega) x
    obtain ⟨r2, hX2, hY2⟩ := sf_has (c := c) (d := d) (F := F) (L := L) (A := F) (B := B) (W := W) (M := M) (V := V) (G := G) i (by omega) (x - 1)
    have hn := ih (i + 1) (by omega) post J x1 hp
    exact br_f (nI_ge (by omega) (by omega)) (br_f (nI_ge (b := 12) (by omega) (by decide)) (hY1 _ (hY2 _ (br_c (fun _ => nm_r (nI_1 i) hn) (fun _ => nm_r (nI_1 i) hn)))))
theorem sf_sm (hc : c ≤ 12) (x : Int32) : ∀ n i : Nat, i + n = c → ∃ r : Int32, (∀ post : Int32 → Prop, post r → wX_sameRulesAsBelow_2 post x (nI c) d F L A (sf_cm W) (sf_sr W) M V G (n + 1) (nI i)) ∧ (∀ (post : Int32 → Prop) (J : Int32 → Int32 → Prop) (x1 : Int32), wY_stretches_58 post J x1 x r (nI c) d F L B W M V G → wY_stretches_15 post J x1 x (nI c) d F L B W M V G (n + 1) 1 (nI i)) := by
  intro n
  induction n with
  | zero =>
    intro i hi
    have h : nI c ≤ nI i := nI_le (by omega) (by omega)
    exact ⟨1, fun post hp => br_t h hp, fun post J x1 hp => br_t h hp⟩
  | succ n ih =>
    intro i hi
    have h : ¬ nI c ≤ nI i := nI_ge (by omega) (by omega)
    have h12 : ¬ (12 : Int32) ≤ nI i := nI_ge (b := 12) (by omega) (by decide)
    obtain ⟨r1, hX1, hY1⟩ := sf_has (c := c) (d := d) (F := F) (L := L) (A := A) (B := B) (W := W) (M := M) (V := V) (G := G) i (by omega) x
    obtain ⟨r2, hX2, hY2⟩ := sf_has (c := c) (d := d) (F := F) (L := L) (A := A) (B := B) (W := W) (M := M) (V := V) (G := G) i (by omega) (x - 1)
    by_cases z : r1 = r2
    · obtain ⟨r, hX, hY⟩ := ih (i + 1) (by omega)
      exact ⟨r, fun post hp => br_f h (hX1 _ (hX2 _ (br_t z (nm_r (nI_1 i) (hX post hp))))), fun post J x1 hp => br_f h (br_f h12 (hY1 _ (hY2 _ (br_t z (nm_r (nI_1 i) (hY post J x1 hp))))))⟩
    · exact ⟨0, fun post hp => br_f h (hX1 _ (hX2 _ (br_f z hp))), fun post J x1 hp => br_f h (br_f h12 (hY1 _ (hY2 _ (br_f z (nm_r (nI_1 i) (sf_st0 hc x n (i + 1) (by omega) post J x1 hp))))))⟩
theorem sf_str (hc : c ≤ 12) : ∀ n j : Nat, j + n = 32 → ∀ x1 : Int32, ∃ r : Int32, (∀ post : Int32 → Prop, post r → wX_stretches_4 post (nI c) d F L A (sf_cm W) (sf_sr W) M V G (n + 1) x1 (nI j)) ∧ (∀ post : Int32 → Prop, post r → wY_stretches_4 post (nI c) d F L B W M V G (n + 1) x1 (nI j)) := by
  intro n
  induction n with
  | zero =>
    intro j hj x1
    have h : (32 : Int32) ≤ nI j := nI_le (a := 32) (by omega) (by omega)
    exact ⟨x1, fun post hp => br_t h hp, fun post hp => br_t h hp⟩
  | succ n ih =>
    intro j hj x1
    have h : ¬ (32 : Int32) ≤ nI j := nI_ge (b := 32) (by omega) (by decide)
    obtain ⟨r1, hX1, hY1⟩ := sf_sm (d := d) (F := F) (L := L) (A := A) (B := B) (W := W) (M := M) (V := V) (G := G) hc (nI j) c 0 (by omega)
    rw [nI_0] at hX1 hY1
    by_cases z : r1 = 0
    · obtain ⟨r, hX, hY⟩ := ih (j + 1) (by omega) (x1 + 1)
      exact ⟨r, fun post hp => br_f h ⟨_, hX1 _ (br_t z (nm_e (nm_r (nI_1 j) (hX post hp))))⟩, fun post hp => br_f h ⟨_, hY1 _ _ _ (br_t z (nm_e (nm_r (nI_1 j) (hY post hp))))⟩⟩
    · obtain ⟨r, hX, hY⟩ := ih (j + 1) (by omega) x1
      exact ⟨r, fun post hp => br_f h ⟨_, hX1 _ (br_f z (nm_r (nI_1 j) (hX post hp)))⟩, fun post hp => br_f h ⟨_, hY1 _ _ _ (br_f z (nm_r (nI_1 j) (hY post hp)))⟩⟩
theorem sf_op1 (hc : c ≤ 12) (x : Int32) : ∀ n i : Nat, i + n = c → ∀ (post : Int32 → Prop) (J : Int32 → Int32 → Prop) (x1 : Int32), wY_open_49 post J x1 x 1 (nI c) d F L B W M V G → wY_open_15 post J x1 x (nI c) d F L B W M V G (n + 1) 1 (nI i) := by
  intro n
  induction n with
  | zero =>
    intro i hi post J x1 hp
    exact br_t (nI_le (by omega) (by omega)) hp
  | succ n ih =>
    intro i hi post J x1 hp
    obtain ⟨r1, hX1, hY1⟩ := sf_has (c := c) (d := d) (F := F) (L := L) (A := F) (B := B) (W := W) (M := M) (V := V) (G := G) i (by omega) x
    have hn := ih (i + 1) (by omega) post J x1 hp
    exact br_f (nI_ge (by omega) (by omega)) (br_f (nI_ge (b := 12) (by omega) (by decide)) (hY1 _ (br_c (fun _ => nm_r (nI_1 i) hn) (fun _ => nm_r (nI_1 i) hn))))
theorem sf_an (hc : c ≤ 12) (x : Int32) : ∀ n i : Nat, i + n = c → ∃ r : Int32, (∀ post : Int32 → Prop, post r → wX_inAnyRange_2 post x (nI c) d F L A (sf_cm W) (sf_sr W) M V G (n + 1) (nI i)) ∧ (∀ (post : Int32 → Prop) (J : Int32 → Int32 → Prop) (x1 : Int32), wY_open_49 post J x1 x r (nI c) d F L B W M V G → wY_open_15 post J x1 x (nI c) d F L B W M V G (n + 1) 0 (nI i)) := by
  intro n
  induction n with
  | zero =>
    intro i hi
    have h : nI c ≤ nI i := nI_le (by omega) (by omega)
    exact ⟨0, fun post hp => br_t h hp, fun post J x1 hp => br_t h hp⟩
  | succ n ih =>
    intro i hi
    have h : ¬ nI c ≤ nI i := nI_ge (by omega) (by omega)
    have h12 : ¬ (12 : Int32) ≤ nI i := nI_ge (b := 12) (by omega) (by decide)
    obtain ⟨r1, hX1, hY1⟩ := sf_has (c := c) (d := d) (F := F) (L := L) (A := A) (B := B) (W := W) (M := M) (V := V) (G := G) i (by omega) x
    by_cases z : r1 = 0
    · obtain ⟨r, hX, hY⟩ := ih (i + 1) (by omega)
      exact ⟨r, fun post hp => br_f h (hX1 _ (br_t z (nm_r (nI_1 i) (hX post hp)))), fun post J x1 hp => br_f h (br_f h12 (hY1 _ (br_t z (nm_r (nI_1 i) (hY post J x1 hp)))))⟩
    · exact ⟨1, fun post hp => br_f h (hX1 _ (br_f z hp)), fun post J x1 hp => br_f h (br_f h12 (hY1 _ (br_f z (nm_r (nI_1 i) (sf_op1 hc x n (i + 1) (by omega) post J x1 hp)))))⟩
theorem sf_opn (hc : c ≤ 12) : ∀ n j : Nat, j + n = 32 → ∀ x1 : Int32, ∃ r : Int32, (∀ post : Int32 → Prop, post r → wX_open_4 post (nI c) d F L A (sf_cm W) (sf_sr W) M V G (n + 1) x1 (nI j)) ∧ (∀ post : Int32 → Prop, post r → wY_open_4 post (nI c) d F L B W M V G (n + 1) x1 (nI j)) := by
  intro n
  induction n with
  | zero =>
    intro j hj x1
    have h : (32 : Int32) ≤ nI j := nI_le (a := 32) (by omega) (by omega)
    exact ⟨x1, fun post hp => br_t h hp, fun post hp => br_t h hp⟩
  | succ n ih =>
    intro j hj x1
    have h : ¬ (32 : Int32) ≤ nI j := nI_ge (b := 32) (by omega) (by decide)
    obtain ⟨r1, hX1, hY1⟩ := sf_an (d := d) (F := F) (L := L) (A := A) (B := B) (W := W) (M := M) (V := V) (G := G) hc (nI j) c 0 (by omega)
    rw [nI_0] at hX1 hY1
    by_cases z : r1 = 0
    · obtain ⟨r, hX, hY⟩ := ih (j + 1) (by omega) (x1 + 1)
      exact ⟨r, fun post hp => br_f h ⟨_, hX1 _ (br_t z (nm_e (nm_r (nI_1 j) (hX post hp))))⟩, fun post hp => br_f h ⟨_, hY1 _ _ _ (br_t z (nm_e (nm_r (nI_1 j) (hY post hp))))⟩⟩
    · obtain ⟨r, hX, hY⟩ := ih (j + 1) (by omega) x1
      exact ⟨r, fun post hp => br_f h ⟨_, hX1 _ (br_f z (nm_r (nI_1 j) (hX post hp)))⟩, fun post hp => br_f h ⟨_, hY1 _ _ _ (br_f z (nm_r (nI_1 j) (hY post hp)))⟩⟩
end
end
section
theorem sf_num (x : Int32) : ((∀ post : Int32 → Prop, post 0 → wpX_isNumber post x) ∧ (∀ (v : SY) (post : Int32 → Prop), post 1 → wpY_badNumber post v x)) ∨ (∃ j : Nat, j < 32 ∧ x = nI j ∧ (∀ post : Int32 → Prop, post 1 → wpX_isNumber post x) ∧ (∀ (v : SY) (post : Int32 → Prop), post 0 → wpY_badNumber post v x)) := by
  by_cases h0 : x < 0
  · exact Or.inl ⟨fun post hp => br_t h0 hp, fun v post hp => br_t h0 hp⟩
  · obtain ⟨j, hj, rfl⟩ := nI_of h0
    by_cases h : j < 32
    · exact Or.inr ⟨j, h, rfl, fun post hp => br_f h0 (br_f (nI_ge (b := 32) h (by decide)) hp), fun v post hp => br_f h0 (br_t (nI_le (b := 31) (by omega) (by decide)) hp)⟩
    · exact Or.inl ⟨fun post hp => br_f h0 (br_t (nI_le (a := 32) (by omega) hj) hp), fun v post hp => br_f h0 (br_f (nI_ge (a := 31) (by omega) hj) hp)⟩
theorem sf_act (x : Int32) : ((∀ post : Int32 → Prop, post 0 → wpX_isAction post x) ∧ (∀ (v : SY) (post : Int32 → Prop), post 1 → wpY_badAction post v x)) ∨ (∃ j : Nat, j < 4 ∧ x = nI j ∧ (∀ post : Int32 → Prop, post 1 → wpX_isAction post x) ∧ (∀ (v : SY) (post : Int32 → Prop), post 0 → wpY_badAction post v x)) := by
  by_cases h0 : x < 0
  · exact Or.inl ⟨fun post hp => br_t h0 hp, fun v post hp => br_t h0 hp⟩
  · obtain ⟨j, hj, rfl⟩ := nI_of h0
    by_cases h : j < 4
    · exact Or.inr ⟨j, h, rfl, fun post hp => br_f h0 (br_f (nI_ge (b := 4) h (by decide)) hp), fun v post hp => br_f h0 (br_t (nI_le (b := 3) (by omega) (by decide)) hp)⟩
    · exact Or.inl ⟨fun post hp => br_f h0 (br_t (nI_le (a := 4) (by omega) hj) hp), fun v post hp => br_f h0 (br_f (nI_ge (a := 3) (by omega) hj) hp)⟩
section
variable {c : Nat} {d : Int32} {F L A B W M V G : Nat → Int32}
theorem sf_rul (hc : c ≤ 12) (x : Int32) : ((∀ post : Int32 → Prop, post 0 → wpX_isRule post (nI c, d, F, L, A, sf_cm W, sf_sr W, M, V, G) x) ∧ (∀ post : Int32 → Prop, post 1 → wpY_badRule post (nI c, d, F, L, B, W, M, V, G) x)) ∨ (∃ j : Nat, j < c ∧ x = nI j ∧ (∀ post : Int32 → Prop, post 1 → wpX_isRule post (nI c, d, F, L, A, sf_cm W, sf_sr W, M, V, G) x) ∧ (∀ post : Int32 → Prop, post 0 → wpY_badRule post (nI c, d, F, L, B, W, M, V, G) x)) := by
  by_cases h0 : x < 0
  · exact Or.inl ⟨fun post hp => br_t h0 hp, fun post hp => br_t h0 hp⟩
  · obtain ⟨j, hj, rfl⟩ := nI_of h0
    by_cases h : j < c
    · exact Or.inr ⟨j, h, rfl, fun post hp => br_f h0 (br_f (nI_ge h (by omega)) hp), fun post hp => br_f h0 (br_f (nI_ge h (by omega)) (br_t (nI_lt (b := 12) (by omega) (by decide)) hp))⟩
    · exact Or.inl ⟨fun post hp => br_f h0 (br_t (nI_le (by omega) hj) hp), fun post hp => br_f h0 (br_t (nI_le (by omega) hj) hp)⟩
/-- the two states: one list of rules, one draft, one default, the same arguments; the class keeps a condition's word in two halves, and the reference uses row 12 of its actions for a rule on its way in -/
def i_Rel (_ : Nat) (u : SX) (v : SY) : Prop := ∃ (c : Nat) (d : Int32) (F L A B W M V G : Nat → Int32), c ≤ 12 ∧ u = (nI c, d, F, L, A, sf_cm W, sf_sr W, M, V, G) ∧ v = (nI c, d, F, L, B, W, M, V, G) ∧ sf_okN F ∧ sf_okN L ∧ sf_okW W ∧ sf_agr A B
theorem sf_mk {k : Nat} (hc : c ≤ 12) (hF : sf_okN F) (hL : sf_okN L) (hW : sf_okW W) (hA : sf_agr A B) : i_Rel k (nI c, d, F, L, A, sf_cm W, sf_sr W, M, V, G) (nI c, d, F, L, B, W, M, V, G) := ⟨c, d, F, L, A, B, W, M, V, G, hc, rfl, rfl, hF, hL, hW, hA⟩
theorem sf_uN {i : Nat} {j : Nat} (hj : j < 32) (hF : sf_okN F) : sf_okN (upd F i (nI j)) := by
  intro q
  by_cases h : q = i
  · rw [h, pk_us]; exact ⟨j, hj, rfl⟩
  · rw [pk_un h]; exact hF q
theorem sf_uW {i : Nat} {w : Nat} (hw : w < 16) (h7 : w % 8 ≠ 7) (hW : sf_okW W) : sf_okW (upd W i (nI w)) := by
  intro q
  by_cases h : q = i
  · rw [h, pk_us]; exact ⟨w, hw, h7, rfl⟩
  · rw [pk_un h]; exact hW q
theorem sf_cU (i : Nat) (x : Int32) : upd (sf_cm W) i (x - x / 8 * 8) = sf_cm (upd W i x) := by
  funext q
  show upd (sf_cm W) i (x - x / 8 * 8) q = upd W i x q - upd W i x q / 8 * 8
  by_cases h : q = i
  · rw [h, pk_us, pk_us]
  · rw [pk_un h, pk_un h]; rfl
theorem sf_sU (i : Nat) (x : Int32) : upd (sf_sr W) i (x / 8) = sf_sr (upd W i x) := by
  funext q
  show upd (sf_sr W) i (x / 8) q = upd W i x q / 8
  by_cases h : q = i
  · rw [h, pk_us, pk_us]
  · rw [pk_un h, pk_un h]; rfl
end
theorem i_up {k : Nat} {u : SX} {v : SY} (h : i_Rel k u v) : i_Rel (k + 5) u v := h
theorem sf_0N : sf_okN (fun _ => 0) := fun _ => ⟨0, by decide, rfl⟩
theorem i_vc0 : wpX_init (fun u => wpY_init (fun v => i_Rel 0 u v)) := by
  have e1 : upd (fun _ => 0) 12 0 = fun _ => 0 := by
    funext q
    unfold upd
    by_cases h : q = 12
    · rw [if_pos h]
    · rw [if_neg h]
  have e2 : sf_cm (fun _ => 0) = fun _ => 0 := by
    funext q
    show (0 : Int32) - 0 / 8 * 8 = 0
    decide
  have e3 : sf_sr (fun _ => 0) = fun _ => 0 := by
    funext q
    show (0 : Int32) / 8 = 0
    decide
  refine nm_r e1 (nm_e (nm_e ?_))
  exact ⟨0, 0, fun _ => 0, upd (fun _ => 0) 12 31, fun _ => 0, fun _ => 0, fun _ => 0, fun _ => 0, fun _ => 0, fun _ => 0, by omega, by rw [e2, e3, nI_0], by rw [nI_0], sf_0N, sf_uN (j := 31) (by decide) sf_0N, fun _ => ⟨0, by decide, by decide, rfl⟩, fun _ _ => rfl⟩
theorem i_vc_range {k : Nat} {u : SX} {v : SY} (I : i_Rel k u v) (hk : k + 5 ≤ 2560) (v1 : Int32) (v2 : Int32) : wpX_range (fun r u' => wpY_range (fun r' v' => r' = r ∧ i_Rel (k + 5) u' v') v v1 v2) u v1 v2 := by
  obtain ⟨c, d, F, L, A, B, W, M, V, G, hc, rfl, rfl, hF, hL, hW, hA⟩ := I
  have R : i_Rel (k + 5) (nI c, d, F, L, A, sf_cm W, sf_sr W, M, V, G) (nI c, d, F, L, B, W, M, V, G) := sf_mk hc hF hL hW hA
  unfold wpX_range wpY_range
  dsimp only
  rcases sf_num v1 with ⟨x1, y1⟩ | ⟨j1, h1, rfl, x1, y1⟩
  · exact x1 _ (br_t rfl (y1 _ _ (br_f (by decide) ⟨rfl, R⟩)))
  · rcases sf_num v2 with ⟨x2, y2⟩ | ⟨j2, h2, rfl, x2, y2⟩
    · exact x1 _ (br_f (by decide) (x2 _ (br_t rfl (y1 _ _ (br_t rfl (y2 _ _ (br_f (by decide) ⟨rfl, R⟩)))))))
    · by_cases h : nI j1 ≤ nI j2
      · exact x1 _ (br_f (by decide) (x2 _ (br_f (by decide) (br_t h (nm_e (nm_e (y1 _ _ (br_t rfl (y2 _ _ (br_t rfl (br_t h (nm_e (nm_e ⟨rfl, sf_mk hc (sf_uN h1 hF) (sf_uN h2 hL) hW hA⟩)))))))))))))
      · exact x1 _ (br_f (by decide) (x2 _ (br_f (by decide) (br_f h (y1 _ _ (br_t rfl (y2 _ _ (br_t rfl (br_f h ⟨rfl, R⟩)))))))))
theorem sf_r7 : ∀ w : Nat, w < 16 → w % 8 = 7 → nI w - nI w / 8 * 8 = 7 := by decide +kernel
theorem i_vc_condition {k : Nat} {u : SX} {v : SY} (I : i_Rel k u v) (hk : k + 5 ≤ 2560) (v1 : Int32) (v2 : Int32) (v3 : Int32) (v4 : Int32) : wpX_condition (fun r u' => wpY_condition (fun r' v' => r' = r ∧ i_Rel (k + 5) u' v') v v1 v2 v3 v4) u v1 v2 v3 v4 := by
  obtain ⟨c, d, F, L, A, B, W, M, V, G, hc, rfl, rfl, hF, hL, hW, hA⟩ := I
  have R : i_Rel (k + 5) (nI c, d, F, L, A, sf_cm W, sf_sr W, M, V, G) (nI c, d, F, L, B, W, M, V, G) := sf_mk hc hF hL hW hA
  unfold wpX_condition wpY_condition wpX_isWhat
  dsimp only
  by_cases h0 : v1 < 0
  · exact br_t h0 (br_t h0 ⟨rfl, R⟩)
  · obtain ⟨s, hs, rfl⟩ := nI_of h0
    by_cases h2 : s < 2
    · have a2 : nI s < 2 := nI_lt (b := 2) h2 (by decide)
      have b2 : nI s ≤ 1 := nI_le (b := 1) (by omega) (by decide)
      by_cases g0 : v2 < 0
      · exact br_f h0 (br_t a2 (br_t g0 (br_t rfl (br_f h0 (br_t b2 (br_t g0 ⟨rfl, R⟩))))))
      · obtain ⟨w, hw, rfl⟩ := nI_of g0
        by_cases h16 : w < 16
        · have a16 : ¬ (16 : Int32) ≤ nI w := nI_ge (b := 16) h16 (by decide)
          have b16 : ¬ (15 : Int32) < nI w := nI_nlt (a := 15) (by omega) (by decide)
          by_cases h7 : nI w - nI w / 8 * 8 = 7
          · exact br_f h0 (br_t a2 (br_f g0 (br_f a16 ⟨sf_8, br_t h7 (br_t rfl (br_f h0 (br_t b2 (br_f g0 (br_f b16 ⟨sf_8, br_t h7 ⟨rfl, R⟩⟩)))))⟩)))
          · have e : (24 : Int32) + nI s = nI (24 + s) := nI_add 24 s
            have hv : vp_in (24 + nI s) 28 := sf_in e (by omega) (by decide)
            have q7 : w % 8 ≠ 7 := fun z => h7 (sf_r7 w h16 z)
            exact br_f h0 (br_t a2 (br_f g0 (br_f a16 ⟨sf_8, br_f h7 (br_f (by decide) (nm_e ⟨sf_8, hv, nm_r (sf_cU _ _) ⟨sf_8, hv, nm_r (sf_sU _ _) ⟨hv, nm_e ⟨hv, nm_e (br_f h0 (br_t b2 (br_f g0 (br_f b16 ⟨sf_8, br_f h7 ⟨hv, nm_e ⟨hv, nm_e ⟨hv, nm_e ⟨rfl, sf_mk hc hF hL (sf_uW h16 q7 hW) hA⟩⟩⟩⟩⟩))))⟩⟩⟩⟩))⟩)))
        · exact br_f h0 (br_t a2 (br_f g0 (br_t (nI_le (a := 16) (by omega) hw) (br_t rfl (br_f h0 (br_t b2 (br_f g0 (br_t (nI_lt (a := 15) (by omega) hw) ⟨rfl, R⟩))))))))
    · exact br_f h0 (br_f (nI_nlt (b := 2) (by omega) hs) (br_f h0 (br_f (nI_ge (a := 1) (by omega) hs) ⟨rfl, R⟩)))
theorem i_vc_fallback {k : Nat} {u : SX} {v : SY} (I : i_Rel k u v) (hk : k + 5 ≤ 2560) (v1 : Int32) : wpX_fallback (fun r u' => wpY_fallback (fun r' v' => r' = r ∧ i_Rel (k + 5) u' v') v v1) u v1 := by
  obtain ⟨c, d, F, L, A, B, W, M, V, G, hc, rfl, rfl, hF, hL, hW, hA⟩ := I
  have R : i_Rel (k + 5) (nI c, d, F, L, A, sf_cm W, sf_sr W, M, V, G) (nI c, d, F, L, B, W, M, V, G) := sf_mk hc hF hL hW hA
  unfold wpX_fallback wpY_fallback
  dsimp only
  rcases sf_act v1 with ⟨x1, y1⟩ | ⟨j1, h1, rfl, x1, y1⟩
  · exact x1 _ (br_t rfl (y1 _ _ (br_f (by decide) ⟨rfl, R⟩)))
  · exact x1 _ (br_f (by decide) (y1 _ _ (br_t rfl ⟨rfl, sf_mk hc hF hL hW hA⟩)))
theorem i_vc_rules {k : Nat} {u : SX} {v : SY} (I : i_Rel k u v) (hk : k + 5 ≤ 2560) : wpX_rules (fun r => wpY_rules (fun r' => r' = r ∧ i_Rel (k + 5) u v) v) u := by
  obtain ⟨c, d, F, L, A, B, W, M, V, G, hc, rfl, rfl, hF, hL, hW, hA⟩ := I
  exact ⟨rfl, sf_mk hc hF hL hW hA⟩
theorem i_vc_argument {k : Nat} {u : SX} {v : SY} (I : i_Rel k u v) (hk : k + 5 ≤ 2560) (v1 : Int32) (v2 : Int32) : wpX_argument (fun r u' => wpY_argument (fun r' v' => r' = r ∧ i_Rel (k + 5) u' v') v v1 v2) u v1 v2 := by
  obtain ⟨c, d, F, L, A, B, W, M, V, G, hc, rfl, rfl, hF, hL, hW, hA⟩ := I
  have R : i_Rel (k + 5) (nI c, d, F, L, A, sf_cm W, sf_sr W, M, V, G) (nI c, d, F, L, B, W, M, V, G) := sf_mk hc hF hL hW hA
  by_cases h0 : v1 < 0
  · exact br_t h0 (br_t h0 ⟨rfl, R⟩)
  · obtain ⟨s, hs, rfl⟩ := nI_of h0
    by_cases h2 : s < 2
    · have a2 : nI s < 2 := nI_lt (b := 2) h2 (by decide)
      have b2 : nI s ≤ 1 := nI_le (b := 1) (by omega) (by decide)
      have hv : vp_in (nI s) 2 := vp_in_nI h2 (by decide)
      exact br_f h0 (br_t a2 ⟨hv, nm_e (br_f h0 (br_t b2 ⟨hv, nm_e ⟨rfl, sf_mk hc hF hL hW hA⟩⟩))⟩)
    · exact br_f h0 (br_f (nI_nlt (b := 2) (by omega) hs) (br_f h0 (br_f (nI_ge (a := 1) (by omega) hs) ⟨rfl, R⟩)))
theorem i_vc_decide {k : Nat} {u : SX} {v : SY} (I : i_Rel k u v) (hk : k + 5 ≤ 2560) (v1 : Int32) : wpX_decide (fun r => wpY_decide (fun r' => r' = r ∧ i_Rel (k + 5) u v) v v1) u v1 := by
  obtain ⟨c, d, F, L, A, B, W, M, V, G, hc, rfl, rfl, hF, hL, hW, hA⟩ := I
  have R : i_Rel (k + 5) (nI c, d, F, L, A, sf_cm W, sf_sr W, M, V, G) (nI c, d, F, L, B, W, M, V, G) := sf_mk hc hF hL hW hA
  unfold wpX_decide wpY_decide
  dsimp only
  rcases sf_num v1 with ⟨x1, y1⟩ | ⟨j1, h1, rfl, x1, y1⟩
  · exact x1 _ (br_t rfl (y1 _ _ (br_f (by decide) ⟨rfl, R⟩)))
  · obtain ⟨r, hX, hY⟩ := sf_ver (d := d) (F := F) (L := L) (M := M) (V := V) (G := G) hc hW hA (nI j1)
    exact x1 _ (br_f (by decide) (hX _ (y1 _ _ (br_t rfl (hY _ ⟨rfl, R⟩)))))
theorem i_vc_matched {k : Nat} {u : SX} {v : SY} (I : i_Rel k u v) (hk : k + 5 ≤ 2560) (v1 : Int32) : wpX_matched (fun r => wpY_matched (fun r' => r' = r ∧ i_Rel (k + 5) u v) v v1) u v1 := by
  obtain ⟨c, d, F, L, A, B, W, M, V, G, hc, rfl, rfl, hF, hL, hW, hA⟩ := I
  have R : i_Rel (k + 5) (nI c, d, F, L, A, sf_cm W, sf_sr W, M, V, G) (nI c, d, F, L, B, W, M, V, G) := sf_mk hc hF hL hW hA
  unfold wpX_matched wpY_matched
  dsimp only
  rcases sf_num v1 with ⟨x1, y1⟩ | ⟨j1, h1, rfl, x1, y1⟩
  · exact x1 _ (br_t rfl (y1 _ _ (br_f (by decide) ⟨rfl, R⟩)))
  · obtain ⟨r, hr, hX, hY⟩ := sf_fst (d := d) (F := F) (L := L) (A := A) (B := B) (M := M) (V := V) (G := G) hc hW (nI j1)
    exact x1 _ (br_f (by decide) (hX _ (y1 _ _ (br_t rfl (hY _ ⟨rfl, R⟩)))))
theorem i_vc_countWith {k : Nat} {u : SX} {v : SY} (I : i_Rel k u v) (hk : k + 5 ≤ 2560) (v1 : Int32) (v2 : Int32) (v3 : Int32) : wpX_countWith (fun r => wpY_countWith (fun r' => r' = r ∧ i_Rel (k + 5) u v) v v1 v2 v3) u v1 v2 v3 := by
  obtain ⟨c, d, F, L, A, B, W, M, V, G, hc, rfl, rfl, hF, hL, hW, hA⟩ := I
  have R : i_Rel (k + 5) (nI c, d, F, L, A, sf_cm W, sf_sr W, M, V, G) (nI c, d, F, L, B, W, M, V, G) := sf_mk hc hF hL hW hA
  unfold wpX_countWith wpY_countWith
  dsimp only
  rcases sf_num v2 with ⟨x1, y1⟩ | ⟨j1, h1, rfl, x1, y1⟩
  · exact x1 _ (br_t rfl (y1 _ _ (br_f (by decide) ⟨rfl, R⟩)))
  · rcases sf_num v3 with ⟨x2, y2⟩ | ⟨j2, h2, rfl, x2, y2⟩
    · exact x1 _ (br_f (by decide) (x2 _ (br_t rfl (y1 _ _ (br_t rfl (y2 _ _ (br_f (by decide) ⟨rfl, R⟩)))))))
    · by_cases h : j1 ≤ j2
      · have h' : nI j1 ≤ nI j2 := nI_le h (by omega)
        rcases sf_act v1 with ⟨x3, y3⟩ | ⟨j3, h3, rfl, x3, y3⟩
        · exact x1 _ (br_f (by decide) (x2 _ (br_f (by decide) (br_t h' (x3 _ (br_t rfl (y1 _ _ (br_t rfl (y2 _ _ (br_t rfl (br_t h' (y3 _ _ (br_f (by decide) ⟨rfl, R⟩)))))))))))))
        · obtain ⟨r, hX, hY⟩ := sf_cw (d := d) (F := F) (L := L) (M := M) (V := V) (G := G) hc hW hA (nI j3) j2 h2 (j2 + 1 - j1) j1 (by omega) 0
          exact x1 _ (br_f (by decide) (x2 _ (br_f (by decide) (br_t h' (x3 _ (br_f (by decide) ⟨_, hX _ (y1 _ _ (br_t rfl (y2 _ _ (br_t rfl (br_t h' (y3 _ _ (br_t rfl ⟨_, hY _ ⟨rfl, R⟩⟩)))))))⟩))))))
      · have h' : ¬ nI j1 ≤ nI j2 := nI_ge (by omega) (by omega)
        exact x1 _ (br_f (by decide) (x2 _ (br_f (by decide) (br_f h' (y1 _ _ (br_t rfl (y2 _ _ (br_t rfl (br_f h' ⟨rfl, R⟩)))))))))
theorem i_vc_nextWith {k : Nat} {u : SX} {v : SY} (I : i_Rel k u v) (hk : k + 5 ≤ 2560) (v1 : Int32) (v2 : Int32) : wpX_nextWith (fun r => wpY_nextWith (fun r' => r' = r ∧ i_Rel (k + 5) u v) v v1 v2) u v1 v2 := by
  obtain ⟨c, d, F, L, A, B, W, M, V, G, hc, rfl, rfl, hF, hL, hW, hA⟩ := I
  have R : i_Rel (k + 5) (nI c, d, F, L, A, sf_cm W, sf_sr W, M, V, G) (nI c, d, F, L, B, W, M, V, G) := sf_mk hc hF hL hW hA
  unfold wpX_nextWith wpY_nextWith
  dsimp only
  rcases sf_act v1 with ⟨x1, y1⟩ | ⟨j1, h1, rfl, x1, y1⟩
  · exact x1 _ (br_t rfl (y1 _ _ (br_f (by decide) ⟨rfl, R⟩)))
  · rcases sf_num v2 with ⟨x2, y2⟩ | ⟨j2, h2, rfl, x2, y2⟩
    · exact x1 _ (br_f (by decide) (x2 _ (br_t rfl (y1 _ _ (br_t rfl (y2 _ _ (br_f (by decide) ⟨rfl, R⟩)))))))
    · obtain ⟨r, hX, hY⟩ := sf_nw (d := d) (F := F) (L := L) (M := M) (V := V) (G := G) hc hW hA (nI j1) (32 - j2) j2 (by omega)
      exact x1 _ (br_f (by decide) (x2 _ (br_f (by decide) ⟨_, hX _ (y1 _ _ (br_t rfl (y2 _ _ (br_t rfl ⟨_, hY _ ⟨rfl, R⟩⟩))))⟩)))
theorem i_vc_matching {k : Nat} {u : SX} {v : SY} (I : i_Rel k u v) (hk : k + 5 ≤ 2560) (v1 : Int32) : wpX_matching (fun r => wpY_matching (fun r' => r' = r ∧ i_Rel (k + 5) u v) v v1) u v1 := by
  obtain ⟨c, d, F, L, A, B, W, M, V, G, hc, rfl, rfl, hF, hL, hW, hA⟩ := I
  have R : i_Rel (k + 5) (nI c, d, F, L, A, sf_cm W, sf_sr W, M, V, G) (nI c, d, F, L, B, W, M, V, G) := sf_mk hc hF hL hW hA
  unfold wpX_matching wpY_matching
  dsimp only
  rcases sf_num v1 with ⟨x1, y1⟩ | ⟨j1, h1, rfl, x1, y1⟩
  · exact x1 _ (br_t rfl (y1 _ _ (br_f (by decide) ⟨rfl, R⟩)))
  · obtain ⟨r, hX, hY⟩ := sf_mg (d := d) (F := F) (L := L) (A := A) (B := B) (M := M) (V := V) (G := G) hc hW (nI j1) c 0 (by omega) 0
    rw [nI_0] at hX hY
    exact x1 _ (br_f (by decide) ⟨_, hX _ (y1 _ _ (br_t rfl ⟨_, hY _ ⟨rfl, R⟩⟩))⟩)
theorem i_vc_hidden {k : Nat} {u : SX} {v : SY} (I : i_Rel k u v) (hk : k + 5 ≤ 2560) (v1 : Int32) : wpX_hidden (fun r => wpY_hidden (fun r' => r' = r ∧ i_Rel (k + 5) u v) v v1) u v1 := by
  obtain ⟨c, d, F, L, A, B, W, M, V, G, hc, rfl, rfl, hF, hL, hW, hA⟩ := I
  have R : i_Rel (k + 5) (nI c, d, F, L, A, sf_cm W, sf_sr W, M, V, G) (nI c, d, F, L, B, W, M, V, G) := sf_mk hc hF hL hW hA
  unfold wpX_hidden wpY_hidden
  dsimp only
  rcases sf_rul (d := d) (F := F) (L := L) (A := A) (B := B) (W := W) (M := M) (V := V) (G := G) hc v1 with ⟨x1, y1⟩ | ⟨p, h1, rfl, x1, y1⟩
  · exact x1 _ (br_t rfl (y1 _ (br_f (by decide) ⟨rfl, R⟩)))
  · have hv : vp_in (nI p) 14 := vp_in_nI (by omega) (by decide)
    obtain ⟨f, hf, ef⟩ := hF p
    have eF : F (nI p).toNatClampNeg = nI f := by rw [nI_clamp (by omega)]; exact ef
    obtain ⟨r, hX, hY⟩ := sf_hid (c := c) (d := d) (F := F) (A := A) (B := B) (W := W) (M := M) (V := V) (G := G) hL p (by omega) (32 - f) f (by omega)
    exact x1 _ (br_f (by decide) ⟨hv, nm_r eF ⟨_, hX _ (y1 _ (br_t rfl ⟨hv, nm_r eF ⟨_, hY _ ⟨rfl, R⟩⟩⟩))⟩⟩)
theorem i_vc_stretches {k : Nat} {u : SX} {v : SY} (I : i_Rel k u v) (hk : k + 5 ≤ 2560) : wpX_stretches (fun r => wpY_stretches (fun r' => r' = r ∧ i_Rel (k + 5) u v) v) u := by
  obtain ⟨c, d, F, L, A, B, W, M, V, G, hc, rfl, rfl, hF, hL, hW, hA⟩ := I
  have R : i_Rel (k + 5) (nI c, d, F, L, A, sf_cm W, sf_sr W, M, V, G) (nI c, d, F, L, B, W, M, V, G) := sf_mk hc hF hL hW hA
  obtain ⟨r, hX, hY⟩ := sf_str (d := d) (F := F) (L := L) (A := A) (B := B) (W := W) (M := M) (V := V) (G := G) hc 31 1 (by omega) 1
  exact ⟨_, hX _ ⟨_, hY _ ⟨rfl, R⟩⟩⟩
theorem i_vc_open {k : Nat} {u : SX} {v : SY} (I : i_Rel k u v) (hk : k + 5 ≤ 2560) : wpX_open (fun r => wpY_open (fun r' => r' = r ∧ i_Rel (k + 5) u v) v) u := by
  obtain ⟨c, d, F, L, A, B, W, M, V, G, hc, rfl, rfl, hF, hL, hW, hA⟩ := I
  have R : i_Rel (k + 5) (nI c, d, F, L, A, sf_cm W, sf_sr W, M, V, G) (nI c, d, F, L, B, W, M, V, G) := sf_mk hc hF hL hW hA
  obtain ⟨r, hX, hY⟩ := sf_opn (d := d) (F := F) (L := L) (A := A) (B := B) (W := W) (M := M) (V := V) (G := G) hc 32 0 (by omega) 0
  exact ⟨_, hX _ ⟨_, hY _ ⟨rfl, R⟩⟩⟩
end
section
section
variable {c : Nat} {d : Int32} {F L A B W M V G : Nat → Int32}
/-- the same map of places on both sides keeps the relation, if row 12 alone goes to row 12 -/
theorem sf_map {k : Nat} (σ τ : Nat → Nat) (h12 : ∀ j, σ j = 12 ↔ j = 12) (hc : c ≤ 12) (hF : sf_okN F) (hL : sf_okN L) (hW : sf_okW W) (hA : sf_agr A B) : i_Rel k (nI c, d, fun j => F (σ j), fun j => L (σ j), fun j => A (σ j), fun j => sf_cm W (τ j), fun j => sf_sr W (τ j), fun j => M (τ j), fun j => V (τ j), G) (nI c, d, fun j => F (σ j), fun j => L (σ j), fun j => B (σ j), fun j => W (τ j), fun j => M (τ j), fun j => V (τ j), G) :=
  ⟨c, d, fun j => F (σ j), fun j => L (σ j), fun j => A (σ j), fun j => B (σ j), fun j => W (τ j), fun j => M (τ j), fun j => V (τ j), G, hc, rfl, rfl, fun j => hF (σ j), fun j => hL (σ j), fun j => hW (τ j), fun j hj => hA (σ j) (fun z => hj ((h12 j).mp z))⟩
end
theorem i_vc_change {k : Nat} {u : SX} {v : SY} (I : i_Rel k u v) (hk : k + 5 ≤ 2560) (v1 : Int32) (v2 : Int32) : wpX_change (fun r u' => wpY_change (fun r' v' => r' = r ∧ i_Rel (k + 5) u' v') v v1 v2) u v1 v2 := by
  obtain ⟨c, d, F, L, A, B, W, M, V, G, hc, rfl, rfl, hF, hL, hW, hA⟩ := I
  have R : i_Rel (k + 5) (nI c, d, F, L, A, sf_cm W, sf_sr W, M, V, G) (nI c, d, F, L, B, W, M, V, G) := sf_mk hc hF hL hW hA
  unfold wpX_change wpY_change
  dsimp only
  rcases sf_rul (d := d) (F := F) (L := L) (A := A) (B := B) (W := W) (M := M) (V := V) (G := G) hc v1 with ⟨x1, y1⟩ | ⟨p, h1, rfl, x1, y1⟩
  · exact x1 _ (br_t rfl (y1 _ (br_f (by decide) ⟨rfl, R⟩)))
  · rcases sf_act v2 with ⟨x2, y2⟩ | ⟨a, h2, rfl, x2, y2⟩
    · exact x1 _ (br_f (by decide) (x2 _ (br_t rfl (y1 _ (br_t rfl (y2 _ _ (br_f (by decide) ⟨rfl, R⟩)))))))
    · have hv : vp_in (nI p) 14 := vp_in_nI (by omega) (by decide)
      have e : B (nI p).toNatClampNeg = A (nI p).toNatClampNeg := by
        rw [nI_clamp (by omega)]
        exact hA p (by omega)
      refine x1 _ (br_f (by decide) (x2 _ (br_f (by decide) ⟨hv, nm_e ⟨hv, nm_e (y1 _ (br_t rfl (y2 _ _ (br_t rfl ⟨hv, nm_r e ⟨hv, nm_e ⟨rfl, sf_mk hc hF hL hW ?_⟩⟩⟩))))⟩⟩)))
      intro j hj
      by_cases z : j = (nI p).toNatClampNeg
      · rw [z, pk_us, pk_us]
      · rw [pk_un z, pk_un z]; exact hA j hj
theorem i_vc_remove {k : Nat} {u : SX} {v : SY} (I : i_Rel k u v) (hk : k + 5 ≤ 2560) (v1 : Int32) : wpX_remove (fun r u' => wpY_remove (fun r' v' => r' = r ∧ i_Rel (k + 5) u' v') v v1) u v1 := by
  obtain ⟨c, d, F, L, A, B, W, M, V, G, hc, rfl, rfl, hF, hL, hW, hA⟩ := I
  have R : i_Rel (k + 5) (nI c, d, F, L, A, sf_cm W, sf_sr W, M, V, G) (nI c, d, F, L, B, W, M, V, G) := sf_mk hc hF hL hW hA
  unfold wpX_remove wpY_remove
  dsimp only
  rcases sf_rul (d := d) (F := F) (L := L) (A := A) (B := B) (W := W) (M := M) (V := V) (G := G) hc v1 with ⟨x1, y1⟩ | ⟨p, h1, rfl, x1, y1⟩
  · exact x1 _ (br_t rfl (y1 _ (br_f (by decide) ⟨rfl, R⟩)))
  · obtain ⟨b, rfl⟩ : ∃ b, c = b + 1 := ⟨c - 1, by omega⟩
    have hv : vp_in (nI p) 14 := vp_in_nI (by omega) (by decide)
    have e : B (nI p).toNatClampNeg = A (nI p).toNatClampNeg := by
      rw [nI_clamp (by omega)]
      exact hA p (by omega)
    obtain ⟨σ, τ, h12, hX, hY⟩ := sf_dn b (by omega) (b - p) p (by omega)
    refine x1 _ (br_f (by decide) ⟨hv, nm_e (nm_r (nI_pred b) ⟨_, hX _ d F L A (sf_cm W) (sf_sr W) M V G ?_⟩)⟩)
    dsimp only
    refine y1 _ (br_t rfl ⟨hv, nm_r e ⟨_, hY _ d F L B W M V G ?_⟩⟩)
    exact ⟨rfl, sf_map σ τ h12 (by omega) hF hL hW hA⟩
theorem i_vc_put {k : Nat} {u : SX} {v : SY} (I : i_Rel k u v) (hk : k + 5 ≤ 2560) (v1 : Int32) (v2 : Int32) : wpX_put (fun r u' => wpY_put (fun r' v' => r' = r ∧ i_Rel (k + 5) u' v') v v1 v2) u v1 v2 := by
  obtain ⟨c, d, F, L, A, B, W, M, V, G, hc, rfl, rfl, hF, hL, hW, hA⟩ := I
  have R : i_Rel (k + 5) (nI c, d, F, L, A, sf_cm W, sf_sr W, M, V, G) (nI c, d, F, L, B, W, M, V, G) := sf_mk hc hF hL hW hA
  unfold wpX_put wpY_put
  dsimp only
  by_cases h0 : v1 < 0
  · exact br_t h0 (br_t h0 ⟨rfl, R⟩)
  · obtain ⟨p, hp, rfl⟩ := nI_of h0
    by_cases h : p ≤ c
    · have h' : nI p ≤ nI c := nI_le h (by omega)
      rcases sf_act v2 with ⟨x2, y2⟩ | ⟨a, h2, rfl, x2, y2⟩
      · exact br_f h0 (br_t h' (x2 _ (br_t rfl (br_f h0 (br_t h' (y2 _ _ (br_f (by decide) ⟨rfl, R⟩)))))))
      · by_cases h12 : c < 12
        · have g12 : nI c < 12 := nI_lt (b := 12) h12 (by decide)
          obtain ⟨q, rfl⟩ : ∃ q, c = p + q := ⟨c - p, by omega⟩
          obtain ⟨σ, τ, hs, hX, hY⟩ := sf_up p q (by omega)
          have hv : vp_in (nI p) 14 := vp_in_nI (by omega) (by decide)
          refine br_f h0 (br_t h' (x2 _ (br_f (by decide) (br_t g12 ⟨_, hX _ _ d F L A (sf_cm W) (sf_sr W) M V G ?_⟩))))
          refine sf_cpX 12 p (by decide) (by omega) rfl rfl ?_
          refine ⟨hv, nm_e ?_⟩
          refine br_f h0 (br_t h' (y2 _ _ (br_t rfl (br_t g12 (nm_e ⟨_, hY _ 12 _ d F L _ W M V G ?_⟩)))))
          refine sf_cpY 12 p (by decide) (by omega) rfl rfl ?_
          refine nm_e ⟨rfl, ?_⟩
          refine ⟨p + q + 1, d, fun j => F (σ (sf_s1 12 p j)), fun j => L (σ (sf_s1 12 p j)), _, _, fun j => W (τ (sf_s2 12 p j)), fun j => M (τ (sf_s2 12 p j)), fun j => V (τ (sf_s2 12 p j)), G, by omega, by rw [nI_1]; rfl, by rw [nI_1], fun j => hF _, fun j => hL _, fun j => hW _, ?_⟩
          intro j hj
          have e12 : σ 12 = 12 := (hs 12).mpr rfl
          rw [nI_clamp (by omega)]
          dsimp only
          by_cases z : j = p
          · rw [z, pk_us, show sf_s1 12 p p = 12 from if_pos rfl, e12, pk_us]
          · rw [pk_un z, show sf_s1 12 p j = j from if_neg z]
            have z2 : ¬ σ j = 12 := fun y => hj ((hs j).mp y)
            rw [pk_un z2]
            exact hA _ z2
        · have g12 : ¬ nI c < 12 := nI_nlt (b := 12) (by omega) (by omega)
          exact br_f h0 (br_t h' (x2 _ (br_f (by decide) (br_f g12 (br_f h0 (br_t h' (y2 _ _ (br_t rfl (br_f g12 ⟨rfl, R⟩)))))))))
    · have h' : ¬ nI p ≤ nI c := nI_ge (by omega) hp
      exact br_f h0 (br_f h' (br_f h0 (br_f h' ⟨rfl, R⟩)))
theorem i_vc_move {k : Nat} {u : SX} {v : SY} (I : i_Rel k u v) (hk : k + 5 ≤ 2560) (v1 : Int32) (v2 : Int32) : wpX_move (fun r u' => wpY_move (fun r' v' => r' = r ∧ i_Rel (k + 5) u' v') v v1 v2) u v1 v2 := by
  obtain ⟨c, d, F, L, A, B, W, M, V, G, hc, rfl, rfl, hF, hL, hW, hA⟩ := I
  have R : i_Rel (k + 5) (nI c, d, F, L, A, sf_cm W, sf_sr W, M, V, G) (nI c, d, F, L, B, W, M, V, G) := sf_mk hc hF hL hW hA
  unfold wpX_move wpY_move
  dsimp only
  rcases sf_rul (d := d) (F := F) (L := L) (A := A) (B := B) (W := W) (M := M) (V := V) (G := G) hc v1 with ⟨x1, y1⟩ | ⟨p, h1, rfl, x1, y1⟩
  · exact x1 _ (br_t rfl (y1 _ (br_f (by decide) ⟨rfl, R⟩)))
  · rcases sf_rul (d := d) (F := F) (L := L) (A := A) (B := B) (W := W) (M := M) (V := V) (G := G) hc v2 with ⟨x2, y2⟩ | ⟨t, h2, rfl, x2, y2⟩
    · exact x1 _ (br_f (by decide) (x2 _ (br_t rfl (y1 _ (br_t rfl (y2 _ (br_f (by decide) ⟨rfl, R⟩)))))))
    · obtain ⟨q, rfl⟩ : ∃ q, c = t + q + 1 := ⟨c - 1 - t, by omega⟩
      obtain ⟨σ, τ, hs, hX, hY⟩ := sf_dn (t + q) (by omega) (t + q - p) p (by omega)
      obtain ⟨σ', τ', hs', hX', hY'⟩ := sf_up t q (by omega)
      refine x1 _ (br_f (by decide) (x2 _ (br_f (by decide) ?_)))
      refine sf_cpX p 13 (by omega) (by decide) rfl rfl ?_
      refine nm_r (nI_pred (t + q)) ⟨_, hX _ d _ _ _ _ _ _ _ G ?_⟩
      refine ⟨_, hX' _ _ d _ _ _ _ _ _ _ G ?_⟩
      refine sf_cpX 13 t (by decide) (by omega) rfl rfl ?_
      refine y1 _ (br_t rfl (y2 _ (br_t rfl ?_)))
      refine sf_cpY p 13 (by omega) (by decide) rfl rfl ?_
      refine ⟨_, hY _ d _ _ _ _ _ _ G ?_⟩
      refine ⟨_, hY' _ 13 _ d _ _ _ _ _ _ G ?_⟩
      refine sf_cpY 13 t (by decide) (by omega) rfl rfl ?_
      refine nm_e ⟨rfl, ?_⟩
      rw [nI_1]
      refine sf_map (fun j => sf_s1 p 13 (σ (σ' (sf_s1 13 t j)))) (fun j => sf_s2 p 13 (τ (τ' (sf_s2 13 t j)))) ?_ hc hF hL hW hA
      intro j
      have a1 : sf_s1 13 t j = 12 ↔ j = 12 := by
        unfold sf_s1
        by_cases z : j = t
        · rw [if_pos z]; omega
        · rw [if_neg z]
      have a2 := (hs (σ' (sf_s1 13 t j))).trans ((hs' (sf_s1 13 t j)).trans a1)
      generalize σ (σ' (sf_s1 13 t j)) = y at a2
      unfold sf_s1
      by_cases z : y = 13
      · rw [if_pos z]; omega
      · rw [if_neg z]; exact a2
end
