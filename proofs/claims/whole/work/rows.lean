section
theorem pk_us {f : Nat → Int32} {k : Nat} {x : Int32} : upd f k x k = x := if_pos rfl
theorem pk_un {f : Nat → Int32} {k j : Nat} {x : Int32} (h : j ≠ k) : upd f k x j = f j := if_neg h
theorem pk_m1 (n : Nat) : nI (n + 1) + (-1) = nI n := by
  rw [← nI_1, Int32.add_assoc, show (1 : Int32) + (-1) = 0 from rfl, Int32.add_zero]
theorem pk_mul (a b : Nat) : nI a * nI b = nI (a * b) := (Int32.ofNat_mul a b).symm
/-- what the class keeps of a condition's word: its comparison and its argument's number -/
def sf_cm (W : Nat → Int32) : Nat → Int32 := fun j => W j - W j / 8 * 8
def sf_sr (W : Nat → Int32) : Nat → Int32 := fun j => W j / 8
/-- a copy of row a into row b, as a map of places: one cell a row, two cells a row -/
def sf_s1 (a b : Nat) : Nat → Nat := fun j => if j = b then a else j
def sf_s2 (a b : Nat) : Nat → Nat := fun j => if j = 2 * b + 1 then 2 * a + 1 else if j = 2 * b then 2 * a else j
theorem sf_u1 (f : Nat → Int32) (a b : Nat) : upd f b (f a) = fun j => f (sf_s1 a b j) := by
  funext j
  unfold upd sf_s1
  by_cases h : j = b
  · rw [if_pos h, if_pos h]
  · rw [if_neg h, if_neg h]
theorem sf_u2 (f : Nat → Int32) (a b : Nat) : upd (upd f (2 * b) (f (2 * a))) (2 * b + 1) ((upd f (2 * b) (f (2 * a))) (2 * a + 1)) = fun j => f (sf_s2 a b j) := by
  funext j
  have e : ¬ 2 * a + 1 = 2 * b := by omega
  unfold upd sf_s2
  by_cases h : j = 2 * b + 1
  · rw [if_pos h, if_pos h, if_neg e]
  · rw [if_neg h, if_neg h]
    by_cases h2 : j = 2 * b
    · rw [if_pos h2, if_pos h2]
    · rw [if_neg h2, if_neg h2]
theorem sf_e (f : Nat → Int32) {x y : Int32} {p q : Nat} (hx : x = nI p) (hy : y = nI q) (hp : p < 28) (hq : q < 28) : upd f y.toNatClampNeg (f x.toNatClampNeg) = upd f q (f p) := by
  rw [hx, hy, nI_clamp (by omega), nI_clamp (by omega)]
theorem sf_e1 (f : Nat → Int32) {x y : Int32} {p q : Nat} (hx : x = nI p) (hy : y = nI q) (hp : p < 14) (hq : q < 14) : upd f y.toNatClampNeg (f x.toNatClampNeg) = fun j => f (sf_s1 p q j) := by
  rw [hx, hy, nI_clamp (by omega), nI_clamp (by omega)]
  exact sf_u1 f p q
theorem sf_in {x : Int32} {p N : Nat} (hx : x = nI p) (h : p < N) (hN : N < 2 ^ 31) : vp_in x N := by
  rw [hx]
  exact vp_in_nI h hN
theorem sf_ix (a s : Nat) : nI a * 2 + nI s = nI (2 * a + s) := by
  rw [show (2 : Int32) = nI 2 from rfl, pk_mul, nI_add]
  exact congrArg nI (by omega)
theorem sf_iy (a s : Nat) : 2 * nI a + nI s = nI (2 * a + s) := by
  rw [show (2 : Int32) = nI 2 from rfl, pk_mul, nI_add]
theorem sf_iy0 (a : Nat) : 2 * nI a = nI (2 * a) := by
  rw [show (2 : Int32) = nI 2 from rfl, pk_mul]
theorem sf_stX {post : SX → Prop} {x1 x2 c d : Int32} {n : Nat} {x3 x3' : Int32} {F L A C S M V G : Nat → Int32} (p q : Nat) (hp : p < 28) (hq : q < 28) (h2 : ¬ 2 ≤ x3) (hx : x3 + 1 = x3') (ep : x1 * 2 + x3 = nI p) (eq : x2 * 2 + x3 = nI q)
    (h : wX_copyRule_38 post x1 x2 c d n x3' F L A (upd C q (C p)) (upd S q (S p)) (upd M q (M p)) (upd V q (V p)) G) : wX_copyRule_38 post x1 x2 c d (n + 1) x3 F L A C S M V G :=
  br_f h2 (nm_r ep (nm_r eq ⟨sf_in rfl hp (by decide), sf_in rfl hq (by decide), nm_r (sf_e C rfl rfl hp hq) ⟨sf_in rfl hp (by decide), sf_in rfl hq (by decide), nm_r (sf_e S rfl rfl hp hq) ⟨sf_in rfl hp (by decide), sf_in rfl hq (by decide), nm_r (sf_e M rfl rfl hp hq) ⟨sf_in rfl hp (by decide), sf_in rfl hq (by decide), nm_r (sf_e V rfl rfl hp hq) (nm_r hx h)⟩⟩⟩⟩))
theorem sf_stY {post : SY → Prop} {x1 x2 c d : Int32} {n : Nat} {x3 x3' : Int32} {F L A W M V G : Nat → Int32} (p q : Nat) (hp : p < 28) (hq : q < 28) (h2 : ¬ 2 ≤ x3) (hx : x3 + 1 = x3') (ep : 2 * x1 + x3 = nI p) (eq : 2 * x2 + x3 = nI q)
    (h : wY_copy_38 post x1 x2 c d n x3' F L A (upd W q (W p)) (upd M q (M p)) (upd V q (V p)) G) : wY_copy_38 post x1 x2 c d (n + 1) x3 F L A W M V G :=
  br_f h2 ⟨sf_in ep hp (by decide), sf_in eq hq (by decide), nm_r (sf_e W ep eq hp hq) ⟨sf_in ep hp (by decide), sf_in eq hq (by decide), nm_r (sf_e M ep eq hp hq) ⟨sf_in ep hp (by decide), sf_in eq hq (by decide), nm_r (sf_e V ep eq hp hq) (nm_r hx h)⟩⟩⟩
theorem sf_cpX {post : SX → Prop} {x y c d : Int32} {F L A C S M V G : Nat → Int32} (a b : Nat) (ha : a < 14) (hb : b < 14) (ex : x = nI a) (ey : y = nI b)
    (h : post (c, d, fun j => F (sf_s1 a b j), fun j => L (sf_s1 a b j), fun j => A (sf_s1 a b j), fun j => C (sf_s2 a b j), fun j => S (sf_s2 a b j), fun j => M (sf_s2 a b j), fun j => V (sf_s2 a b j), G)) : wpX_copyRule post (c, d, F, L, A, C, S, M, V, G) x y := by
  subst ex ey
  have va : vp_in (nI a) 14 := vp_in_nI ha (by decide)
  have vb : vp_in (nI b) 14 := vp_in_nI hb (by decide)
  refine ⟨va, vb, nm_r (sf_e1 F rfl rfl ha hb) ⟨va, vb, nm_r (sf_e1 L rfl rfl ha hb) ⟨va, vb, nm_r (sf_e1 A rfl rfl ha hb) ⟨2 + 1, ?_⟩⟩⟩⟩
  refine sf_stX (x3' := 1) (2 * a) (2 * b) (by omega) (by omega) (by decide) (by decide) (sf_ix a 0) (sf_ix b 0) ?_
  refine sf_stX (n := 0 + 1) (x3' := 2) (2 * a + 1) (2 * b + 1) (by omega) (by omega) (by decide) (by decide) (sf_ix a 1) (sf_ix b 1) ?_
  refine br_t (by decide) ?_
  rw [sf_u2 C a b, sf_u2 S a b, sf_u2 M a b, sf_u2 V a b]
  exact h
theorem sf_cpY {post : SY → Prop} {x y c d : Int32} {F L A W M V G : Nat → Int32} (a b : Nat) (ha : a < 14) (hb : b < 14) (ex : x = nI a) (ey : y = nI b)
    (h : post (c, d, fun j => F (sf_s1 a b j), fun j => L (sf_s1 a b j), fun j => A (sf_s1 a b j), fun j => W (sf_s2 a b j), fun j => M (sf_s2 a b j), fun j => V (sf_s2 a b j), G)) : wpY_copy post (c, d, F, L, A, W, M, V, G) x y := by
  subst ex ey
  have va : vp_in (nI a) 14 := vp_in_nI ha (by decide)
  have vb : vp_in (nI b) 14 := vp_in_nI hb (by decide)
  refine ⟨va, vb, nm_r (sf_e1 F rfl rfl ha hb) ⟨va, vb, nm_r (sf_e1 L rfl rfl ha hb) ⟨va, vb, nm_r (sf_e1 A rfl rfl ha hb) ⟨2 + 1, ?_⟩⟩⟩⟩
  refine sf_stY (x3' := 1) (2 * a) (2 * b) (by omega) (by omega) (by decide) (by decide) (sf_iy a 0) (sf_iy b 0) ?_
  refine sf_stY (n := 0 + 1) (x3' := 2) (2 * a + 1) (2 * b + 1) (by omega) (by omega) (by decide) (by decide) (sf_iy a 1) (sf_iy b 1) ?_
  refine br_t (by decide) ?_
  rw [sf_u2 W a b, sf_u2 M a b, sf_u2 V a b]
  exact h
/-- the gap is opened: the same map of places on both sides, and row 12 goes nowhere -/
theorem sf_up (p : Nat) : ∀ k : Nat, p + k ≤ 11 → ∃ σ τ : Nat → Nat, (∀ j, σ j = 12 ↔ j = 12) ∧
    (∀ (post : SX → Prop) (c d : Int32) (F L A C S M V G : Nat → Int32), post (c + 1, d, fun j => F (σ j), fun j => L (σ j), fun j => A (σ j), fun j => C (τ j), fun j => S (τ j), fun j => M (τ j), fun j => V (τ j), G) → wX_openGap_5 post (nI p) (k + 1) (nI (p + k)) c d F L A C S M V G) ∧
    (∀ (post : SY → Prop) (x2 c d : Int32) (F L A W M V G : Nat → Int32), wY_insert_30 post (nI p) x2 c d (fun j => F (σ j)) (fun j => L (σ j)) (fun j => A (σ j)) (fun j => W (τ j)) (fun j => M (τ j)) (fun j => V (τ j)) G → wY_insert_5 post (nI p) x2 (k + 1) (nI (p + k)) c d F L A W M V G) := by
  intro k
  induction k with
  | zero =>
    intro hk
    have h : nI (p + 0) ≤ nI p := nI_le (by omega) (by omega)
    exact ⟨fun j => j, fun j => j, fun j => Iff.rfl, fun post c d F L A C S M V G hp => br_t h (nm_e hp), fun post x2 c d F L A W M V G hp => br_t h hp⟩
  | succ k ih =>
    intro hk
    obtain ⟨σ, τ, h12, hX, hY⟩ := ih (by omega)
    have h : ¬ nI (p + (k + 1)) ≤ nI p := nI_ge (by omega) (by omega)
    have h11 : ¬ (11 : Int32) < nI (p + (k + 1)) := nI_nlt (a := 11) (by omega) (by decide)
    refine ⟨fun j => sf_s1 (p + k) (p + k + 1) (σ j), fun j => sf_s2 (p + k) (p + k + 1) (τ j), fun j => ?_, fun post c d F L A C S M V G hp => br_f h ?_, fun post x2 c d F L A W M V G hp => br_f h (br_f h11 ?_)⟩
    · have := h12 j
      unfold sf_s1
      dsimp only
      by_cases z : σ j = p + k + 1
      · rw [if_pos z]; omega
      · rw [if_neg z]; exact this
    · refine sf_cpX (p + k) (p + k + 1) (by omega) (by omega) (nI_pred (p + k)) rfl ?_
      exact nm_r (pk_m1 (p + k)) (hX post c d _ _ _ _ _ _ _ G hp)
    · refine sf_cpY (p + k) (p + k + 1) (by omega) (by omega) (nI_pred (p + k)) rfl ?_
      exact nm_r (pk_m1 (p + k)) (hY post x2 c d _ _ _ _ _ _ G hp)
/-- the gap is closed: likewise -/
theorem sf_dn (c : Nat) (hc : c ≤ 11) : ∀ k i : Nat, i + k = c → ∃ σ τ : Nat → Nat, (∀ j, σ j = 12 ↔ j = 12) ∧
    (∀ (post : SX → Prop) (d : Int32) (F L A C S M V G : Nat → Int32), post (nI c, d, fun j => F (σ j), fun j => L (σ j), fun j => A (σ j), fun j => C (τ j), fun j => S (τ j), fun j => M (τ j), fun j => V (τ j), G) → wX_closeGap_12 post (k + 1) (nI i) (nI c) d F L A C S M V G) ∧
    (∀ (post : SY → Prop) (d : Int32) (F L A W M V G : Nat → Int32), post (nI c, d, fun j => F (σ j), fun j => L (σ j), fun j => A (σ j), fun j => W (τ j), fun j => M (τ j), fun j => V (τ j), G) → wY_takeOut_2 post (k + 1) (nI i) (nI (c + 1)) d F L A W M V G) := by
  intro k
  induction k with
  | zero =>
    intro i hi
    have h : nI c ≤ nI i := nI_le (by omega) (by omega)
    have h' : nI (c + 1) - 1 ≤ nI i := by rw [nI_pred]; exact h
    exact ⟨fun j => j, fun j => j, fun j => Iff.rfl, fun post d F L A C S M V G hp => br_t h hp, fun post d F L A W M V G hp => br_t h' (nm_r (nI_pred c) hp)⟩
  | succ k ih =>
    intro i hi
    obtain ⟨σ, τ, h12, hX, hY⟩ := ih (i + 1) (by omega)
    have h : ¬ nI c ≤ nI i := nI_ge (by omega) (by omega)
    have h' : ¬ nI (c + 1) - 1 ≤ nI i := by rw [nI_pred]; exact h
    have h11 : ¬ (11 : Int32) ≤ nI i := nI_ge (b := 11) (by omega) (by decide)
    refine ⟨fun j => sf_s1 (i + 1) i (σ j), fun j => sf_s2 (i + 1) i (τ j), fun j => ?_, fun post d F L A C S M V G hp => br_f h ?_, fun post d F L A W M V G hp => br_f h' (br_f h11 ?_)⟩
    · have := h12 j
      unfold sf_s1
      dsimp only
      by_cases z : σ j = i
      · rw [if_pos z]; omega
      · rw [if_neg z]; exact this
    · refine sf_cpX (i + 1) i (by omega) (by omega) (nI_1 i) rfl ?_
      exact nm_r (nI_1 i) (hX post d _ _ _ _ _ _ _ G hp)
    · refine sf_cpY (i + 1) i (by omega) (by omega) (nI_1 i) rfl ?_
      exact nm_r (nI_1 i) (hY post d _ _ _ _ _ _ G hp)
end
section
section
variable {c : Nat} {d : Int32} {F L A B W M V G : Nat → Int32}
def sf_okW (W : Nat → Int32) : Prop := ∀ j, ∃ w : Nat, w < 16 ∧ w % 8 ≠ 7 ∧ W j = nI w
def sf_okN (F : Nat → Int32) : Prop := ∀ j, ∃ f : Nat, f < 32 ∧ F j = nI f
def sf_agr (A B : Nat → Int32) : Prop := ∀ j, j ≠ 12 → B j = A j
theorem sf_bi (p : Prop) (a b : Int32) : ∃ r : Int32, ∀ post : Int32 → Prop, post r → (p → post a) ∧ (¬ p → post b) := by
  by_cases h : p
  · exact ⟨a, fun _ hp => br_t h hp⟩
  · exact ⟨b, fun _ hp => br_f h hp⟩
theorem sf_wf : ∀ w : Nat, w < 16 → w % 8 ≠ 7 → (nI w / 8) &&& 1 = nI w / 8 ∧ 0 ≤ (nI w / 8).toInt ∧ (nI w / 8).toInt < 2 ∧ (nI w - nI w / 8 * 8 = 0 ∨ nI w - nI w / 8 * 8 = 1 ∨ nI w - nI w / 8 * 8 = 2 ∨ nI w - nI w / 8 * 8 = 3 ∨ nI w - nI w / 8 * 8 = 4 ∨ nI w - nI w / 8 * 8 = 5 ∨ nI w - nI w / 8 * 8 = 6) := by
  decide +kernel
theorem sf_8 : ¬ (8 : Int32) = 0 := by decide
theorem sf_has (i : Nat) (hi : i < 14) (k : Int32) : ∃ r : Int32, (∀ post : Int32 → Prop, post r → wpX_inRange post (nI c, d, F, L, A, sf_cm W, sf_sr W, M, V, G) (nI i) k) ∧ (∀ post : Int32 → Prop, post r → wpY_has post (nI c, d, F, L, B, W, M, V, G) (nI i) k) := by
  have hv : vp_in (nI i) 14 := vp_in_nI hi (by decide)
  by_cases h1 : k < F (nI i).toNatClampNeg
  · exact ⟨0, fun _ hp => ⟨hv, br_t h1 hp⟩, fun _ hp => ⟨hv, br_t h1 hp⟩⟩
  · by_cases h2 : L (nI i).toNatClampNeg < k
    · exact ⟨0, fun _ hp => ⟨hv, br_f h1 ⟨hv, br_t h2 hp⟩⟩, fun _ hp => ⟨hv, br_f h1 ⟨hv, br_t h2 hp⟩⟩⟩
    · exact ⟨1, fun _ hp => ⟨hv, br_f h1 ⟨hv, br_f h2 hp⟩⟩, fun _ hp => ⟨hv, br_f h1 ⟨hv, br_f h2 hp⟩⟩⟩
theorem sf_met (hW : sf_okW W) (q : Nat) (hq : q < 28) {x y : Int32} (ex : x = nI q) (ey : y = nI q) : ∃ r : Int32, (∀ post : Int32 → Prop, post r → wpX_isMet post (nI c, d, F, L, A, sf_cm W, sf_sr W, M, V, G) x) ∧ (∀ post : Int32 → Prop, post r → wpY_met post (nI c, d, F, L, B, W, M, V, G) y) := by
  subst ex
  subst ey
  obtain ⟨w, hw, h7, ew⟩ := hW q
  obtain ⟨e1, e2, e3, e4⟩ := sf_wf w hw h7
  have hv : vp_in (nI q) 28 := vp_in_nI hq (by decide)
  have eq : (nI q).toNatClampNeg = q := nI_clamp (by omega)
  have eW : W (nI q).toNatClampNeg = nI w := by rw [eq]; exact ew
  have eS : sf_sr W (nI q).toNatClampNeg = nI w / 8 := by unfold sf_sr; rw [eW]
  have hs : vp_in (sf_sr W (nI q).toNatClampNeg) 2 := by rw [eS]; exact vp_in_iff.mpr ⟨e2, e3⟩
  have hs' : vp_in ((W (nI q).toNatClampNeg / 8) &&& 1) 2 := by rw [eW, e1]; exact vp_in_iff.mpr ⟨e2, e3⟩
  have ex : G ((W (nI q).toNatClampNeg / 8) &&& 1).toNatClampNeg &&& M (nI q).toNatClampNeg = G (sf_sr W (nI q).toNatClampNeg).toNatClampNeg &&& M (nI q).toNatClampNeg := by rw [eS, eW, e1]
  have eC : W (nI q).toNatClampNeg - W (nI q).toNatClampNeg / 8 * 8 = nI w - nI w / 8 * 8 := by rw [eW]
  generalize hx : G (sf_sr W (nI q).toNatClampNeg).toNatClampNeg &&& M (nI q).toNatClampNeg = x at ex
  rcases e4 with z | z | z | z | z | z | z
  · have hC : sf_cm W (nI q).toNatClampNeg = 0 := eC.trans z
    exact ⟨1, fun post hp => ⟨hv, hs, hv, nm_e ⟨hv, nm_e ⟨hv, nm_r hC (br_t (by decide) hp)⟩⟩⟩, fun post hp => ⟨hv, sf_8, nm_r hC (br_t rfl hp)⟩⟩
  · have hC : sf_cm W (nI q).toNatClampNeg = 1 := eC.trans z
    obtain ⟨r, hr⟩ := sf_bi (x = V (nI q).toNatClampNeg) 1 0
    exact ⟨r, fun post hp => ⟨hv, hs, hv, nm_r hx ⟨hv, nm_e ⟨hv, nm_r hC (br_f (by decide) (br_f (by decide) (br_t rfl (hr post hp))))⟩⟩⟩, fun post hp => ⟨hv, sf_8, nm_r hC (br_f (by decide) ⟨hv, sf_8, hs', hv, nm_r ex ⟨hv, nm_e (br_t rfl (hr post hp))⟩⟩)⟩⟩
  · have hC : sf_cm W (nI q).toNatClampNeg = 2 := eC.trans z
    obtain ⟨r, hr⟩ := sf_bi (x = V (nI q).toNatClampNeg) 0 1
    exact ⟨r, fun post hp => ⟨hv, hs, hv, nm_r hx ⟨hv, nm_e ⟨hv, nm_r hC (br_f (by decide) (br_f (by decide) (br_f (by decide) (br_t rfl (hr post hp)))))⟩⟩⟩, fun post hp => ⟨hv, sf_8, nm_r hC (br_f (by decide) ⟨hv, sf_8, hs', hv, nm_r ex ⟨hv, nm_e (br_f (by decide) (br_t rfl (hr post hp)))⟩⟩)⟩⟩
  · have hC : sf_cm W (nI q).toNatClampNeg = 3 := eC.trans z
    obtain ⟨r, hr⟩ := sf_bi (V (nI q).toNatClampNeg ≤ x) 0 1
    exact ⟨r, fun post hp => ⟨hv, hs, hv, nm_r hx ⟨hv, nm_e ⟨hv, nm_r hC (br_f (by decide) (br_f (by decide) (br_f (by decide) (br_f (by decide) (br_t rfl (hr post hp))))))⟩⟩⟩, fun post hp => ⟨hv, sf_8, nm_r hC (br_f (by decide) ⟨hv, sf_8, hs', hv, nm_r ex ⟨hv, nm_e (br_f (by decide) (br_f (by decide) (br_t rfl (hr post hp))))⟩⟩)⟩⟩
  · have hC : sf_cm W (nI q).toNatClampNeg = 4 := eC.trans z
    obtain ⟨r, hr⟩ := sf_bi (V (nI q).toNatClampNeg < x) 0 1
    exact ⟨r, fun post hp => ⟨hv, hs, hv, nm_r hx ⟨hv, nm_e ⟨hv, nm_r hC (br_f (by decide) (br_f (by decide) (br_f (by decide) (br_f (by decide) (br_f (by decide) (br_t rfl (hr post hp)))))))⟩⟩⟩, fun post hp => ⟨hv, sf_8, nm_r hC (br_f (by decide) ⟨hv, sf_8, hs', hv, nm_r ex ⟨hv, nm_e (br_f (by decide) (br_f (by decide) (br_f (by decide) (br_t rfl (hr post hp)))))⟩⟩)⟩⟩
  · have hC : sf_cm W (nI q).toNatClampNeg = 5 := eC.trans z
    obtain ⟨r, hr⟩ := sf_bi (x ≤ V (nI q).toNatClampNeg) 0 1
    exact ⟨r, fun post hp => ⟨hv, hs, hv, nm_r hx ⟨hv, nm_e ⟨hv, nm_r hC (br_f (by decide) (br_f (by decide) (br_f (by decide) (br_f (by decide) (br_f (by decide) (br_f (by decide) (br_t rfl (hr post hp))))))))⟩⟩⟩, fun post hp => ⟨hv, sf_8, nm_r hC (br_f (by decide) ⟨hv, sf_8, hs', hv, nm_r ex ⟨hv, nm_e (br_f (by decide) (br_f (by decide) (br_f (by decide) (br_f (by decide) (br_t rfl (hr post hp))))))⟩⟩)⟩⟩
  · have hC : sf_cm W (nI q).toNatClampNeg = 6 := eC.trans z
    obtain ⟨r, hr⟩ := sf_bi (x < V (nI q).toNatClampNeg) 0 1
    exact ⟨r, fun post hp => ⟨hv, hs, hv, nm_r hx ⟨hv, nm_e ⟨hv, nm_r hC (br_f (by decide) (br_f (by decide) (br_f (by decide) (br_f (by decide) (br_f (by decide) (br_f (by decide) (br_f (by decide) (br_t rfl (hr post hp)))))))))⟩⟩⟩, fun post hp => ⟨hv, sf_8, nm_r hC (br_f (by decide) ⟨hv, sf_8, hs', hv, nm_r ex ⟨hv, nm_e (br_f (by decide) (br_f (by decide) (br_f (by decide) (br_f (by decide) (br_f (by decide) (hr post hp))))))⟩⟩)⟩⟩
theorem sf_mat (hW : sf_okW W) (i : Nat) (hi : i < 12) (k : Int32) : ∃ r : Int32, (∀ post : Int32 → Prop, post r → wpX_matches post (nI c, d, F, L, A, sf_cm W, sf_sr W, M, V, G) (nI i) k) ∧ (∀ post : Int32 → Prop, post r → wpY_matches post (nI c, d, F, L, B, W, M, V, G) (nI i) k) := by
  obtain ⟨r1, hX1, hY1⟩ := sf_has (c := c) (d := d) (F := F) (L := L) (A := A) (B := B) (W := W) (M := M) (V := V) (G := G) i (by omega) k
  obtain ⟨r2, hX2, hY2⟩ := sf_met (c := c) (d := d) (F := F) (L := L) (A := A) (B := B) (W := W) (M := M) (V := V) (G := G) hW (2 * i) (by omega) (sf_ix i 0) (sf_iy0 i)
  obtain ⟨r3, hX3, hY3⟩ := sf_met (c := c) (d := d) (F := F) (L := L) (A := A) (B := B) (W := W) (M := M) (V := V) (G := G) hW (2 * i + 1) (by omega) (sf_ix i 1) (sf_iy i 1)
  unfold wpX_matches wpY_matches
  dsimp only
  by_cases z1 : r1 = 0
  · exact ⟨0, fun post hp => hX1 _ (br_t z1 hp), fun post hp => hY1 _ (br_t z1 hp)⟩
  · by_cases z2 : r2 = 0
    · exact ⟨0, fun post hp => hX1 _ (br_f z1 ⟨0 + 1, br_f (by decide) (hX2 _ (br_t z2 hp))⟩), fun post hp => hY1 _ (br_f z1 (hY2 _ (br_t z2 hp)))⟩
    · by_cases z3 : r3 = 0
      · exact ⟨0, fun post hp => hX1 _ (br_f z1 ⟨1 + 1, br_f (by decide) (hX2 _ (br_f z2 (nm_r (e' := 1) (by decide) (br_f (by decide) (hX3 _ (br_t z3 hp))))))⟩), fun post hp => hY1 _ (br_f z1 (hY2 _ (br_f z2 (hY3 _ (br_t z3 hp)))))⟩
      · exact ⟨1, fun post hp => hX1 _ (br_f z1 ⟨2 + 1, br_f (by decide) (hX2 _ (br_f z2 (nm_r (e' := 1) (by decide) (br_f (by decide) (hX3 _ (br_f z3 (nm_r (e' := 2) (by decide) (br_t (by decide) hp))))))))⟩), fun post hp => hY1 _ (br_f z1 (hY2 _ (br_f z2 (hY3 _ (br_f z3 hp)))))⟩
theorem sf_fm (hc : c ≤ 12) (hW : sf_okW W) (k : Int32) : ∀ n i : Nat, i + n = c → ∃ r : Int32, (r = -2 ∨ ∃ j : Nat, j < 12 ∧ r = nI j) ∧ (∀ post : Int32 → Prop, post r → wX_firstMatch_2 post k (nI c) d F L A (sf_cm W) (sf_sr W) M V G (n + 1) (nI i)) ∧ (∀ post : Int32 → Prop, post r → wY_firstMatch_2 post k (nI c) d F L B W M V G (n + 1) (nI i)) := by
  intro n
  induction n with
  | zero =>
    intro i hi
    have h : nI c ≤ nI i := nI_le (by omega) (by omega)
    exact ⟨-2, Or.inl rfl, fun post hp => br_t h hp, fun post hp => br_t h hp⟩
  | succ n ih =>
    intro i hi
    have h : ¬ nI c ≤ nI i := nI_ge (by omega) (by omega)
    have h12 : ¬ (12 : Int32) ≤ nI i := nI_ge (b := 12) (by omega) (by decide)
    obtain ⟨r1, hX1, hY1⟩ := sf_mat (c := c) (d := d) (F := F) (L := L) (A := A) (B := B) (W := W) (M := M) (V := V) (G := G) hW i (by omega) k
    by_cases z : r1 = 0
    · obtain ⟨r, hr, hX, hY⟩ := ih (i + 1) (by omega)
      exact ⟨r, hr, fun post hp => br_f h (hX1 _ (br_t z (nm_r (nI_1 i) (hX post hp)))), fun post hp => br_f h (br_f h12 (hY1 _ (br_t z (nm_r (nI_1 i) (hY post hp)))))⟩
    · exact ⟨nI i, Or.inr ⟨i, by omega, rfl⟩, fun post hp => br_f h (hX1 _ (br_f z hp)), fun post hp => br_f h (br_f h12 (hY1 _ (br_f z hp)))⟩
theorem sf_fst (hc : c ≤ 12) (hW : sf_okW W) (k : Int32) : ∃ r : Int32, (r = -2 ∨ ∃ j : Nat, j < 12 ∧ r = nI j) ∧ (∀ post : Int32 → Prop, post r → wpX_firstMatch post (nI c, d, F, L, A, sf_cm W, sf_sr W, M, V, G) k) ∧ (∀ post : Int32 → Prop, post r → wpY_firstMatch post (nI c, d, F, L, B, W, M, V, G) k) := by
  obtain ⟨r, hr, hX, hY⟩ := sf_fm (d := d) (F := F) (L := L) (A := A) (B := B) (M := M) (V := V) (G := G) hc hW k c 0 (by omega)
  rw [nI_0] at hX hY
  exact ⟨r, hr, fun post hp => ⟨_, hX post hp⟩, fun post hp => ⟨_, hY post hp⟩⟩
theorem sf_n2 {j : Nat} (hj : j < 12) : ¬ nI j = -2 := by
  intro e
  have h := nI_pos (n := j) (by omega)
  rw [e] at h
  exact h (by decide)
theorem sf_ver (hc : c ≤ 12) (hW : sf_okW W) (hA : sf_agr A B) (k : Int32) : ∃ r : Int32, (∀ post : Int32 → Prop, post r → wpX_verdict post (nI c, d, F, L, A, sf_cm W, sf_sr W, M, V, G) k) ∧ (∀ post : Int32 → Prop, post r → wpY_verdict post (nI c, d, F, L, B, W, M, V, G) k) := by
  obtain ⟨r, hr, hX, hY⟩ := sf_fst (d := d) (F := F) (L := L) (A := A) (B := B) (M := M) (V := V) (G := G) hc hW k
  unfold wpX_verdict wpY_verdict
  dsimp only
  rcases hr with e | ⟨j, hj, e⟩
  · subst e
    exact ⟨d, fun post hp => hX _ (br_t rfl hp), fun post hp => hY _ (br_f (by decide) hp)⟩
  · subst e
    have hv : vp_in (nI j) 14 := vp_in_nI (by omega) (by decide)
    have e : B (nI j).toNatClampNeg = A (nI j).toNatClampNeg := by
      rw [nI_clamp (by omega)]
      exact hA j (by omega)
    refine ⟨A (nI j).toNatClampNeg, fun post hp => hX _ (br_f (sf_n2 hj) ⟨hv, hp⟩), fun post hp => hY _ (br_t (nI_pos' (by omega)) ⟨hv, ?_⟩)⟩
    rw [e]
    exact hp
theorem sf_cw (hc : c ≤ 12) (hW : sf_okW W) (hA : sf_agr A B) (a : Int32) (l : Nat) (hl : l < 32) : ∀ n j : Nat, j + n = l + 1 → ∀ x : Int32, ∃ r : Int32, (∀ post : Int32 → Prop, post r → wX_countWith_40 post a (nI l) (nI c) d F L A (sf_cm W) (sf_sr W) M V G (n + 1) x (nI j)) ∧ (∀ post : Int32 → Prop, post r → wY_countWith_43 post a (nI l) (nI c) d F L B W M V G (n + 1) x (nI j)) := by
  intro n
  induction n with
  | zero =>
    intro j hj x
    have h : nI l < nI j := nI_lt (by omega) (by omega)
    exact ⟨x, fun post hp => br_t h hp, fun post hp => br_t h hp⟩
  | succ n ih =>
    intro j hj x
    have h : ¬ nI l < nI j := nI_nlt (by omega) (by omega)
    obtain ⟨r1, hX1, hY1⟩ := sf_ver (d := d) (F := F) (L := L) (M := M) (V := V) (G := G) hc hW hA (nI j)
    by_cases z : r1 = a
    · obtain ⟨r, hX, hY⟩ := ih (j + 1) (by omega) (x + 1)
      exact ⟨r, fun post hp => br_f h (hX1 _ (br_t z (nm_e (nm_r (nI_1 j) (hX post hp))))), fun post hp => br_f h (hY1 _ (br_t z (nm_e (nm_r (nI_1 j) (hY post hp)))))⟩
    · obtain ⟨r, hX, hY⟩ := ih (j + 1) (by omega) x
      exact ⟨r, fun post hp => br_f h (hX1 _ (br_f z (nm_r (nI_1 j) (hX post hp)))), fun post hp => br_f h (hY1 _ (br_f z (nm_r (nI_1 j) (hY post hp))))⟩
theorem sf_nw (hc : c ≤ 12) (hW : sf_okW W) (hA : sf_agr A B) (a : Int32) : ∀ n j : Nat, j + n = 32 → ∃ r : Int32, (∀ post : Int32 → Prop, post r → wX_nextWith_21 post a (nI c) d F L A (sf_cm W) (sf_sr W) M V G (n + 1) (nI j)) ∧ (∀ post : Int32 → Prop, post r → wY_nextWith_23 post a (nI c) d F L B W M V G (n + 1) (nI j)) := by
  intro n
  induction n with
  | zero =>
    intro j hj
    have h : (32 : Int32) ≤ nI j := nI_le (a := 32) (by omega) (by omega)
    exact ⟨-3, fun post hp => br_t h hp, fun post hp => br_t h hp⟩
  | succ n ih =>
    intro j hj
    have h : ¬ (32 : Int32) ≤ nI j := nI_ge (b := 32) (by omega) (by decide)
    obtain ⟨r1, hX1, hY1⟩ := sf_ver (d := d) (F := F) (L := L) (M := M) (V := V) (G := G) hc hW hA (nI j)
    by_cases z : r1 = a
    · exact ⟨nI j, fun post hp => br_f h (hX1 _ (br_t z hp)), fun post hp => br_f h (hY1 _ (br_t z hp))⟩
    · obtain ⟨r, hX, hY⟩ := ih (j + 1) (by omega)
      exact ⟨r, fun post hp => br_f h (hX1 _ (br_f z (nm_r (nI_1 j) (hX post hp)))), fun post hp => br_f h (hY1 _ (br_f z (nm_r (nI_1 j) (hY post hp))))⟩
theorem sf_mg (hc : c ≤ 12) (hW : sf_okW W) (k : Int32) : ∀ n i : Nat, i + n = c → ∀ x : Int32, ∃ r : Int32, (∀ post : Int32 → Prop, post r → wX_matching_13 post k (nI c) d F L A (sf_cm W) (sf_sr W) M V G (n + 1) x (nI i)) ∧ (∀ post : Int32 → Prop, post r → wY_matching_14 post k (nI c) d F L B W M V G (n + 1) x (nI i)) := by
  intro n
  induction n with
  | zero =>
    intro i hi x
    have h : nI c ≤ nI i := nI_le (by omega) (by omega)
    exact ⟨x, fun post hp => br_t h hp, fun post hp => br_t h hp⟩
  | succ n ih =>
    intro i hi x
    have h : ¬ nI c ≤ nI i := nI_ge (by omega) (by omega)
    have h12 : ¬ (12 : Int32) ≤ nI i := nI_ge (b := 12) (by omega) (by decide)
    obtain ⟨r1, hX1, hY1⟩ := sf_mat (c := c) (d := d) (F := F) (L := L) (A := A) (B := B) (W := W) (M := M) (V := V) (G := G) hW i (by omega) k
    by_cases z : r1 = 0
    · obtain ⟨r, hX, hY⟩ := ih (i + 1) (by omega) x
      exact ⟨r, fun post hp => br_f h (hX1 _ (br_t z (nm_r (nI_1 i) (hX post hp)))), fun post hp => br_f h (br_f h12 (hY1 _ (br_t z (nm_r (nI_1 i) (hY post hp)))))⟩
    · obtain ⟨r, hX, hY⟩ := ih (i + 1) (by omega) (x + 1)
      exact ⟨r, fun post hp => br_f h (hX1 _ (br_f z (nm_e (nm_r (nI_1 i) (hX post hp))))), fun post hp => br_f h (br_f h12 (hY1 _ (br_f z (nm_e (nm_r (nI_1 i) (hY post hp))))))⟩
end
end
section
section
variable {c : Nat} {d : Int32} {F L A B W M V G : Nat → Int32}
theorem sf_unc (i : Nat) (hi : i < 14) : (¬ sf_cm W (2 * i) = 0 → ∀ post : Int32 → Prop, post 0 → wpX_isUnconditional post (nI c, d, F, L, A, sf_cm W, sf_sr W, M, V, G) (nI i)) ∧ (sf_cm W (2 * i) = 0 → ¬ sf_cm W (2 * i + 1) = 0 → ∀ post : Int32 → Prop, post 0 → wpX_isUnconditional post (nI c, d, F, L, A, sf_cm W, sf_sr W, M, V, G) (nI i)) ∧ (sf_cm W (2 * i) = 0 → sf_cm W (2 * i + 1) = 0 → ∀ post : Int32 → Prop, post 1 → wpX_isUnconditional post (nI c, d, F, L, A, sf_cm W, sf_sr W, M, V, G) (nI i)) := by
  have v0 : vp_in (nI i * 2 + 0) 28 := sf_in (sf_ix i 0) (by omega) (by decide)
  have v1 : vp_in (nI i * 2 + 1) 28 := sf_in (sf_ix i 1) (by omega) (by decide)
  have e0 : (nI i * 2 + 0).toNatClampNeg = 2 * i := (congrArg Int32.toNatClampNeg (sf_ix i 0)).trans (nI_clamp (by omega))
  have e1 : (nI i * 2 + 1).toNatClampNeg = 2 * i + 1 := (congrArg Int32.toNatClampNeg (sf_ix i 1)).trans (nI_clamp (by omega))
  rw [← e1, ← e0]
  exact ⟨fun z post hp => ⟨0 + 1, br_f (by decide) ⟨v0, br_f z hp⟩⟩,
    fun z z2 post hp => ⟨1 + 1, br_f (by decide) ⟨v0, br_t z (nm_r (e' := 1) (by decide) (br_f (by decide) ⟨v1, br_f z2 hp⟩))⟩⟩,
    fun z z2 post hp => ⟨2 + 1, br_f (by decide) ⟨v0, br_t z (nm_r (e' := 1) (by decide) (br_f (by decide) ⟨v1, br_t z2 (nm_r (e' := 2) (by decide) (br_t (by decide) hp))⟩))⟩⟩⟩
theorem sf_sh (p : Nat) (hp12 : p ≤ 12) (k : Int32) : ∀ n i : Nat, i + n = p → ∃ r : Int32, (∀ post : Int32 → Prop, post r → wX_alwaysMatchedBefore_2 post (nI p) k (nI c) d F L A (sf_cm W) (sf_sr W) M V G (n + 1) (nI i)) ∧ (∀ post : Int32 → Prop, post r → wY_shadowed_2 post (nI p) k (nI c) d F L B W M V G (n + 1) (nI i)) := by
  intro n
  induction n with
  | zero =>
    intro i hi
    have h : nI p ≤ nI i := nI_le (by omega) (by omega)
    exact ⟨0, fun post hp => br_t h hp, fun post hp => br_t h hp⟩
  | succ n ih =>
    intro i hi
    have h : ¬ nI p ≤ nI i := nI_ge (by omega) (by omega)
    have h12 : ¬ (12 : Int32) ≤ nI i := nI_ge (b := 12) (by omega) (by decide)
    have v0 : vp_in (2 * nI i) 28 := sf_in (sf_iy0 i) (by omega) (by decide)
    have v1 : vp_in (2 * nI i + 1) 28 := sf_in (sf_iy i 1) (by omega) (by decide)
    have e0 : (2 * nI i).toNatClampNeg = 2 * i := (congrArg Int32.toNatClampNeg (sf_iy0 i)).trans (nI_clamp (by omega))
    have e1 : (2 * nI i + 1).toNatClampNeg = 2 * i + 1 := (congrArg Int32.toNatClampNeg (sf_iy i 1)).trans (nI_clamp (by omega))
    obtain ⟨r1, hX1, hY1⟩ := sf_has (c := c) (d := d) (F := F) (L := L) (A := A) (B := B) (W := W) (M := M) (V := V) (G := G) i (by omega) k
    obtain ⟨r, hX, hY⟩ := ih (i + 1) (by omega)
    obtain ⟨u1, u2, u3⟩ := sf_unc (c := c) (d := d) (F := F) (L := L) (A := A) (W := W) (M := M) (V := V) (G := G) i (by omega)
    rw [← e1] at u2 u3
    rw [← e0] at u1 u2 u3
    by_cases z : r1 = 0
    · exact ⟨r, fun post hp => br_f h (hX1 _ (br_t z (nm_r (nI_1 i) (hX post hp)))), fun post hp => br_f h (br_f h12 (hY1 _ (br_t z (nm_r (nI_1 i) (hY post hp)))))⟩
    · by_cases z1 : sf_cm W (2 * nI i).toNatClampNeg = 0
      · by_cases z2 : sf_cm W (2 * nI i + 1).toNatClampNeg = 0
        · exact ⟨1, fun post hp => br_f h (hX1 _ (br_f z (u3 z1 z2 _ (br_f (by decide) hp)))), fun post hp => br_f h (br_f h12 (hY1 _ (br_f z ⟨v0, sf_8, br_t z1 ⟨v1, sf_8, br_t z2 hp⟩⟩)))⟩
        · exact ⟨r, fun post hp => br_f h (hX1 _ (br_f z (u2 z1 z2 _ (br_t rfl (nm_r (nI_1 i) (hX post hp)))))), fun post hp => br_f h (br_f h12 (hY1 _ (br_f z ⟨v0, sf_8, br_t z1 ⟨v1, sf_8, br_f z2 (nm_r (nI_1 i) (hY post hp))⟩⟩)))⟩
      · exact ⟨r, fun post hp => br_f h (hX1 _ (br_f z (u1 z1 _ (br_t rfl (nm_r (nI_1 i) (hX post hp)))))), fun post hp => br_f h (br_f h12 (hY1 _ (br_f z ⟨v0, sf_8, br_f z1 (nm_r (nI_1 i) (hY post hp))⟩)))⟩
theorem sf_shd (p : Nat) (hp12 : p ≤ 12) (k : Int32) : ∃ r : Int32, (∀ post : Int32 → Prop, post r → wpX_alwaysMatchedBefore post (nI c, d, F, L, A, sf_cm W, sf_sr W, M, V, G) (nI p) k) ∧ (∀ post : Int32 → Prop, post r → wpY_shadowed post (nI c, d, F, L, B, W, M, V, G) (nI p) k) := by
  obtain ⟨r, hX, hY⟩ := sf_sh (c := c) (d := d) (F := F) (L := L) (A := A) (B := B) (W := W) (M := M) (V := V) (G := G) p hp12 k p 0 (by omega)
  rw [nI_0] at hX hY
  exact ⟨r, fun post hp => ⟨_, hX post hp⟩, fun post hp => ⟨_, hY post hp⟩⟩
theorem sf_hid (hL : sf_okN L) (p : Nat) (hp12 : p < 12) : ∀ n j : Nat, 32 = j + n → ∃ r : Int32, (∀ post : Int32 → Prop, post r → wX_hidden_17 post (nI p) (nI c) d F L A (sf_cm W) (sf_sr W) M V G (n + 1) (nI j)) ∧ (∀ post : Int32 → Prop, post r → wY_hidden_17 post (nI p) (nI c) d F L B W M V G (n + 1) (nI j)) := by
  obtain ⟨l, hl, el⟩ := hL p
  have hv : vp_in (nI p) 14 := vp_in_nI (by omega) (by decide)
  have eL : L (nI p).toNatClampNeg = nI l := by rw [nI_clamp (by omega)]; exact el
  intro n
  induction n with
  | zero =>
    intro j hj
    have h : L (nI p).toNatClampNeg < nI j := by rw [eL]; exact nI_lt (by omega) (by omega)
    exact ⟨1, fun post hp => ⟨hv, br_t h hp⟩, fun post hp => ⟨hv, br_t h hp⟩⟩
  | succ n ih =>
    intro j hj
    by_cases h : L (nI p).toNatClampNeg < nI j
    · exact ⟨1, fun post hp => ⟨hv, br_t h hp⟩, fun post hp => ⟨hv, br_t h hp⟩⟩
    · have h32 : ¬ (32 : Int32) ≤ nI j := nI_ge (b := 32) (by omega) (by decide)
      obtain ⟨r1, hX1, hY1⟩ := sf_shd (c := c) (d := d) (F := F) (L := L) (A := A) (B := B) (W := W) (M := M) (V := V) (G := G) p (by omega) (nI j)
      by_cases z : r1 = 0
      · exact ⟨0, fun post hp => ⟨hv, br_f h (hX1 _ (br_t z hp))⟩, fun post hp => ⟨hv, br_f h (br_f h32 (hY1 _ (br_t z hp)))⟩⟩
      · obtain ⟨r, hX, hY⟩ := ih (j + 1) (by omega)
        exact ⟨r, fun post hp => ⟨hv, br_f h (hX1 _ (br_f z (nm_r (nI_1 j) (hX post hp))))⟩, fun post hp => ⟨hv, br_f h (br_f h32 (hY1 _ (br_f z (nm_r (nI_1 j) (hY post hp)))))⟩⟩
theorem sf_st0 (hc : c ≤ 12) (x : Int32) : ∀ n i : Nat, i + n = c → ∀ (post : Int32 → Prop) (J : Int32 → Int32 → Prop) (x1 : Int32), wY_stretches_58 post J x1 x 0 (nI c) d F L B W M V G → wY_stretches_15 post J x1 x (nI c) d F L B W M V G (n + 1) 0 (nI i) := by
  intro n
  induction n with
  | zero =>
    intro i hi post J x1 hp
    exact br_t (nI_le (by omega) (by omega)) hp
  | succ n ih =>
    intro i hi post J x1 hp
    obtain ⟨r1, hX1, hY1⟩ := sf_has (c := c) (d := d) (F := F) (L := L) (A := F) (B := B) (W := W) (M := M) (V := V) (G := G) i (by omega) x
    obtain ⟨r2, hX2, hY2⟩ := sf_has (c := c) (d := d) (F := F) (L := L) (A := F) (B := B) (W := W) (M := M) (V := V) (G := G) i (by omega) (x - 1)
    have hn := ih (i + 1) (by omega) post J x1 hp
    exact br_f (nI_ge (by omega) (by omega)) (br_f (nI_ge (b := 12) (by omega) (by decide)) (hY1 _ (hY2 _ (br_c (fun _ => nm_r (nI_1 i) hn) (fun _ => nm_r (nI_1 i) hn)))))
theorem sf_sm (hc : c ≤ 12) (x : Int32) : ∀ n i : Nat, i + n = c → ∃ r : Int32, (∀ post : Int32 → Prop, post r → wX_sameRulesAsBelow_2 post x (nI c) d F L A (sf_cm W) (sf_sr W) M V G (n + 1) (nI i)) ∧ (∀ (post : Int32 → Prop) (J : Int32 → Int32 → Prop) (x1 : Int32), wY_stretches_58 post J x1 x r (nI c) d F L B W M V G → wY_stretches_15 post J x1 x (nI c) d F L B W M V G (n + 1) 1 (nI i)) := by
  intro n
  induction n with
  | zero =>
    intro i hi
    have h : nI c ≤ nI i := nI_le (by omega) (by omega)
    exact ⟨1, fun post hp => br_t h hp, fun post J x1 hp => br_t h hp⟩
  | succ n ih =>
    intro i hi
    have h : ¬ nI c ≤ nI i := nI_ge (by omega) (by omega)
    have h12 : ¬ (12 : Int32) ≤ nI i := nI_ge (b := 12) (by omega) (by decide)
    obtain ⟨r1, hX1, hY1⟩ := sf_has (c := c) (d := d) (F := F) (L := L) (A := A) (B := B) (W := W) (M := M) (V := V) (G := G) i (by omega) x
    obtain ⟨r2, hX2, hY2⟩ := sf_has (c := c) (d := d) (F := F) (L := L) (A := A) (B := B) (W := W) (M := M) (V := V) (G := G) i (by omega) (x - 1)
    by_cases z : r1 = r2
    · obtain ⟨r, hX, hY⟩ := ih (i + 1) (by omega)
      exact ⟨r, fun post hp => br_f h (hX1 _ (hX2 _ (br_t z (nm_r (nI_1 i) (hX post hp))))), fun post J x1 hp => br_f h (br_f h12 (hY1 _ (hY2 _ (br_t z (nm_r (nI_1 i) (hY post J x1 hp))))))⟩
    · exact ⟨0, fun post hp => br_f h (hX1 _ (hX2 _ (br_f z hp))), fun post J x1 hp => br_f h (br_f h12 (hY1 _ (hY2 _ (br_f z (nm_r (nI_1 i) (sf_st0 hc x n (i + 1) (by omega) post J x1 hp))))))⟩
theorem sf_str (hc : c ≤ 12) : ∀ n j : Nat, j + n = 32 → ∀ x1 : Int32, ∃ r : Int32, (∀ post : Int32 → Prop, post r → wX_stretches_4 post (nI c) d F L A (sf_cm W) (sf_sr W) M V G (n + 1) x1 (nI j)) ∧ (∀ post : Int32 → Prop, post r → wY_stretches_4 post (nI c) d F L B W M V G (n + 1) x1 (nI j)) := by
  intro n
  induction n with
  | zero =>
    intro j hj x1
    have h : (32 : Int32) ≤ nI j := nI_le (a := 32) (by omega) (by omega)
    exact ⟨x1, fun post hp => br_t h hp, fun post hp => br_t h hp⟩
  | succ n ih =>
    intro j hj x1
    have h : ¬ (32 : Int32) ≤ nI j := nI_ge (b := 32) (by omega) (by decide)
    obtain ⟨r1, hX1, hY1⟩ := sf_sm (d := d) (F := F) (L := L) (A := A) (B := B) (W := W) (M := M) (V := V) (G := G) hc (nI j) c 0 (by omega)
    rw [nI_0] at hX1 hY1
    by_cases z : r1 = 0
    · obtain ⟨r, hX, hY⟩ := ih (j + 1) (by omega) (x1 + 1)
      exact ⟨r, fun post hp => br_f h ⟨_, hX1 _ (br_t z (nm_e (nm_r (nI_1 j) (hX post hp))))⟩, fun post hp => br_f h ⟨_, hY1 _ _ _ (br_t z (nm_e (nm_r (nI_1 j) (hY post hp))))⟩⟩
    · obtain ⟨r, hX, hY⟩ := ih (j + 1) (by omega) x1
      exact ⟨r, fun post hp => br_f h ⟨_, hX1 _ (br_f z (nm_r (nI_1 j) (hX post hp)))⟩, fun post hp => br_f h ⟨_, hY1 _ _ _ (br_f z (nm_r (nI_1 j) (hY post hp)))⟩⟩
theorem sf_op1 (hc : c ≤ 12) (x : Int32) : ∀ n i : Nat, i + n = c → ∀ (post : Int32 → Prop) (J : Int32 → Int32 → Prop) (x1 : Int32), wY_open_49 post J x1 x 1 (nI c) d F L B W M V G → wY_open_15 post J x1 x (nI c) d F L B W M V G (n + 1) 1 (nI i) := by
  intro n
  induction n with
  | zero =>
    intro i hi post J x1 hp
    exact br_t (nI_le (by omega) (by omega)) hp
  | succ n ih =>
    intro i hi post J x1 hp
    obtain ⟨r1, hX1, hY1⟩ := sf_has (c := c) (d := d) (F := F) (L := L) (A := F) (B := B) (W := W) (M := M) (V := V) (G := G) i (by omega) x
    have hn := ih (i + 1) (by omega) post J x1 hp
    exact br_f (nI_ge (by omega) (by omega)) (br_f (nI_ge (b := 12) (by omega) (by decide)) (hY1 _ (br_c (fun _ => nm_r (nI_1 i) hn) (fun _ => nm_r (nI_1 i) hn))))
theorem sf_an (hc : c ≤ 12) (x : Int32) : ∀ n i : Nat, i + n = c → ∃ r : Int32, (∀ post : Int32 → Prop, post r → wX_inAnyRange_2 post x (nI c) d F L A (sf_cm W) (sf_sr W) M V G (n + 1) (nI i)) ∧ (∀ (post : Int32 → Prop) (J : Int32 → Int32 → Prop) (x1 : Int32), wY_open_49 post J x1 x r (nI c) d F L B W M V G → wY_open_15 post J x1 x (nI c) d F L B W M V G (n + 1) 0 (nI i)) := by
  intro n
  induction n with
  | zero =>
    intro i hi
    have h : nI c ≤ nI i := nI_le (by omega) (by omega)
    exact ⟨0, fun post hp => br_t h hp, fun post J x1 hp => br_t h hp⟩
  | succ n ih =>
    intro i hi
    have h : ¬ nI c ≤ nI i := nI_ge (by omega) (by omega)
    have h12 : ¬ (12 : Int32) ≤ nI i := nI_ge (b := 12) (by omega) (by decide)
    obtain ⟨r1, hX1, hY1⟩ := sf_has (c := c) (d := d) (F := F) (L := L) (A := A) (B := B) (W := W) (M := M) (V := V) (G := G) i (by omega) x
    by_cases z : r1 = 0
    · obtain ⟨r, hX, hY⟩ := ih (i + 1) (by omega)
      exact ⟨r, fun post hp => br_f h (hX1 _ (br_t z (nm_r (nI_1 i) (hX post hp)))), fun post J x1 hp => br_f h (br_f h12 (hY1 _ (br_t z (nm_r (nI_1 i) (hY post J x1 hp)))))⟩
    · exact ⟨1, fun post hp => br_f h (hX1 _ (br_f z hp)), fun post J x1 hp => br_f h (br_f h12 (hY1 _ (br_f z (nm_r (nI_1 i) (sf_op1 hc x n (i + 1) (by omega) post J x1 hp)))))⟩
theorem sf_opn (hc : c ≤ 12) : ∀ n j : Nat, j + n = 32 → ∀ x1 : Int32, ∃ r : Int32, (∀ post : Int32 → Prop, post r → wX_open_4 post (nI c) d F L A (sf_cm W) (sf_sr W) M V G (n + 1) x1 (nI j)) ∧ (∀ post : Int32 → Prop, post r → wY_open_4 post (nI c) d F L B W M V G (n + 1) x1 (nI j)) := by
  intro n
  induction n with
  | zero =>
    intro j hj x1
    have h : (32 : Int32) ≤ nI j := nI_le (a := 32) (by omega) (by omega)
    exact ⟨x1, fun post hp => br_t h hp, fun post hp => br_t h hp⟩
  | succ n ih =>
    intro j hj x1
    have h : ¬ (32 : Int32) ≤ nI j := nI_ge (b := 32) (by omega) (by decide)
    obtain ⟨r1, hX1, hY1⟩ := sf_an (d := d) (F := F) (L := L) (A := A) (B := B) (W := W) (M := M) (V := V) (G := G) hc (nI j) c 0 (by omega)
    rw [nI_0] at hX1 hY1
    by_cases z : r1 = 0
    · obtain ⟨r, hX, hY⟩ := ih (j + 1) (by omega) (x1 + 1)
      exact ⟨r, fun post hp => br_f h ⟨_, hX1 _ (br_t z (nm_e (nm_r (nI_1 j) (hX post hp))))⟩, fun post hp => br_f h ⟨_, hY1 _ _ _ (br_t z (nm_e (nm_r (nI_1 j) (hY post hp))))⟩⟩
    · obtain ⟨r, hX, hY⟩ := ih (j + 1) (by omega) x1
      exact ⟨r, fun post hp => br_f h ⟨_, hX1 _ (br_f z (nm_r (nI_1 j) (hX post hp)))⟩, fun post hp => br_f h ⟨_, hY1 _ _ _ (br_f z (nm_r (nI_1 j) (hY post hp)))⟩⟩
end
end
