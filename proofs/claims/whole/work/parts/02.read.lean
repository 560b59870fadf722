section
variable {c : Nat} {d : Int32} {F L A B W M V G : Nat → Int32}
def sf_okW (W : Nat → Int32) : Prop := ∀ j, ∃ w : Nat, w < 16 ∧ w % 8 ≠ 7 ∧ W j = nI w
def sf_okN (F : Nat → Int32) : Prop := ∀ j, ∃ f : Nat, f < 32 ∧ F j = nI f
def sf_agr (A B : Nat → Int32) : Prop := ∀ j, j ≠ 12 → B j = A j
theorem sf_bi (p : Prop) (a b : Int32) : ∃ r : Int32, ∀ post : Int32 → Prop, post r → (p → post a) ∧ (¬ p → post b) := by
  by_cases h : p
  · exact ⟨a, fun _ hp => br_t h hp⟩
  · exact ⟨b, fun _ hp => br_f h hp⟩
theorem sf_wf : ∀ w : Nat, w < 16 → w % 8 ≠ 7 → (nI w / 8) &&& 1 = nI w / 8 ∧ 0 ≤ (nI w / 8).toInt ∧ (nI w / 8).toInt < 2 ∧ (nI w - nI w / 8 * 8 = 0 ∨ nI w - nI w / 8 * 8 = 1 ∨ nI w - nI w / 8 * 8 = 2 ∨ nI w - nI w / 8 * 8 = 3 ∨ nI w - nI w / 8 * 8 = 4 ∨ nI w - nI w / 8 * 8 = 5 ∨ nI w - nI w / 8 * 8 = 6) := by
  decide +kernel
theorem sf_8 : ¬ (8 : Int32) = 0 := by decide
theorem sf_has (i : Nat) (hi : i < 14) (k : Int32) : ∃ r : Int32, (∀ post : Int32 → Prop, post r → wpX_inRange post (nI c, d, F, L, A, sf_cm W, sf_sr W, M, V, G) (nI i) k) ∧ (∀ post : Int32 → Prop, post r → wpY_has post (nI c, d, F, L, B, W, M, V, G) (nI i) k) := by
  have hv : vp_in (nI i) 14 := vp_in_nI hi (by decide)
  by_cases h1 : k < F (nI i).toNatClampNeg
  · exact ⟨0, fun _ hp => ⟨hv, br_t h1 hp⟩, fun _ hp => ⟨hv, br_t h1 hp⟩⟩
  · by_cases h2 : L (nI i).toNatClampNeg < k
    · exact ⟨0, fun _ hp => ⟨hv, br_f h1 ⟨hv, br_t h2 hp⟩⟩, fun _ hp => ⟨hv, br_f h1 ⟨hv, br_t h2 hp⟩⟩⟩
    · exact ⟨1, fun _ hp => ⟨hv, br_f h1 ⟨hv, br_f h2 hp⟩⟩, fun _ hp => ⟨hv, br_f h1 ⟨hv, br_f h2 hp⟩⟩⟩
theorem sf_met (hW : sf_okW W) (q : Nat) (hq : q < 28) {x y : Int32} (ex : x = nI q) (ey : y = nI q) : ∃ r : Int32, (∀ post : Int32 → Prop, post r → wpX_isMet post (nI c, d, F, L, A, sf_cm W, sf_sr W, M, V, G) x) ∧ (∀ post : Int32 → Prop, post r → wpY_met post (nI c, d, F, L, B, W, M, V, G) y) := by
  subst ex
  subst ey
  obtain ⟨w, hw, h7, ew⟩ := hW q
  obtain ⟨e1, e2, e3, e4⟩ := sf_wf w hw h7
  have hv : vp_in (nI q) 28 := vp_in_nI hq (by decide)
  have eq : (nI q).toNatClampNeg = q := nI_clamp (by omega)
  have eW : W (nI q).toNatClampNeg = nI w := by rw [eq]; exact ew
  have eS : sf_sr W (nI q).toNatClampNeg = nI w / 8 := by unfold sf_sr; rw [eW]
  have hs : vp_in (sf_sr W (nI q).toNatClampNeg) 2 := by rw [eS]; exact vp_in_iff.mpr ⟨e2, e3⟩
  have hs' : vp_in ((W (nI q).toNatClampNeg / 8) &&& 1) 2 := by rw [eW, e1]; exact vp_in_iff.mpr ⟨e2, e3⟩
  have ex : G ((W (nI q).toNatClampNeg / 8) &&& 1).toNatClampNeg &&& M (nI q).toNatClampNeg = G (sf_sr W (nI q).toNatClampNeg).toNatClampNeg &&& M (nI q).toNatClampNeg := by rw [eS, eW, e1]
  have eC : W (nI q).toNatClampNeg - W (nI q).toNatClampNeg / 8 * 8 = nI w - nI w / 8 * 8 := by rw [eW]
  generalize hx : G (sf_sr W (nI q).toNatClampNeg).toNatClampNeg &&& M (nI q).toNatClampNeg = x at ex
  rcases e4 with z | z | z | z | z | z | z
  · have hC : sf_cm W (nI q).toNatClampNeg = 0 := eC.trans z
    exact ⟨1, fun post hp => ⟨hv, hs, hv, nm_e ⟨hv, nm_e ⟨hv, nm_r hC (br_t (by decide) hp)⟩⟩⟩, fun post hp => ⟨hv, sf_8, nm_r hC (br_t rfl hp)⟩⟩
  · have hC : sf_cm W (nI q).toNatClampNeg = 1 := eC.trans z
    obtain ⟨r, hr⟩ := sf_bi (x = V (nI q).toNatClampNeg) 1 0
    exact ⟨r, fun post hp => ⟨hv, hs, hv, nm_r hx ⟨hv, nm_e ⟨hv, nm_r hC (br_f (by decide) (br_f (by decide) (br_t rfl (hr post hp))))⟩⟩⟩, fun post hp => ⟨hv, sf_8, nm_r hC (br_f (by decide) ⟨hv, sf_8, hs', hv, nm_r ex ⟨hv, nm_e (br_t rfl (hr post hp))⟩⟩)⟩⟩
  · have hC : sf_cm W (nI q).toNatClampNeg = 2 := eC.trans z
    obtain ⟨r, hr⟩ := sf_bi (x = V (nI q).toNatClampNeg) 0 1
    exact ⟨r, fun post hp => ⟨hv, hs, hv, nm_r hx ⟨hv, nm_e ⟨hv, nm_r hC (br_f (by decide) (br_f (by decide) (br_f (by decide) (br_t rfl (hr post hp)))))⟩⟩⟩, fun post hp => ⟨hv, sf_8, nm_r hC (br_f (by decide) ⟨hv, sf_8, hs', hv, nm_r ex ⟨hv, nm_e (br_f (by decide) (br_t rfl (hr post hp)))⟩⟩)⟩⟩
  · have hC : sf_cm W (nI q).toNatClampNeg = 3 := eC.trans z
    obtain ⟨r, hr⟩ := sf_bi (V (nI q).toNatClampNeg ≤ x) 0 1
    exact ⟨r, fun post hp => ⟨hv, hs, hv, nm_r hx ⟨hv, nm_e ⟨hv, nm_r hC (br_f (by decide) (br_f (by decide) (br_f (by decide) (br_f (by decide) (br_t rfl (hr post hp))))))⟩⟩⟩, fun post hp => ⟨hv, sf_8, nm_r hC (br_f (by decide) ⟨hv, sf_8, hs', hv, nm_r ex ⟨hv, nm_e (br_f (by decide) (br_f (by decide) (br_t rfl (hr post hp))))⟩⟩)⟩⟩
  · have hC : sf_cm W (nI q).toNatClampNeg = 4 := eC.trans z
    obtain ⟨r, hr⟩ := sf_bi (V (nI q).toNatClampNeg < x) 0 1
    exact ⟨r, fun post hp => ⟨hv, hs, hv, nm_r hx ⟨hv, nm_e ⟨hv, nm_r hC (br_f (by decide) (br_f (by decide) (br_f (by decide) (br_f (by decide) (br_f (by decide) (br_t rfl (hr post hp)))))))⟩⟩⟩, fun post hp => ⟨hv, sf_8, nm_r hC (br_f (by decide) ⟨hv, sf_8, hs', hv, nm_r ex ⟨hv, nm_e (br_f (by decide) (br_f (by decide) (br_f (by decide) (br_t rfl (hr post hp)))))⟩⟩)⟩⟩
  · have hC : sf_cm W (nI q).toNatClampNeg = 5 := eC.trans z
    obtain ⟨r, hr⟩ := sf_bi (x ≤ V (nI q).toNatClampNeg) 0 1
    exact ⟨r, fun post hp => ⟨hv, hs, hv, nm_r hx ⟨hv, nm_e ⟨hv, nm_r hC (br_f (by decide) (br_f (by decide) (br_f (by decide) (br_f (by decide) (br_f (by decide) (br_f (by decide) (br_t rfl (hr post hp))))))))⟩⟩⟩, fun post hp => ⟨hv, sf_8, nm_r hC (br_f (by decide) ⟨hv, sf_8, hs', hv, nm_r ex ⟨hv, nm_e (br_f (by decide) (br_f (by decide) (br_f (by decide) (br_f (by decide) (br_t rfl (hr post hp))))))⟩⟩)⟩⟩
  · have hC : sf_cm W (nI q).toNatClampNeg = 6 := eC.trans z
    obtain ⟨r, hr⟩ := sf_bi (x < V (nI q).toNatClampNeg) 0 1
    exact ⟨r, fun post hp => ⟨hv, hs, hv, nm_r hx ⟨hv, nm_e ⟨hv, nm_r hC (br_f (by decide) (br_f (by decide) (br_f (by decide) (br_f (by decide) (br_f (by decide) (br_f (by decide) (br_f (by decide) (br_t rfl (hr post hp)))))))))⟩⟩⟩, fun post hp => ⟨hv, sf_8, nm_r hC (br_f (by decide) ⟨hv, sf_8, hs', hv, nm_r ex ⟨hv, nm_e (br_f (by decide) (br_f (by decide) (br_f (by decide) (br_f (by decide) (br_f (by decide) (hr post hp))))))⟩⟩)⟩⟩
theorem sf_mat (hW : sf_okW W) (i : Nat) (hi : i < 12) (k : Int32) : ∃ r : Int32, (∀ post : Int32 → Prop, post r → wpX_matches post (nI c, d, F, L, A, sf_cm W, sf_sr W, M, V, G) (nI i) k) ∧ (∀ post : Int32 → Prop, post r → wpY_matches post (nI c, d, F, L, B, W, M, V, G) (nI i) k) := by
  obtain ⟨r1, hX1, hY1⟩ := sf_has (c := c) (d := d) (F := F) (L := L) (A := A) (B := B) (W := W) (M := M) (V := V) (G := G) i (by omega) k
  obtain ⟨r2, hX2, hY2⟩ := sf_met (c := c) (d := d) (F := F) (L := L) (A := A) (B := B) (W := W) (M := M) (V := V) (G := G) hW (2 * i) (by omega) (sf_ix i 0) (sf_iy0 i)
  obtain ⟨r3, hX3, hY3⟩ := sf_met (c := c) (d := d) (F := F) (L := L) (A := A) (B := B) (W := W) (M := M) (V := V) (G := G) hW (2 * i + 1) (by omega) (sf_ix i 1) (sf_iy i 1)
  unfold wpX_matches wpY_matches
  dsimp only
  by_cases z1 : r1 = 0
  · exact ⟨0, fun post hp => hX1 _ (br_t z1 hp), fun post hp => hY1 _ (br_t z1 hp)⟩
  · by_cases z2 : r2 = 0
    · exact ⟨0, fun post hp => hX1 _ (br_f z1 ⟨0 + 1, br_f (by decide) (hX2 _ (br_t z2 hp))⟩), fun post hp => hY1 _ (br_f z1 (hY2 _ (br_t z2 hp)))⟩
    · by_cases z3 : r3 = 0
      · exact ⟨0, fun post hp => hX1 _ (br_f z1 ⟨1 + 1, br_f (by decide) (hX2 _ (br_f z2 (nm_r (e' := 1) (by decide) (br_f (by decide) (hX3 _ (br_t z3 hp))))))⟩), fun post hp => hY1 _ (br_f z1 (hY2 _ (br_f z2 (hY3 _ (br_t z3 hp)))))⟩
      · exact ⟨1, fun post hp => hX1 _ (br_f z1 ⟨2 + 1, br_f (by decide) (hX2 _ (br_f z2 (nm_r (e' := 1) (by decide) (br_f (by decide) (hX3 _ (br_f z3 (nm_r (e' := 2) (by decide) (br_t (by decide) hp))))))))⟩), fun post hp => hY1 _ (br_f z1 (hY2 _ (br_f z2 (hY3 _ (br_f z3 hp)))))⟩
theorem sf_fm (hc : c ≤ 12) (hW : sf_okW W) (k : Int32) : ∀ n i : Nat, i + n = c → ∃ r : Int32, (r = -2 ∨ ∃ j : Nat, j < 12 ∧ r = nI j) ∧ (∀ post : Int32 → Prop, post r → wX_firstMatch_2 post k (nI c) d F L A (sf_cm W) (sf_sr W) M V G (n + 1) (nI i)) ∧ (∀ post : Int32 → Prop, post r → wY_firstMatch_2 post k (nI c) d F L B W M V G (n + 1) (nI i)) := by
  intro n
  induction n with
  | zero =>
    intro i hi
    have h : nI c ≤ nI i := nI_le (by omega) (by omega)
    exact ⟨-2, Or.inl rfl, fun post hp => br_t h hp, fun post hp => br_t h hp⟩
  | succ n ih =>
    intro i hi
    have h : ¬ nI c ≤ nI i := nI_ge (by omega) (by omega)
    have h12 : ¬ (12 : Int32) ≤ nI i := nI_ge (b := 12) (by omega) (by decide)
    obtain ⟨r1, hX1, hY1⟩ := sf_mat (c := c) (d := d) (F := F) (L := L) (A := A) (B := B) (W := W) (M := M) (V := V) (G := G) hW i (by omega) k
    by_cases z : r1 = 0
    · obtain ⟨r, hr, hX, hY⟩ := ih (i + 1) (by omega)
      exact ⟨r, hr, fun post hp => br_f h (hX1 _ (br_t z (nm_r (nI_1 i) (hX post hp)))), fun post hp => br_f h (br_f h12 (hY1 _ (br_t z (nm_r (nI_1 i) (hY post hp)))))⟩
    · exact ⟨nI i, Or.inr ⟨i, by omega, rfl⟩, fun post hp => br_f h (hX1 _ (br_f z hp)), fun post hp => br_f h (br_f h12 (hY1 _ (br_f z hp)))⟩
theorem sf_fst (hc : c ≤ 12) (hW : sf_okW W) (k : Int32) : ∃ r : Int32, (r = -2 ∨ ∃ j : Nat, j < 12 ∧ r = nI j) ∧ (∀ post : Int32 → Prop, post r → wpX_firstMatch post (nI c, d, F, L, A, sf_cm W, sf_sr W, M, V, G) k) ∧ (∀ post : Int32 → Prop, post r → wpY_firstMatch post (nI c, d, F, L, B, W, M, V, G) k) := by
  obtain ⟨r, hr, hX, hY⟩ := sf_fm (d := d) (F := F) (L := L) (A := A) (B := B) (M := M) (V := V) (G := G) hc hW k c 0 (by omega)
  rw [nI_0] at hX hY
  exact ⟨r, hr, fun post hp => ⟨_, hX post hp⟩, fun post hp => ⟨_, hY post hp⟩⟩
theorem sf_n2 {j : Nat} (hj : j < 12) : ¬ nI j = -2 := by
  intro e
  have h := nI_pos (n := j) (by omega)
  rw [e] at h
  exact h (by decide)
theorem sf_ver (hc : c ≤ 12) (hW : sf_okW W) (hA : sf_agr A B) (k : Int32) : ∃ r : Int32, (∀ post : Int32 → Prop, post r → wpX_verdict post (nI c, d, F, L, A, sf_cm W, sf_sr W, M, V, G) k) ∧ (∀ post : Int32 → Prop, post r → wpY_verdict post (nI c, d, F, L, B, W, M, V, G) k) := by
  obtain ⟨r, hr, hX, hY⟩ := sf_fst (d := d) (F := F) (L := L) (A := A) (B := B) (M := M) (V := V) (G := G) hc hW k
  unfold wpX_verdict wpY_verdict
  dsimp only
  rcases hr with e | ⟨j, hj, e⟩
  · subst e
    exact ⟨d, fun post hp => hX _ (br_t rfl hp), fun post hp => hY _ (br_f (by decide) hp)⟩
  · subst e
    have hv : vp_in (nI j) 14 := vp_in_nI (by omega) (by decide)
    have e : B (nI j).toNatClampNeg = A (nI j).toNatClampNeg := by
      rw [nI_clamp (by omega)]
      exact hA j (by omega)
    refine ⟨A (nI j).toNatClampNeg, fun post hp => hX _ (br_f (sf_n2 hj) ⟨hv, hp⟩), fun post hp => hY _ (br_t (nI_pos' (by omega)) ⟨hv, ?_⟩)⟩
    rw [e]
    exact hp
theorem sf_cw (hc : c ≤ 12) (hW : sf_okW W) (hA : sf_agr A B) (a : Int32) (l : Nat) (hl : l < 32) : ∀ n j : Nat, j + n = l + 1 → ∀ x : Int32, ∃ r : Int32, (∀ post : Int32 → Prop, post r → wX_countWith_40 post a (nI l) (nI c) d F L A (sf_cm W) (sf_sr W) M V G (n + 1) x (nI j)) ∧ (∀ post : Int32 → Prop, post r → wY_countWith_43 post a (nI l) (nI c) d F L B W M V G (n + 1) x (nI j)) := by
  intro n
  induction n with
  | zero =>
    intro j hj x
    have h : nI l < nI j := nI_lt (by omega) (by omega)
    exact ⟨x, fun post hp => br_t h hp, fun post hp => br_t h hp⟩
  | succ n ih =>
    intro j hj x
    have h : ¬ nI l < nI j := nI_nlt (by omega) (by omega)
    obtain ⟨r1, hX1, hY1⟩ := sf_ver (d := d) (F := F) (L := L) (M := M) (V := V) (G := G) hc hW hA (nI j)
    by_cases z : r1 = a
    · obtain ⟨r, hX, hY⟩ := ih (j + 1) (by omega) (x + 1)
      exact ⟨r, fun post hp => br_f h (hX1 _ (br_t z (nm_e (nm_r (nI_1 j) (hX post hp))))), fun post hp => br_f h (hY1 _ (br_t z (nm_e (nm_r (nI_1 j) (hY post hp)))))⟩
    · obtain ⟨r, hX, hY⟩ := ih (j + 1) (by omega) x
      exact ⟨r, fun post hp => br_f h (hX1 _ (br_f z (nm_r (nI_1 j) (hX post hp)))), fun post hp => br_f h (hY1 _ (br_f z (nm_r (nI_1 j) (hY post hp))))⟩
theorem sf_nw (hc : c ≤ 12) (hW : sf_okW W) (hA : sf_agr A B) (a : Int32) : ∀ n j : Nat, j + n = 32 → ∃ r : Int32, (∀ post : Int32 → Prop, post r → wX_nextWith_21 post a (nI c) d F L A (sf_cm W) (sf_sr W) M V G (n + 1) (nI j)) ∧ (∀ post : Int32 → Prop, post r → wY_nextWith_23 post a (nI c) d F L B W M V G (n + 1) (nI j)) := by
  intro n
  induction n with
  | zero =>
    intro j hj
    have h : (32 : Int32) ≤ nI j := nI_le (a := 32) (by omega) (by omega)
    exact ⟨-3, fun post hp => br_t h hp, fun post hp => br_t h hp⟩
  | succ n ih =>
    intro j hj
    have h : ¬ (32 : Int32) ≤ nI j := nI_ge (b := 32) (by omega) (by decide)
    obtain ⟨r1, hX1, hY1⟩ := sf_ver (d := d) (F := F) (L := L) (M := M) (V := V) (G := G) hc hW hA (nI j)
    by_cases z : r1 = a
    · exact ⟨nI j, fun post hp => br_f h (hX1 _ (br_t z hp)), fun post hp => br_f h (hY1 _ (br_t z hp))⟩
    · obtain ⟨r, hX, hY⟩ := ih (j + 1) (by omega)
      exact ⟨r, fun post hp => br_f h (hX1 _ (br_f z (nm_r (nI_1 j) (hX post hp)))), fun post hp => br_f h (hY1 _ (br_f z (nm_r (nI_1 j) (hY post hp))))⟩
theorem sf_mg (hc : c ≤ 12) (hW : sf_okW W) (k : Int32) : ∀ n i : Nat, i + n = c → ∀ x : Int32, ∃ r : Int32, (∀ post : Int32 → Prop, post r → wX_matching_13 post k (nI c) d F L A (sf_cm W) (sf_sr W) M V G (n + 1) x (nI i)) ∧ (∀ post : Int32 → Prop, post r → wY_matching_14 post k (nI c) d F L B W M V G (n + 1) x (nI i)) := by
  intro n
  induction n with
  | zero =>
    intro i hi x
    have h : nI c ≤ nI i := nI_le (by omega) (by omega)
    exact ⟨x, fun post hp => br_t h hp, fun post hp => br_t h hp⟩
  | succ n ih =>
    intro i hi x
    have h : ¬ nI c ≤ nI i := nI_ge (by omega) (by omega)
    have h12 : ¬ (12 : Int32) ≤ nI i := nI_ge (b := 12) (by omega) (by decide)
    obtain ⟨r1, hX1, hY1⟩ := sf_mat (c := c) (d := d) (F := F) (L := L) (A := A) (B := B) (W := W) (M := M) (V := V) (G := G) hW i (by omega) k
    by_cases z : r1 = 0
    · obtain ⟨r, hX, hY⟩ := ih (i + 1) (by omega) x
      exact ⟨r, fun post hp => br_f h (hX1 _ (br_t z (nm_r (nI_1 i) (hX post hp)))), fun post hp => br_f h (br_f h12 (hY1 _ (br_t z (nm_r (nI_1 i) (hY post hp)))))⟩
    · obtain ⟨r, hX, hY⟩ := ih (i + 1) (by omega) (x + 1)
      exact ⟨r, fun post hp => br_f h (hX1 _ (br_f z (nm_e (nm_r (nI_1 i) (hX post hp))))), fun post hp => br_f h (br_f h12 (hY1 _ (br_f z (nm_e (nm_r (nI_1 i) (hY post hp))))))⟩
end
