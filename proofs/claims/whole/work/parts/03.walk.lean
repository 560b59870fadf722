section
variable {c : Nat} {d : Int32} {F L A B W M V G : Nat → Int32}
theorem sf_unc (i : Nat) (hi : i < 14) : (¬ sf_cm W (2 * i) = 0 → ∀ post : Int32 → Prop, post 0 → wpX_isUnconditional post (nI c, d, F, L, A, sf_cm W, sf_sr W, M, V, G) (nI i)) ∧ (sf_cm W (2 * i) = 0 → ¬ sf_cm W (2 * i + 1) = 0 → ∀ post : Int32 → Prop, post 0 → wpX_isUnconditional post (nI c, d, F, L, A, sf_cm W, sf_sr W, M, V, G) (nI i)) ∧ (sf_cm W (2 * i) = 0 → sf_cm W (2 * i + 1) = 0 → ∀ post : Int32 → Prop, post 1 → wpX_isUnconditional post (nI c, d, F, L, A, sf_cm W, sf_sr W, M, V, G) (nI i)) := by
  have v0 : vp_in (nI i * 2 + 0) 28 := sf_in (sf_ix i 0) (by omega) (by decide)
  have v1 : vp_in (nI i * 2 + 1) 28 := sf_in (sf_ix i 1) (by omega) (by decide)
  have e0 : (nI i * 2 + 0).toNatClampNeg = 2 * i := (congrArg Int32.toNatClampNeg (sf_ix i 0)).trans (nI_clamp (by omega))
  have e1 : (nI i * 2 + 1).toNatClampNeg = 2 * i + 1 := (congrArg Int32.toNatClampNeg (sf_ix i 1)).trans (nI_clamp (by omega))
  rw [← e1, ← e0]
  exact ⟨fun z post hp => ⟨0 + 1, br_f (by decide) ⟨v0, br_f z hp⟩⟩,
    fun z z2 post hp => ⟨1 + 1, br_f (by decide) ⟨v0, br_t z (nm_r (e' := 1) (by decide) (br_f (by decide) ⟨v1, br_f z2 hp⟩))⟩⟩,
    fun z z2 post hp => ⟨2 + 1, br_f (by decide) ⟨v0, br_t z (nm_r (e' := 1) (by decide) (br_f (by decide) ⟨v1, br_t z2 (nm_r (e' := 2) (by decide) (br_t (by decide) hp))⟩))⟩⟩⟩
theorem sf_sh (p : Nat) (hp12 : p ≤ 12) (k : Int32) : ∀ n i : Nat, i + n = p → ∃ r : Int32, (∀ post : Int32 → Prop, post r → wX_alwaysMatchedBefore_2 post (nI p) k (nI c) d F L A (sf_cm W) (sf_sr W) M V G (n + 1) (nI i)) ∧ (∀ post : Int32 → Prop, post r → wY_shadowed_2 post (nI p) k (nI c) d F L B W M V G (n + 1) (nI i)) := by
  intro n
  induction n with
  | zero =>
    intro i hi
    have h : nI p ≤ nI i := nI_le (by omega) (by omega)
    exact ⟨0, fun post hp => br_t h hp, fun post hp => br_t h hp⟩
  | succ n ih =>
    intro i hi
    have h : ¬ nI p ≤ nI i := nI_ge (by omega) (by omega)
    have h12 : ¬ (12 : Int32) ≤ nI i := nI_ge (b := 12) (by omega) (by decide)
    have v0 : vp_in (2 * nI i) 28 := sf_in (sf_iy0 i) (by omega) (by decide)
    have v1 : vp_in (2 * nI i + 1) 28 := sf_in (sf_iy i 1) (by omega) (by decide)
    have e0 : (2 * nI i).toNatClampNeg = 2 * i := (congrArg Int32.toNatClampNeg (sf_iy0 i)).trans (nI_clamp (by omega))
    have e1 : (2 * nI i + 1).toNatClampNeg = 2 * i + 1 := (congrArg Int32.toNatClampNeg (sf_iy i 1)).trans (nI_clamp (by omega))
    obtain ⟨r1, hX1, hY1⟩ := sf_has (c := c) (d := d) (F := F) (L := L) (A := A) (B := B) (W := W) (M := M) (V := V) (G := G) i (by omega) k
    obtain ⟨r, hX, hY⟩ := ih (i + 1) (by omega)
    obtain ⟨u1, u2, u3⟩ := sf_unc (c := c) (d := d) (F := F) (L := L) (A := A) (W := W) (M := M) (V := V) (G := G) i (by omega)
    rw [← e1] at u2 u3
    rw [← e0] at u1 u2 u3
    by_cases z : r1 = 0
    · exact ⟨r, fun post hp => br_f h (hX1 _ (br_t z (nm_r (nI_1 i) (hX post hp)))), fun post hp => br_f h (br_f h12 (hY1 _ (br_t z (nm_r (nI_1 i) (hY post hp)))))⟩
    · by_cases z1 : sf_cm W (2 * nI i).toNatClampNeg = 0
      · by_cases z2 : sf_cm W (2 * nI i + 1).toNatClampNeg = 0
        · exact ⟨1, fun post hp => br_f h (hX1 _ (br_f z (u3 z1 z2 _ (br_f (by decide) hp)))), fun post hp => br_f h (br_f h12 (hY1 _ (br_f z ⟨v0, sf_8, br_t z1 ⟨v1, sf_8, br_t z2 hp⟩⟩)))⟩
        · exact ⟨r, fun post hp => br_f h (hX1 _ (br_f z (u2 z1 z2 _ (br_t rfl (nm_r (nI_1 i) (hX post hp)))))), fun post hp => br_f h (br_f h12 (hY1 _ (br_f z ⟨v0, sf_8, br_t z1 ⟨v1, sf_8, br_f z2 (nm_r (nI_1 i) (hY post hp))⟩⟩)))⟩
      · exact ⟨r, fun post hp => br_f h (hX1 _ (br_f z (u1 z1 _ (br_t rfl (nm_r (nI_1 i) (hX post hp)))))), fun post hp => br_f h (br_f h12 (hY1 _ (br_f z ⟨v0, sf_8, br_f z1 (nm_r (nI_1 i) (hY post hp))⟩)))⟩
theorem sf_shd (p : Nat) (hp12 : p ≤ 12) (k : Int32) : ∃ r : Int32, (∀ post : Int32 → Prop, post r → wpX_alwaysMatchedBefore post (nI c, d, F, L, A, sf_cm W, sf_sr W, M, V, G) (nI p) k) ∧ (∀ post : Int32 → Prop, post r → wpY_shadowed post (nI c, d, F, L, B, W, M, V, G) (nI p) k) := by
  obtain ⟨r, hX, hY⟩ := sf_sh (c := c) (d := d) (F := F) (L := L) (A := A) (B := B) (W := W) (M := M) (V := V) (G := G) p hp12 k p 0 (by omega)
  rw [nI_0] at hX hY
  exact ⟨r, fun post hp => ⟨_, hX post hp⟩, fun post hp => ⟨_, hY post hp⟩⟩
theorem sf_hid (hL : sf_okN L) (p : Nat) (hp12 : p < 12) : ∀ n j : Nat, 32 = j + n → ∃ r : Int32, (∀ post : Int32 → Prop, post r → wX_hidden_17 post (nI p) (nI c) d F L A (sf_cm W) (sf_sr W) M V G (n + 1) (nI j)) ∧ (∀ post : Int32 → Prop, post r → wY_hidden_17 post (nI p) (nI c) d F L B W M V G (n + 1) (nI j)) := by
  obtain ⟨l, hl, el⟩ := hL p
  have hv : vp_in (nI p) 14 := vp_in_nI (by omega) (by decide)
  have eL : L (nI p).toNatClampNeg = nI l := by rw [nI_clamp (by omega)]; exact el
  intro n
  induction n with
  | zero =>
    intro j hj
    have h : L (nI p).toNatClampNeg < nI j := by rw [eL]; exact nI_lt (by omega) (by omega)
    exact ⟨1, fun post hp => ⟨hv, br_t h hp⟩, fun post hp => ⟨hv, br_t h hp⟩⟩
  | succ n ih =>
    intro j hj
    by_cases h : L (nI p).toNatClampNeg < nI j
    · exact ⟨1, fun post hp => ⟨hv, br_t h hp⟩, fun post hp => ⟨hv, br_t h hp⟩⟩
    · have h32 : ¬ (32 : Int32) ≤ nI j := nI_ge (b := 32) (by omega) (by decide)
      obtain ⟨r1, hX1, hY1⟩ := sf_shd (c := c) (d := d) (F := F) (L := L) (A := A) (B := B) (W := W) (M := M) (V := V) (G := G) p (by omega) (nI j)
      by_cases z : r1 = 0
      · exact ⟨0, fun post hp => ⟨hv, br_f h (hX1 _ (br_t z hp))⟩, fun post hp => ⟨hv, br_f h (br_f h32 (hY1 _ (br_t z hp)))⟩⟩
      · obtain ⟨r, hX, hY⟩ := ih (j + 1) (by omega)
        exact ⟨r, fun post hp => ⟨hv, br_f h (hX1 _ (br_f z (nm_r (nI_1 j) (hX post hp))))⟩, fun post hp => ⟨hv, br_f h (br_f h32 (hY1 _ (br_f z (nm_r (nI_1 j) (hY post hp)))))⟩⟩
theorem sf_st0 (hc : c ≤ 12) (x : Int32) : ∀ n i : Nat, i + n = c → ∀ (post : Int32 → Prop) (J : Int32 → Int32 → Prop) (x1 : Int32), wY_stretches_58 post J x1 x 0 (nI c) d F L B W M V G → wY_stretches_15 post J x1 x (nI c) d F L B W M V G (n + 1) 0 (nI i) := by
  intro n
  induction n with
  | zero =>
    intro i hi post J x1 hp
    exact br_t (nI_le (by omega) (by omega)) hp
  | succ n ih =>
    intro i hi post J x1 hp
    obtain ⟨r1, hX1, hY1⟩ := sf_has (c := c) (d := d) (F := F) (L := L) (A := F) (B := B) (W := W) (M := M) (V := V) (G := G) i (by omega) x
    obtain ⟨r2, hX2, hY2⟩ := sf_has (c := c) (d := d) (F := F) (L := L) (A := F) (B := B) (W := W) (M := M) (V := V) (G := G) i (by omega) (x - 1)
    have hn := ih (i + 1) (by omega) post J x1 hp
    exact br_f (nI_ge (by omega) (by omega)) (br_f (nI_ge (b := 12) (by omega) (by decide)) (hY1 _ (hY2 _ (br_c (fun _ => nm_r (nI_1 i) hn) (fun _ => nm_r (nI_1 i) hn)))))
theorem sf_sm (hc : c ≤ 12) (x : Int32) : ∀ n i : Nat, i + n = c → ∃ r : Int32, (∀ post : Int32 → Prop, post r → wX_sameRulesAsBelow_2 post x (nI c) d F L A (sf_cm W) (sf_sr W) M V G (n + 1) (nI i)) ∧ (∀ (post : Int32 → Prop) (J : Int32 → Int32 → Prop) (x1 : Int32), wY_stretches_58 post J x1 x r (nI c) d F L B W M V G → wY_stretches_15 post J x1 x (nI c) d F L B W M V G (n + 1) 1 (nI i)) := by
  intro n
  induction n with
  | zero =>
    intro i hi
    have h : nI c ≤ nI i := nI_le (by omega) (by omega)
    exact ⟨1, fun post hp => br_t h hp, fun post J x1 hp => br_t h hp⟩
  | succ n ih =>
    intro i hi
    have h : ¬ nI c ≤ nI i := nI_ge (by omega) (by omega)
    have h12 : ¬ (12 : Int32) ≤ nI i := nI_ge (b := 12) (by omega) (by decide)
    obtain ⟨r1, hX1, hY1⟩ := sf_has (c := c) (d := d) (F := F) (L := L) (A := A) (B := B) (W := W) (M := M) (V := V) (G := G) i (by omega) x
    obtain ⟨r2, hX2, hY2⟩ := sf_has (c := c) (d := d) (F := F) (L := L) (A := A) (B := B) (W := W) (M := M) (V := V) (G := G) i (by omega) (x - 1)
    by_cases z : r1 = r2
    · obtain ⟨r, hX, hY⟩ := ih (i + 1) (by omega)
      exact ⟨r, fun post hp => br_f h (hX1 _ (hX2 _ (br_t z (nm_r (nI_1 i) (hX post hp))))), fun post J x1 hp => br_f h (br_f h12 (hY1 _ (hY2 _ (br_t z (nm_r (nI_1 i) (hY post J x1 hp))))))⟩
    · exact ⟨0, fun post hp => br_f h (hX1 _ (hX2 _ (br_f z hp))), fun post J x1 hp => br_f h (br_f h12 (hY1 _ (hY2 _ (br_f z (nm_r (nI_1 i) (sf_st0 hc x n (i + 1) (by omega) post J x1 hp))))))⟩
theorem sf_str (hc : c ≤ 12) : ∀ n j : Nat, j + n = 32 → ∀ x1 : Int32, ∃ r : Int32, (∀ post : Int32 → Prop, post r → wX_stretches_4 post (nI c) d F L A (sf_cm W) (sf_sr W) M V G (n + 1) x1 (nI j)) ∧ (∀ post : Int32 → Prop, post r → wY_stretches_4 post (nI c) d F L B W M V G (n + 1) x1 (nI j)) := by
  intro n
  induction n with
  | zero =>
    intro j hj x1
    have h : (32 : Int32) ≤ nI j := nI_le (a := 32) (by omega) (by omega)
    exact ⟨x1, fun post hp => br_t h hp, fun post hp => br_t h hp⟩
  | succ n ih =>
    intro j hj x1
    have h : ¬ (32 : Int32) ≤ nI j := nI_ge (b := 32) (by omega) (by decide)
    obtain ⟨r1, hX1, hY1⟩ := sf_sm (d := d) (F := F) (L := L) (A := A) (B := B) (W := W) (M := M) (V := V) (G := G) hc (nI j) c 0 (by omega)
    rw [nI_0] at hX1 hY1
    by_cases z : r1 = 0
    · obtain ⟨r, hX, hY⟩ := ih (j + 1) (by omega) (x1 + 1)
      exact ⟨r, fun post hp => br_f h ⟨_, hX1 _ (br_t z (nm_e (nm_r (nI_1 j) (hX post hp))))⟩, fun post hp => br_f h ⟨_, hY1 _ _ _ (br_t z (nm_e (nm_r (nI_1 j) (hY post hp))))⟩⟩
    · obtain ⟨r, hX, hY⟩ := ih (j + 1) (by omega) x1
      exact ⟨r, fun post hp => br_f h ⟨_, hX1 _ (br_f z (nm_r (nI_1 j) (hX post hp)))⟩, fun post hp => br_f h ⟨_, hY1 _ _ _ (br_f z (nm_r (nI_1 j) (hY post hp)))⟩⟩
theorem sf_op1 (hc : c ≤ 12) (x : Int32) : ∀ n i : Nat, i + n = c → ∀ (post : Int32 → Prop) (J : Int32 → Int32 → Prop) (x1 : Int32), wY_open_49 post J x1 x 1 (nI c) d F L B W M V G → wY_open_15 post J x1 x (nI c) d F L B W M V G (n + 1) 1 (nI i) := by
  intro n
  induction n with
  | zero =>
    intro i hi post J x1 hp
    exact br_t (nI_le (by omega) (by omega)) hp
  | succ n ih =>
    intro i hi post J x1 hp
    obtain ⟨r1, hX1, hY1⟩ := sf_has (c := c) (d := d) (F := F) (L := L) (A := F) (B := B) (W := W) (M := M) (V := V) (G := G) i (by omega) x
    have hn := ih (i + 1) (by omega) post J x1 hp
    exact br_f (nI_ge (by omega) (by omega)) (br_f (nI_ge (b := 12) (by omega) (by decide)) (hY1 _ (br_c (fun _ => nm_r (nI_1 i) hn) (fun _ => nm_r (nI_1 i) hn))))
theorem sf_an (hc : c ≤ 12) (x : Int32) : ∀ n i : Nat, i + n = c → ∃ r : Int32, (∀ post : Int32 → Prop, post r → wX_inAnyRange_2 post x (nI c) d F L A (sf_cm W) (sf_sr W) M V G (n + 1) (nI i)) ∧ (∀ (post : Int32 → Prop) (J : Int32 → Int32 → Prop) (x1 : Int32), wY_open_49 post J x1 x r (nI c) d F L B W M V G → wY_open_15 post J x1 x (nI c) d F L B W M V G (n + 1) 0 (nI i)) := by
  intro n
  induction n with
  | zero =>
    intro i hi
    have h : nI c ≤ nI i := nI_le (by omega) (by omega)
    exact ⟨0, fun post hp => br_t h hp, fun post J x1 hp => br_t h hp⟩
  | succ n ih =>
    intro i hi
    have h : ¬ nI c ≤ nI i := nI_ge (by omega) (by omega)
    have h12 : ¬ (12 : Int32) ≤ nI i := nI_ge (b := 12) (by omega) (by decide)
    obtain ⟨r1, hX1, hY1⟩ := sf_has (c := c) (d := d) (F := F) (L := L) (A := A) (B := B) (W := W) (M := M) (V := V) (G := G) i (by omega) x
    by_cases z : r1 = 0
    · obtain ⟨r, hX, hY⟩ := ih (i + 1) (by omega)
      exact ⟨r, fun post hp => br_f h (hX1 _ (br_t z (nm_r (nI_1 i) (hX post hp)))), fun post J x1 hp => br_f h (br_f h12 (hY1 _ (br_t z (nm_r (nI_1 i) (hY post J x1 hp)))))⟩
    · exact ⟨1, fun post hp => br_f h (hX1 _ (br_f z hp)), fun post J x1 hp => br_f h (br_f h12 (hY1 _ (br_f z (nm_r (nI_1 i) (sf_op1 hc x n (i + 1) (by omega) post J x1 hp)))))⟩
theorem sf_opn (hc : c ≤ 12) : ∀ n j : Nat, j + n = 32 → ∀ x1 : Int32, ∃ r : Int32, (∀ post : Int32 → Prop, post r → wX_open_4 post (nI c) d F L A (sf_cm W) (sf_sr W) M V G (n + 1) x1 (nI j)) ∧ (∀ post : Int32 → Prop, post r → wY_open_4 post (nI c) d F L B W M V G (n + 1) x1 (nI j)) := by
  intro n
  induction n with
  | zero =>
    intro j hj x1
    have h : (32 : Int32) ≤ nI j := nI_le (a := 32) (by omega) (by omega)
    exact ⟨x1, fun post hp => br_t h hp, fun post hp => br_t h hp⟩
  | succ n ih =>
    intro j hj x1
    have h : ¬ (32 : Int32) ≤ nI j := nI_ge (b := 32) (by omega) (by decide)
    obtain ⟨r1, hX1, hY1⟩ := sf_an (d := d) (F := F) (L := L) (A := A) (B := B) (W := W) (M := M) (V := V) (G := G) hc (nI j) c 0 (by omega)
    rw [nI_0] at hX1 hY1
    by_cases z : r1 = 0
    · obtain ⟨r, hX, hY⟩ := ih (j + 1) (by omega) (x1 + 1)
      exact ⟨r, fun post hp => br_f h ⟨_, hX1 _ (br_t z (nm_e (nm_r (nI_1 j) (hX post hp))))⟩, fun post hp => br_f h ⟨_, hY1 _ _ _ (br_t z (nm_e (nm_r (nI_1 j) (hY post hp))))⟩⟩
    · obtain ⟨r, hX, hY⟩ := ih (j + 1) (by omega) x1
      exact ⟨r, fun post hp => br_f h ⟨_, hX1 _ (br_f z (nm_r (nI_1 j) (hX post hp)))⟩, fun post hp => br_f h ⟨_, hY1 _ _ _ (br_f z (nm_r (nI_1 j) (hY post hp)))⟩⟩
end
