section
variable {c : Nat} {d : Int32} {F L A B W M V G : Nat → Int32}
/-- the same map of places on both sides keeps the relation, if row 12 alone goes to row 12 -/
theorem sf_map {k : Nat} (σ τ : Nat → Nat) (h12 : ∀ j, σ j = 12 ↔ j = 12) (hc : c ≤ 12) (hF : sf_okN F) (hL : sf_okN L) (hW : sf_okW W) (hA : sf_agr A B) : i_Rel k (nI c, d, fun j => F (σ j), fun j => L (σ j), fun j => A (σ j), fun j => sf_cm W (τ j), fun j => sf_sr W (τ j), fun j => M (τ j), fun j => V (τ j), G) (nI c, d, fun j => F (σ j), fun j => L (σ j), fun j => B (σ j), fun j => W (τ j), fun j => M (τ j), fun j => V (τ j), G) :=
  ⟨c, d, fun j => F (σ j), fun j => L (σ j), fun j => A (σ j), fun j => B (σ j), fun j => W (τ j), fun j => M (τ j), fun j => V (τ j), G, hc, rfl, rfl, fun j => hF (σ j), fun j => hL (σ j), fun j => hW (τ j), fun j hj => hA (σ j) (fun z => hj ((h12 j).mp z))⟩
end
theorem i_vc_change {k : Nat} {u : SX} {v : SY} (I : i_Rel k u v) (hk : k + 5 ≤ 2560) (v1 : Int32) (v2 : Int32) : wpX_change (fun r u' => wpY_change (fun r' v' => r' = r ∧ i_Rel (k + 5) u' v') v v1 v2) u v1 v2 := by
  obtain ⟨c, d, F, L, A, B, W, M, V, G, hc, rfl, rfl, hF, hL, hW, hA⟩ := I
  have R : i_Rel (k + 5) (nI c, d, F, L, A, sf_cm W, sf_sr W, M, V, G) (nI c, d, F, L, B, W, M, V, G) := sf_mk hc hF hL hW hA
  unfold wpX_change wpY_change
  dsimp only
  rcases sf_rul (d := d) (F := F) (L := L) (A := A) (B := B) (W := W) (M := M) (V := V) (G := G) hc v1 with ⟨x1, y1⟩ | ⟨p, h1, rfl, x1, y1⟩
  · exact x1 _ (br_t rfl (y1 _ (br_f (by decide) ⟨rfl, R⟩)))
  · rcases sf_act v2 with ⟨x2, y2⟩ | ⟨a, h2, rfl, x2, y2⟩
    · exact x1 _ (br_f (by decide) (x2 _ (br_t rfl (y1 _ (br_t rfl (y2 _ _ (br_f (by decide) ⟨rfl, R⟩)))))))
    · have hv : vp_in (nI p) 14 := vp_in_nI (by omega) (by decide)
      have e : B (nI p).toNatClampNeg = A (nI p).toNatClampNeg := by
        rw [nI_clamp (by omega)]
        exact hA p (by omega)
      refine x1 _ (br_f (by decide) (x2 _ (br_f (by decide) ⟨hv, nm_e ⟨hv, nm_e (y1 _ (br_t rfl (y2 _ _ (br_t rfl ⟨hv, nm_r e ⟨hv, nm_e ⟨rfl, sf_mk hc hF hL hW ?_⟩⟩⟩))))⟩⟩)))
      intro j hj
      by_cases z : j = (nI p).toNatClampNeg
      · rw [z, pk_us, pk_us]
      · rw [pk_un z, pk_un z]; exact hA j hj
theorem i_vc_remove {k : Nat} {u : SX} {v : SY} (I : i_Rel k u v) (hk : k + 5 ≤ 2560) (v1 : Int32) : wpX_remove (fun r u' => wpY_remove (fun r' v' => r' = r ∧ i_Rel (k + 5) u' v') v v1) u v1 := by
  obtain ⟨c, d, F, L, A, B, W, M, V, G, hc, rfl, rfl, hF, hL, hW, hA⟩ := I
  have R : i_Rel (k + 5) (nI c, d, F, L, A, sf_cm W, sf_sr W, M, V, G) (nI c, d, F, L, B, W, M, V, G) := sf_mk hc hF hL hW hA
  unfold wpX_remove wpY_remove
  dsimp only
  rcases sf_rul (d := d) (F := F) (L := L) (A := A) (B := B) (W := W) (M := M) (V := V) (G := G) hc v1 with ⟨x1, y1⟩ | ⟨p, h1, rfl, x1, y1⟩
  · exact x1 _ (br_t rfl (y1 _ (br_f (by decide) ⟨rfl, R⟩)))
  · obtain ⟨b, rfl⟩ : ∃ b, c = b + 1 := ⟨c - 1, by omega⟩
    have hv : vp_in (nI p) 14 := vp_in_nI (by omega) (by decide)
    have e : B (nI p).toNatClampNeg = A (nI p).toNatClampNeg := by
      rw [nI_clamp (by omega)]
      exact hA p (by omega)
    obtain ⟨σ, τ, h12, hX, hY⟩ := sf_dn b (by omega) (b - p) p (by omega)
    refine x1 _ (br_f (by decide) ⟨hv, nm_e (nm_r (nI_pred b) ⟨_, hX _ d F L A (sf_cm W) (sf_sr W) M V G ?_⟩)⟩)
    dsimp only
    refine y1 _ (br_t rfl ⟨hv, nm_r e ⟨_, hY _ d F L B W M V G ?_⟩⟩)
    exact ⟨rfl, sf_map σ τ h12 (by omega) hF hL hW hA⟩
theorem i_vc_put {k : Nat} {u : SX} {v : SY} (I : i_Rel k u v) (hk : k + 5 ≤ 2560) (v1 : Int32) (v2 : Int32) : wpX_put (fun r u' => wpY_put (fun r' v' => r' = r ∧ i_Rel (k + 5) u' v') v v1 v2) u v1 v2 := by
  obtain ⟨c, d, F, L, A, B, W, M, V, G, hc, rfl, rfl, hF, hL, hW, hA⟩ := I
  have R : i_Rel (k + 5) (nI c, d, F, L, A, sf_cm W, sf_sr W, M, V, G) (nI c, d, F, L, B, W, M, V, G) := sf_mk hc hF hL hW hA
  unfold wpX_put wpY_put
  dsimp only
  by_cases h0 : v1 < 0
  · exact br_t h0 (br_t h0 ⟨rfl, R⟩)
  · obtain ⟨p, hp, rfl⟩ := nI_of h0
    by_cases h : p ≤ c
    · have h' : nI p ≤ nI c := nI_le h (by omega)
      rcases sf_act v2 with ⟨x2, y2⟩ | ⟨a, h2, rfl, x2, y2⟩
      · exact br_f h0 (br_t h' (x2 _ (br_t rfl (br_f h0 (br_t h' (y2 _ _ (br_f (by decide) ⟨rfl, R⟩)))))))
      · by_cases h12 : c < 12
        · have g12 : nI c < 12 := nI_lt (b := 12) h12 (by decide)
          obtain ⟨q, rfl⟩ : ∃ q, c = p + q := ⟨c - p, by omega⟩
          obtain ⟨σ, τ, hs, hX, hY⟩ := sf_up p q (by omega)
          have hv : vp_in (nI p) 14 := vp_in_nI (by omega) (by decide)
          refine br_f h0 (br_t h' (x2 _ (br_f (by decide) (br_t g12 ⟨_, hX _ _ d F L A (sf_cm W) (sf_sr W) M V G ?_⟩))))
          refine sf_cpX 12 p (by decide) (by omega) rfl rfl ?_
          refine ⟨hv, nm_e ?_⟩
          refine br_f h0 (br_t h' (y2 _ _ (br_t rfl (br_t g12 (nm_e ⟨_, hY _ 12 _ d F L _ W M V G ?_⟩)))))
          refine sf_cpY 12 p (by decide) (by omega) rfl rfl ?_
          refine nm_e ⟨rfl, ?_⟩
          refine ⟨p + q + 1, d, fun j => F (σ (sf_s1 12 p j)), fun j => L (σ (sf_s1 12 p j)), _, _, fun j => W (τ (sf_s2 12 p j)), fun j => M (τ (sf_s2 12 p j)), fun j => V (τ (sf_s2 12 p j)), G, by omega, by rw [nI_1]; rfl, by rw [nI_1], fun j => hF _, fun j => hL _, fun j => hW _, ?_⟩
          intro j hj
          have e12 : σ 12 = 12 := (hs 12).mpr rfl
          rw [nI_clamp (by omega)]
          dsimp only
          by_cases z : j = p
          · rw [z, pk_us, show sf_s1 12 p p = 12 from if_pos rfl, e12, pk_us]
          · rw [pk_un z, show sf_s1 12 p j = j from if_neg z]
            have z2 : ¬ σ j = 12 := fun y => hj ((hs j).mp y)
            rw [pk_un z2]
            exact hA _ z2
        · have g12 : ¬ nI c < 12 := nI_nlt (b := 12) (by omega) (by omega)
          exact br_f h0 (br_t h' (x2 _ (br_f (by decide) (br_f g12 (br_f h0 (br_t h' (y2 _ _ (br_t rfl (br_f g12 ⟨rfl, R⟩)))))))))
    · have h' : ¬ nI p ≤ nI c := nI_ge (by omega) hp
      exact br_f h0 (br_f h' (br_f h0 (br_f h' ⟨rfl, R⟩)))
theorem i_vc_move {k : Nat} {u : SX} {v : SY} (I : i_Rel k u v) (hk : k + 5 ≤ 2560) (v1 : Int32) (v2 : Int32) : wpX_move (fun r u' => wpY_move (fun r' v' => r' = r ∧ i_Rel (k + 5) u' v') v v1 v2) u v1 v2 := by
  obtain ⟨c, d, F, L, A, B, W, M, V, G, hc, rfl, rfl, hF, hL, hW, hA⟩ := I
  have R : i_Rel (k + 5) (nI c, d, F, L, A, sf_cm W, sf_sr W, M, V, G) (nI c, d, F, L, B, W, M, V, G) := sf_mk hc hF hL hW hA
  unfold wpX_move wpY_move
  dsimp only
  rcases sf_rul (d := d) (F := F) (L := L) (A := A) (B := B) (W := W) (M := M) (V := V) (G := G) hc v1 with ⟨x1, y1⟩ | ⟨p, h1, rfl, x1, y1⟩
  · exact x1 _ (br_t rfl (y1 _ (br_f (by decide) ⟨rfl, R⟩)))
  · rcases sf_rul (d := d) (F := F) (L := L) (A := A) (B := B) (W := W) (M := M) (V := V) (G := G) hc v2 with ⟨x2, y2⟩ | ⟨t, h2, rfl, x2, y2⟩
    · exact x1 _ (br_f (by decide) (x2 _ (br_t rfl (y1 _ (br_t rfl (y2 _ (br_f (by decide) ⟨rfl, R⟩)))))))
    · obtain ⟨q, rfl⟩ : ∃ q, c = t + q + 1 := ⟨c - 1 - t, by omega⟩
      obtain ⟨σ, τ, hs, hX, hY⟩ := sf_dn (t + q) (by omega) (t + q - p) p (by omega)
      obtain ⟨σ', τ', hs', hX', hY'⟩ := sf_up t q (by omega)
      refine x1 _ (br_f (by decide) (x2 _ (br_f (by decide) ?_)))
      refine sf_cpX p 13 (by omega) (by decide) rfl rfl ?_
      refine nm_r (nI_pred (t + q)) ⟨_, hX _ d _ _ _ _ _ _ _ G ?_⟩
      refine ⟨_, hX' _ _ d _ _ _ _ _ _ _ G ?_⟩
      refine sf_cpX 13 t (by decide) (by omega) rfl rfl ?_
      refine y1 _ (br_t rfl (y2 _ (br_t rfl ?_)))
      refine sf_cpY p 13 (by omega) (by decide) rfl rfl ?_
      refine ⟨_, hY _ d _ _ _ _ _ _ G ?_⟩
      refine ⟨_, hY' _ 13 _ d _ _ _ _ _ _ G ?_⟩
      refine sf_cpY 13 t (by decide) (by omega) rfl rfl ?_
      refine nm_e ⟨rfl, ?_⟩
      rw [nI_1]
      refine sf_map (fun j => sf_s1 p 13 (σ (σ' (sf_s1 13 t j)))) (fun j => sf_s2 p 13 (τ (τ' (sf_s2 13 t j)))) ?_ hc hF hL hW hA
      intro j
      have a1 : sf_s1 13 t j = 12 ↔ j = 12 := by
        unfold sf_s1
        by_cases z : j = t
        · rw [if_pos z]; omega
        · rw [if_neg z]
      have a2 := (hs (σ' (sf_s1 13 t j))).trans ((hs' (sf_s1 13 t j)).trans a1)
      generalize σ (σ' (sf_s1 13 t j)) = y at a2
      unfold sf_s1
      by_cases z : y = 13
      · rw [if_pos z]; omega
      · rw [if_neg z]; exact a2
