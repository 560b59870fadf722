theorem sf_num (x : Int32) : ((∀ post : Int32 → Prop, post 0 → wpX_isNumber post x) ∧ (∀ (v : SY) (post : Int32 → Prop), post 1 → wpY_badNumber post v x)) ∨ (∃ j : Nat, j < 32 ∧ x = nI j ∧ (∀ post : Int32 → Prop, post 1 → wpX_isNumber post x) ∧ (∀ (v : SY) (post : Int32 → Prop), post 0 → wpY_badNumber post v x)) := by
  by_cases h0 : x < 0
  · exact Or.inl ⟨fun post hp => br_t h0 hp, fun v post hp => br_t h0 hp⟩
  · obtain ⟨j, hj, rfl⟩ := nI_of h0
    by_cases h : j < 32
    · exact Or.inr ⟨j, h, rfl, fun post hp => br_f h0 (br_f (nI_ge (b := 32) h (by decide)) hp), fun v post hp => br_f h0 (br_t (nI_le (b := 31) (by omega) (by decide)) hp)⟩
    · exact Or.inl ⟨fun post hp => br_f h0 (br_t (nI_le (a := 32) (by omega) hj) hp), fun v post hp => br_f h0 (br_f (nI_ge (a := 31) (by omega) hj) hp)⟩
theorem sf_act (x : Int32) : ((∀ post : Int32 → Prop, post 0 → wpX_isAction post x) ∧ (∀ (v : SY) (post : Int32 → Prop), post 1 → wpY_badAction post v x)) ∨ (∃ j : Nat, j < 4 ∧ x = nI j ∧ (∀ post : Int32 → Prop, post 1 → wpX_isAction post x) ∧ (∀ (v : SY) (post : Int32 → Prop), post 0 → wpY_badAction post v x)) := by
  by_cases h0 : x < 0
  · exact Or.inl ⟨fun post hp => br_t h0 hp, fun v post hp => br_t h0 hp⟩
  · obtain ⟨j, hj, rfl⟩ := nI_of h0
    by_cases h : j < 4
    · exact Or.inr ⟨j, h, rfl, fun post hp => br_f h0 (br_f (nI_ge (b := 4) h (by decide)) hp), fun v post hp => br_f h0 (br_t (nI_le (b := 3) (by omega) (by decide)) hp)⟩
    · exact Or.inl ⟨fun post hp => br_f h0 (br_t (nI_le (a := 4) (by omega) hj) hp), fun v post hp => br_f h0 (br_f (nI_ge (a := 3) (by omega) hj) hp)⟩
section
variable {c : Nat} {d : Int32} {F L A B W M V G : Nat → Int32}
theorem sf_rul (hc : c ≤ 12) (x : Int32) : ((∀ post : Int32 → Prop, post 0 → wpX_isRule post (nI c, d, F, L, A, sf_cm W, sf_sr W, M, V, G) x) ∧ (∀ post : Int32 → Prop, post 1 → wpY_badRule post (nI c, d, F, L, B, W, M, V, G) x)) ∨ (∃ j : Nat, j < c ∧ x = nI j ∧ (∀ post : Int32 → Prop, post 1 → wpX_isRule post (nI c, d, F, L, A, sf_cm W, sf_sr W, M, V, G) x) ∧ (∀ post : Int32 → Prop, post 0 → wpY_badRule post (nI c, d, F, L, B, W, M, V, G) x)) := by
  by_cases h0 : x < 0
  · exact Or.inl ⟨fun post hp => br_t h0 hp, fun post hp => br_t h0 hp⟩
  · obtain ⟨j, hj, rfl⟩ := nI_of h0
    by_cases h : j < c
    · exact Or.inr ⟨j, h, rfl, fun post hp => br_f h0 (br_f (nI_ge h (by omega)) hp), fun post hp => br_f h0 (br_f (nI_ge h (by omega)) (br_t (nI_lt (b := 12) (by omega) (by decide)) hp))⟩
    · exact Or.inl ⟨fun post hp => br_f h0 (br_t (nI_le (by omega) hj) hp), fun post hp => br_f h0 (br_t (nI_le (by omega) hj) hp)⟩
/-- the two states: one list of rules, one draft, one default, the same arguments; the class keeps a condition's word in two halves, and the reference uses row 12 of its actions for a rule on its way in -/
def i_Rel (_ : Nat) (u : SX) (v : SY) : Prop := ∃ (c : Nat) (d : Int32) (F L A B W M V G : Nat → Int32), c ≤ 12 ∧ u = (nI c, d, F, L, A, sf_cm W, sf_sr W, M, V, G) ∧ v = (nI c, d, F, L, B, W, M, V, G) ∧ sf_okN F ∧ sf_okN L ∧ sf_okW W ∧ sf_agr A B
theorem sf_mk {k : Nat} (hc : c ≤ 12) (hF : sf_okN F) (hL : sf_okN L) (hW : sf_okW W) (hA : sf_agr A B) : i_Rel k (nI c, d, F, L, A, sf_cm W, sf_sr W, M, V, G) (nI c, d, F, L, B, W, M, V, G) := ⟨c, d, F, L, A, B, W, M, V, G, hc, rfl, rfl, hF, hL, hW, hA⟩
theorem sf_uN {i : Nat} {j : Nat} (hj : j < 32) (hF : sf_okN F) : sf_okN (upd F i (nI j)) := by
  intro q
  by_cases h : q = i
  · rw [h, pk_us]; exact ⟨j, hj, rfl⟩
  · rw [pk_un h]; exact hF q
theorem sf_uW {i : Nat} {w : Nat} (hw : w < 16) (h7 : w % 8 ≠ 7) (hW : sf_okW W) : sf_okW (upd W i (nI w)) := by
  intro q
  by_cases h : q = i
  · rw [h, pk_us]; exact ⟨w, hw, h7, rfl⟩
  · rw [pk_un h]; exact hW q
theorem sf_cU (i : Nat) (x : Int32) : upd (sf_cm W) i (x - x / 8 * 8) = sf_cm (upd W i x) := by
  funext q
  show upd (sf_cm W) i (x - x / 8 * 8) q = upd W i x q - upd W i x q / 8 * 8
  by_cases h : q = i
  · rw [h, pk_us, pk_us]
  · rw [pk_un h, pk_un h]; rfl
theorem sf_sU (i : Nat) (x : Int32) : upd (sf_sr W) i (x / 8) = sf_sr (upd W i x) := by
  funext q
  show upd (sf_sr W) i (x / 8) q = upd W i x q / 8
  by_cases h : q = i
  · rw [h, pk_us, pk_us]
  · rw [pk_un h, pk_un h]; rfl
end
theorem i_up {k : Nat} {u : SX} {v : SY} (h : i_Rel k u v) : i_Rel (k + 5) u v := h
theorem sf_0N : sf_okN (fun _ => 0) := fun _ => ⟨0, by decide, rfl⟩
theorem i_vc0 : wpX_init (fun u => wpY_init (fun v => i_Rel 0 u v)) := by
  have e1 : upd (fun _ => 0) 12 0 = fun _ => 0 := by
    funext q
    unfold upd
    by_cases h : q = 12
    · rw [if_pos h]
    · rw [if_neg h]
  have e2 : sf_cm (fun _ => 0) = fun _ => 0 := by
    funext q
    show (0 : Int32) - 0 / 8 * 8 = 0
    decide
  have e3 : sf_sr (fun _ => 0) = fun _ => 0 := by
    funext q
    show (0 : Int32) / 8 = 0
    decide
  refine nm_r e1 (nm_e (nm_e ?_))
  exact ⟨0, 0, fun _ => 0, upd (fun _ => 0) 12 31, fun _ => 0, fun _ => 0, fun _ => 0, fun _ => 0, fun _ => 0, fun _ => 0, by omega, by rw [e2, e3, nI_0], by rw [nI_0], sf_0N, sf_uN (j := 31) (by decide) sf_0N, fun _ => ⟨0, by decide, by decide, rfl⟩, fun _ _ => rfl⟩
theorem i_vc_range {k : Nat} {u : SX} {v : SY} (I : i_Rel k u v) (hk : k + 5 ≤ 2560) (v1 : Int32) (v2 : Int32) : wpX_range (fun r u' => wpY_range (fun r' v' => r' = r ∧ i_Rel (k + 5) u' v') v v1 v2) u v1 v2 := by
  obtain ⟨c, d, F, L, A, B, W, M, V, G, hc, rfl, rfl, hF, hL, hW, hA⟩ := I
  have R : i_Rel (k + 5) (nI c, d, F, L, A, sf_cm W, sf_sr W, M, V, G) (nI c, d, F, L, B, W, M, V, G) := sf_mk hc hF hL hW hA
  unfold wpX_range wpY_range
  dsimp only
  rcases sf_num v1 with ⟨x1, y1⟩ | ⟨j1, h1, rfl, x1, y1⟩
  · exact x1 _ (br_t rfl (y1 _ _ (br_f (by decide) ⟨rfl, R⟩)))
  · rcases sf_num v2 with ⟨x2, y2⟩ | ⟨j2, h2, rfl, x2, y2⟩
    · exact x1 _ (br_f (by decide) (x2 _ (br_t rfl (y1 _ _ (br_t rfl (y2 _ _ (br_f (by decide) ⟨rfl, R⟩)))))))
    · by_cases h : nI j1 ≤ nI j2
      · exact x1 _ (br_f (by decide) (x2 _ (br_f (by decide) (br_t h (nm_e (nm_e (y1 _ _ (br_t rfl (y2 _ _ (br_t rfl (br_t h (nm_e (nm_e ⟨rfl, sf_mk hc (sf_uN h1 hF) (sf_uN h2 hL) hW hA⟩)))))))))))))
      · exact x1 _ (br_f (by decide) (x2 _ (br_f (by decide) (br_f h (y1 _ _ (br_t rfl (y2 _ _ (br_t rfl (br_f h ⟨rfl, R⟩)))))))))
theorem sf_r7 : ∀ w : Nat, w < 16 → w % 8 = 7 → nI w - nI w / 8 * 8 = 7 := by decide +kernel
theorem i_vc_condition {k : Nat} {u : SX} {v : SY} (I : i_Rel k u v) (hk : k + 5 ≤ 2560) (v1 : Int32) (v2 : Int32) (v3 : Int32) (v4 : Int32) : wpX_condition (fun r u' => wpY_condition (fun r' v' => r' = r ∧ i_Rel (k + 5) u' v') v v1 v2 v3 v4) u v1 v2 v3 v4 := by
  obtain ⟨c, d, F, L, A, B, W, M, V, G, hc, rfl, rfl, hF, hL, hW, hA⟩ := I
  have R : i_Rel (k + 5) (nI c, d, F, L, A, sf_cm W, sf_sr W, M, V, G) (nI c, d, F, L, B, W, M, V, G) := sf_mk hc hF hL hW hA
  unfold wpX_condition wpY_condition wpX_isWhat
  dsimp only
  by_cases h0 : v1 < 0
  · exact br_t h0 (br_t h0 ⟨rfl, R⟩)
  · obtain ⟨s, hs, rfl⟩ := nI_of h0
    by_cases h2 : s < 2
    · have a2 : nI s < 2 := nI_lt (b := 2) h2 (by decide)
      have b2 : nI s ≤ 1 := nI_le (b := 1) (by omega) (by decide)
      by_cases g0 : v2 < 0
      · exact br_f h0 (br_t a2 (br_t g0 (br_t rfl (br_f h0 (br_t b2 (br_t g0 ⟨rfl, R⟩))))))
      · obtain ⟨w, hw, rfl⟩ := nI_of g0
        by_cases h16 : w < 16
        · have a16 : ¬ (16 : Int32) ≤ nI w := nI_ge (b := 16) h16 (by decide)
          have b16 : ¬ (15 : Int32) < nI w := nI_nlt (a := 15) (by omega) (by decide)
          by_cases h7 : nI w - nI w / 8 * 8 = 7
          · exact br_f h0 (br_t a2 (br_f g0 (br_f a16 ⟨sf_8, br_t h7 (br_t rfl (br_f h0 (br_t b2 (br_f g0 (br_f b16 ⟨sf_8, br_t h7 ⟨rfl, R⟩⟩)))))⟩)))
          · have e : (24 : Int32) + nI s = nI (24 + s) := nI_add 24 s
            have hv : vp_in (24 + nI s) 28 := sf_in e (by omega) (by decide)
            have q7 : w % 8 ≠ 7 := fun z => h7 (sf_r7 w h16 z)
            exact br_f h0 (br_t a2 (br_f g0 (br_f a16 ⟨sf_8, br_f h7 (br_f (by decide) (nm_e ⟨sf_8, hv, nm_r (sf_cU _ _) ⟨sf_8, hv, nm_r (sf_sU _ _) ⟨hv, nm_e ⟨hv, nm_e (br_f h0 (br_t b2 (br_f g0 (br_f b16 ⟨sf_8, br_f h7 ⟨hv, nm_e ⟨hv, nm_e ⟨hv, nm_e ⟨rfl, sf_mk hc hF hL (sf_uW h16 q7 hW) hA⟩⟩⟩⟩⟩))))⟩⟩⟩⟩))⟩)))
        · exact br_f h0 (br_t a2 (br_f g0 (br_t (nI_le (a := 16) (by omega) hw) (br_t rfl (br_f h0 (br_t b2 (br_f g0 (br_t (nI_lt (a := 15) (by omega) hw) ⟨rfl, R⟩))))))))
    · exact br_f h0 (br_f (nI_nlt (b := 2) (by omega) hs) (br_f h0 (br_f (nI_ge (a := 1) (by omega) hs) ⟨rfl, R⟩)))
theorem i_vc_fallback {k : Nat} {u : SX} {v : SY} (I : i_Rel k u v) (hk : k + 5 ≤ 2560) (v1 : Int32) : wpX_fallback (fun r u' => wpY_fallback (fun r' v' => r' = r ∧ i_Rel (k + 5) u' v') v v1) u v1 := by
  obtain ⟨c, d, F, L, A, B, W, M, V, G, hc, rfl, rfl, hF, hL, hW, hA⟩ := I
  have R : i_Rel (k + 5) (nI c, d, F, L, A, sf_cm W, sf_sr W, M, V, G) (nI c, d, F, L, B, W, M, V, G) := sf_mk hc hF hL hW hA
  unfold wpX_fallback wpY_fallback
  dsimp only
  rcases sf_act v1 with ⟨x1, y1⟩ | ⟨j1, h1, rfl, x1, y1⟩
  · exact x1 _ (br_t rfl (y1 _ _ (br_f (by decide) ⟨rfl, R⟩)))
  · exact x1 _ (br_f (by decide) (y1 _ _ (br_t rfl ⟨rfl, sf_mk hc hF hL hW hA⟩)))
theorem i_vc_rules {k : Nat} {u : SX} {v : SY} (I : i_Rel k u v) (hk : k + 5 ≤ 2560) : wpX_rules (fun r => wpY_rules (fun r' => r' = r ∧ i_Rel (k + 5) u v) v) u := by
  obtain ⟨c, d, F, L, A, B, W, M, V, G, hc, rfl, rfl, hF, hL, hW, hA⟩ := I
  exact ⟨rfl, sf_mk hc hF hL hW hA⟩
theorem i_vc_argument {k : Nat} {u : SX} {v : SY} (I : i_Rel k u v) (hk : k + 5 ≤ 2560) (v1 : Int32) (v2 : Int32) : wpX_argument (fun r u' => wpY_argument (fun r' v' => r' = r ∧ i_Rel (k + 5) u' v') v v1 v2) u v1 v2 := by
  obtain ⟨c, d, F, L, A, B, W, M, V, G, hc, rfl, rfl, hF, hL, hW, hA⟩ := I
  have R : i_Rel (k + 5) (nI c, d, F, L, A, sf_cm W, sf_sr W, M, V, G) (nI c, d, F, L, B, W, M, V, G) := sf_mk hc hF hL hW hA
  by_cases h0 : v1 < 0
  · exact br_t h0 (br_t h0 ⟨rfl, R⟩)
  · obtain ⟨s, hs, rfl⟩ := nI_of h0
    by_cases h2 : s < 2
    · have a2 : nI s < 2 := nI_lt (b := 2) h2 (by decide)
      have b2 : nI s ≤ 1 := nI_le (b := 1) (by omega) (by decide)
      have hv : vp_in (nI s) 2 := vp_in_nI h2 (by decide)
      exact br_f h0 (br_t a2 ⟨hv, nm_e (br_f h0 (br_t b2 ⟨hv, nm_e ⟨rfl, sf_mk hc hF hL hW hA⟩⟩))⟩)
    · exact br_f h0 (br_f (nI_nlt (b := 2) (by omega) hs) (br_f h0 (br_f (nI_ge (a := 1) (by omega) hs) ⟨rfl, R⟩)))
theorem i_vc_decide {k : Nat} {u : SX} {v : SY} (I : i_Rel k u v) (hk : k + 5 ≤ 2560) (v1 : Int32) : wpX_decide (fun r => wpY_decide (fun r' => r' = r ∧ i_Rel (k + 5) u v) v v1) u v1 := by
  obtain ⟨c, d, F, L, A, B, W, M, V, G, hc, rfl, rfl, hF, hL, hW, hA⟩ := I
  have R : i_Rel (k + 5) (nI c, d, F, L, A, sf_cm W, sf_sr W, M, V, G) (nI c, d, F, L, B, W, M, V, G) := sf_mk hc hF hL hW hA
  unfold wpX_decide wpY_decide
  dsimp only
  rcases sf_num v1 with ⟨x1, y1⟩ | ⟨j1, h1, rfl, x1, y1⟩
  · exact x1 _ (br_t rfl (y1 _ _ (br_f (by decide) ⟨rfl, R⟩)))
  · obtain ⟨r, hX, hY⟩ := sf_ver (d := d) (F := F) (L := L) (M := M) (V := V) (G := G) hc hW hA (nI j1)
    exact x1 _ (br_f (by decide) (hX _ (y1 _ _ (br_t rfl (hY _ ⟨rfl, R⟩)))))
theorem i_vc_matched {k : Nat} {u : SX} {v : SY} (I : i_Rel k u v) (hk : k + 5 ≤ 2560) (v1 : Int32) : wpX_matched (fun r => wpY_matched (fun r' => r' = r ∧ i_Rel (k + 5) u v) v v1) u v1 := by
  obtain ⟨c, d, F, L, A, B, W, M, V, G, hc, rfl, rfl, hF, hL, hW, hA⟩ := I
  have R : i_Rel (k + 5) (nI c, d, F, L, A, sf_cm W, sf_sr W, M, V, G) (nI c, d, F, L, B, W, M, V, G) := sf_mk hc hF hL hW hA
  unfold wpX_matched wpY_matched
  dsimp only
  rcases sf_num v1 with ⟨x1, y1⟩ | ⟨j1, h1, rfl, x1, y1⟩
  · exact x1 _ (br_t rfl (y1 _ _ (br_f (by decide) ⟨rfl, R⟩)))
  · obtain ⟨r, hr, hX, hY⟩ := sf_fst (d := d) (F := F) (L := L) (A := A) (B := B) (M := M) (V := V) (G := G) hc hW (nI j1)
    exact x1 _ (br_f (by decide) (hX _ (y1 _ _ (br_t rfl (hY _ ⟨rfl, R⟩)))))
theorem i_vc_countWith {k : Nat} {u : SX} {v : SY} (I : i_Rel k u v) (hk : k + 5 ≤ 2560) (v1 : Int32) (v2 : Int32) (v3 : Int32) : wpX_countWith (fun r => wpY_countWith (fun r' => r' = r ∧ i_Rel (k + 5) u v) v v1 v2 v3) u v1 v2 v3 := by
  obtain ⟨c, d, F, L, A, B, W, M, V, G, hc, rfl, rfl, hF, hL, hW, hA⟩ := I
  have R : i_Rel (k + 5) (nI c, d, F, L, A, sf_cm W, sf_sr W, M, V, G) (nI c, d, F, L, B, W, M, V, G) := sf_mk hc hF hL hW hA
  unfold wpX_countWith wpY_countWith
  dsimp only
  rcases sf_num v2 with ⟨x1, y1⟩ | ⟨j1, h1, rfl, x1, y1⟩
  · exact x1 _ (br_t rfl (y1 _ _ (br_f (by decide) ⟨rfl, R⟩)))
  · rcases sf_num v3 with ⟨x2, y2⟩ | ⟨j2, h2, rfl, x2, y2⟩
    · exact x1 _ (br_f (by decide) (x2 _ (br_t rfl (y1 _ _ (br_t rfl (y2 _ _ (br_f (by decide) ⟨rfl, R⟩)))))))
    · by_cases h : j1 ≤ j2
      · have h' : nI j1 ≤ nI j2 := nI_le h (by omega)
        rcases sf_act v1 with ⟨x3, y3⟩ | ⟨j3, h3, rfl, x3, y3⟩
        · exact x1 _ (br_f (by decide) (x2 _ (br_f (by decide) (br_t h' (x3 _ (br_t rfl (y1 _ _ (br_t rfl (y2 _ _ (br_t rfl (br_t h' (y3 _ _ (br_f (by decide) ⟨rfl, R⟩)))))))))))))
        · obtain ⟨r, hX, hY⟩ := sf_cw (d := d) (F := F) (L := L) (M := M) (V := V) (G := G) hc hW hA (nI j3) j2 h2 (j2 + 1 - j1) j1 (by omega) 0
          exact x1 _ (br_f (by decide) (x2 _ (br_f (by decide) (br_t h' (x3 _ (br_f (by decide) ⟨_, hX _ (y1 _ _ (br_t rfl (y2 _ _ (br_t rfl (br_t h' (y3 _ _ (br_t rfl ⟨_, hY _ ⟨rfl, R⟩⟩)))))))⟩))))))
      · have h' : ¬ nI j1 ≤ nI j2 := nI_ge (by omega) (by omega)
        exact x1 _ (br_f (by decide) (x2 _ (br_f (by decide) (br_f h' (y1 _ _ (br_t rfl (y2 _ _ (br_t rfl (br_f h' ⟨rfl, R⟩)))))))))
theorem i_vc_nextWith {k : Nat} {u : SX} {v : SY} (I : i_Rel k u v) (hk : k + 5 ≤ 2560) (v1 : Int32) (v2 : Int32) : wpX_nextWith (fun r => wpY_nextWith (fun r' => r' = r ∧ i_Rel (k + 5) u v) v v1 v2) u v1 v2 := by
  obtain ⟨c, d, F, L, A, B, W, M, V, G, hc, rfl, rfl, hF, hL, hW, hA⟩ := I
  have R : i_Rel (k + 5) (nI c, d, F, L, A, sf_cm W, sf_sr W, M, V, G) (nI c, d, F, L, B, W, M, V, G) := sf_mk hc hF hL hW hA
  unfold wpX_nextWith wpY_nextWith
  dsimp only
  rcases sf_act v1 with ⟨x1, y1⟩ | ⟨j1, h1, rfl, x1, y1⟩
  · exact x1 _ (br_t rfl (y1 _ _ (br_f (by decide) ⟨rfl, R⟩)))
  · rcases sf_num v2 with ⟨x2, y2⟩ | ⟨j2, h2, rfl, x2, y2⟩
    · exact x1 _ (br_f (by decide) (x2 _ (br_t rfl (y1 _ _ (br_t rfl (y2 _ _ (br_f (by decide) ⟨rfl, R⟩)))))))
    · obtain ⟨r, hX, hY⟩ := sf_nw (d := d) (F := F) (L := L) (M := M) (V := V) (G := G) hc hW hA (nI j1) (32 - j2) j2 (by omega)
      exact x1 _ (br_f (by decide) (x2 _ (br_f (by decide) ⟨_, hX _ (y1 _ _ (br_t rfl (y2 _ _ (br_t rfl ⟨_, hY _ ⟨rfl, R⟩⟩))))⟩)))
theorem i_vc_matching {k : Nat} {u : SX} {v : SY} (I : i_Rel k u v) (hk : k + 5 ≤ 2560) (v1 : Int32) : wpX_matching (fun r => wpY_matching (fun r' => r' = r ∧ i_Rel (k + 5) u v) v v1) u v1 := by
  obtain ⟨c, d, F, L, A, B, W, M, V, G, hc, rfl, rfl, hF, hL, hW, hA⟩ := I
  have R : i_Rel (k + 5) (nI c, d, F, L, A, sf_cm W, sf_sr W, M, V, G) (nI c, d, F, L, B, W, M, V, G) := sf_mk hc hF hL hW hA
  unfold wpX_matching wpY_matching
  dsimp only
  rcases sf_num v1 with ⟨x1, y1⟩ | ⟨j1, h1, rfl, x1, y1⟩
  · exact x1 _ (br_t rfl (y1 _ _ (br_f (by decide) ⟨rfl, R⟩)))
  · obtain ⟨r, hX, hY⟩ := sf_mg (d := d) (F := F) (L := L) (A := A) (B := B) (M := M) (V := V) (G := G) hc hW (nI j1) c 0 (by omega) 0
    rw [nI_0] at hX hY
    exact x1 _ (br_f (by decide) ⟨_, hX _ (y1 _ _ (br_t rfl ⟨_, hY _ ⟨rfl, R⟩⟩))⟩)
theorem i_vc_hidden {k : Nat} {u : SX} {v : SY} (I : i_Rel k u v) (hk : k + 5 ≤ 2560) (v1 : Int32) : wpX_hidden (fun r => wpY_hidden (fun r' => r' = r ∧ i_Rel (k + 5) u v) v v1) u v1 := by
  obtain ⟨c, d, F, L, A, B, W, M, V, G, hc, rfl, rfl, hF, hL, hW, hA⟩ := I
  have R : i_Rel (k + 5) (nI c, d, F, L, A, sf_cm W, sf_sr W, M, V, G) (nI c, d, F, L, B, W, M, V, G) := sf_mk hc hF hL hW hA
  unfold wpX_hidden wpY_hidden
  dsimp only
  rcases sf_rul (d := d) (F := F) (L := L) (A := A) (B := B) (W := W) (M := M) (V := V) (G := G) hc v1 with ⟨x1, y1⟩ | ⟨p, h1, rfl, x1, y1⟩
  · exact x1 _ (br_t rfl (y1 _ (br_f (by decide) ⟨rfl, R⟩)))
  · have hv : vp_in (nI p) 14 := vp_in_nI (by omega) (by decide)
    obtain ⟨f, hf, ef⟩ := hF p
    have eF : F (nI p).toNatClampNeg = nI f := by rw [nI_clamp (by omega)]; exact ef
    obtain ⟨r, hX, hY⟩ := sf_hid (c := c) (d := d) (F := F) (A := A) (B := B) (W := W) (M := M) (V := V) (G := G) hL p (by omega) (32 - f) f (by omega)
    exact x1 _ (br_f (by decide) ⟨hv, nm_r eF ⟨_, hX _ (y1 _ (br_t rfl ⟨hv, nm_r eF ⟨_, hY _ ⟨rfl, R⟩⟩⟩))⟩⟩)
theorem i_vc_stretches {k : Nat} {u : SX} {v : SY} (I : i_Rel k u v) (hk : k + 5 ≤ 2560) : wpX_stretches (fun r => wpY_stretches (fun r' => r' = r ∧ i_Rel (k + 5) u v) v) u := by
  obtain ⟨c, d, F, L, A, B, W, M, V, G, hc, rfl, rfl, hF, hL, hW, hA⟩ := I
  have R : i_Rel (k + 5) (nI c, d, F, L, A, sf_cm W, sf_sr W, M, V, G) (nI c, d, F, L, B, W, M, V, G) := sf_mk hc hF hL hW hA
  obtain ⟨r, hX, hY⟩ := sf_str (d := d) (F := F) (L := L) (A := A) (B := B) (W := W) (M := M) (V := V) (G := G) hc 31 1 (by omega) 1
  exact ⟨_, hX _ ⟨_, hY _ ⟨rfl, R⟩⟩⟩
theorem i_vc_open {k : Nat} {u : SX} {v : SY} (I : i_Rel k u v) (hk : k + 5 ≤ 2560) : wpX_open (fun r => wpY_open (fun r' => r' = r ∧ i_Rel (k + 5) u v) v) u := by
  obtain ⟨c, d, F, L, A, B, W, M, V, G, hc, rfl, rfl, hF, hL, hW, hA⟩ := I
  have R : i_Rel (k + 5) (nI c, d, F, L, A, sf_cm W, sf_sr W, M, V, G) (nI c, d, F, L, B, W, M, V, G) := sf_mk hc hF hL hW hA
  obtain ⟨r, hX, hY⟩ := sf_opn (d := d) (F := F) (L := L) (A := A) (B := B) (W := W) (M := M) (V := V) (G := G) hc 32 0 (by omega) 0
  exact ⟨_, hX _ ⟨_, hY _ ⟨rfl, R⟩⟩⟩
