/-! the questions -/
theorem i_vc_total {k : Nat} {u : SX} {v : SY} (I : i_Rel k u v) (hk : k + 4 ≤ 2048) : wpX_total (fun r => wpY_total (fun r' v' => r' = r ∧ i_Rel (k + 4) u v') v) u := by
  obtain ⟨F, K, L, w, la, pa, ra, hF, hK, hw, hl, rfl, rfl⟩ := I
  have hL := ad_L hl hK
  obtain ⟨r, hX, hY⟩ := ad_tot hF hK (by omega) w la hl (nI L) (nI K)
  unfold wpX_total
  dsimp only
  exact hX _ (hY _ pa ra (fun pa' ra' => ⟨rfl, ad_R _ hF hK hw hl⟩))
theorem i_vc_paths {k : Nat} {u : SX} {v : SY} (I : i_Rel k u v) (hk : k + 4 ≤ 2048) : wpX_paths (fun r => wpY_paths (fun r' v' => r' = r ∧ i_Rel (k + 4) u v') v) u := by
  obtain ⟨F, K, L, w, la, pa, ra, hF, hK, hw, hl, rfl, rfl⟩ := I
  have hL := ad_L hl hK
  obtain ⟨r, hX, hY⟩ := ad_pthL hF hK (by omega) w la hl (nI K) (2 ^ (2 * F)) 0 0 (by omega)
  unfold wpX_paths
  dsimp only
  exact ad_xp hF _ _ _ ⟨_, hX _ ⟨_, hY _ pa ra (fun pa' ra' => ⟨rfl, ad_R _ hF hK hw hl⟩)⟩⟩
theorem i_vc_through {k : Nat} {u : SX} {v : SY} (I : i_Rel k u v) (hk : k + 4 ≤ 2048) (v1 : Int32) (v2 : Int32) : wpX_through (fun r => wpY_through (fun r' v' => r' = r ∧ i_Rel (k + 4) u v') v v1 v2) u v1 v2 := by
  obtain ⟨F, K, L, w, la, pa, ra, hF, hK, hw, hl, rfl, rfl⟩ := I
  have hL := ad_L hl hK
  have hR := ad_R (k + 4) (pa := pa) (ra := ra) hF hK hw hl
  unfold wpX_through wpY_through
  dsimp only
  rcases ad_fr v1 hF with h | ⟨t, ht, rfl⟩
  · exact ad_xi0 _ _ _ h (br_t rfl (ad_yi0 _ _ _ _ _ h (br_t rfl ⟨rfl, hR⟩)))
  refine ad_xi1 hF ht _ _ _ (br_f (by decide) ?_)
  rcases ad_ma v2 with h | ⟨m, hm, rfl⟩
  · exact ad_xk0 _ _ _ _ h (br_t rfl (ad_yi1 hF ht _ _ _ _ _ (br_f (by decide) (ad_yk0 _ _ _ _ _ _ h (br_t rfl ⟨rfl, hR⟩)))))
  obtain ⟨r, hX, hY⟩ := ad_thrL hF hK (by omega) ht hm w la hl (nI K) (2 ^ (2 * F)) 0 0 (by omega)
  exact ad_xk1 hm _ _ _ _ (br_f (by decide) (ad_xp hF _ _ _ ⟨_, hX _ (ad_yi1 hF ht _ _ _ _ _ (br_f (by decide) (ad_yk1 hm _ _ _ _ _ _ (br_f (by decide) ⟨_, hY _ pa ra (fun pa' ra' => ⟨rfl, ad_R _ hF hK hw hl⟩)⟩))))⟩))
theorem i_vc_prefix {k : Nat} {u : SX} {v : SY} (I : i_Rel k u v) (hk : k + 4 ≤ 2048) : wpX_prefix (fun r => wpY_prefix (fun r' v' => r' = r ∧ i_Rel (k + 4) u v') v) u := by
  obtain ⟨F, K, L, w, la, pa, ra, hF, hK, hw, hl, rfl, rfl⟩ := I
  have hL := ad_L hl hK
  obtain ⟨r, hX, hY⟩ := ad_preL hF hK (by omega) w la hl (nI K) (2 ^ (2 * F)) 0 0 (by omega)
  unfold wpX_prefix
  dsimp only
  exact ad_xp hF _ _ _ ⟨_, hX _ ⟨_, hY _ pa ra (fun pa' ra' => ⟨rfl, ad_R _ hF hK hw hl⟩)⟩⟩
theorem i_vc_everything {k : Nat} {u : SX} {v : SY} (I : i_Rel k u v) (hk : k + 4 ≤ 2048) : wpX_everything (fun r => wpY_everything (fun r' v' => r' = r ∧ i_Rel (k + 4) u v') v) u := by
  obtain ⟨F, K, L, w, la, pa, ra, hF, hK, hw, hl, rfl, rfl⟩ := I
  obtain ⟨r, hX, hY⟩ := ad_evyL hF w la (nI L) (nI K) (nI K) (2 ^ (2 * F)) 0 0 (by omega)
  unfold wpX_everything
  dsimp only
  exact ad_xp hF _ _ _ ⟨_, hX _ ⟨_, hY _ pa ra (fun pa' ra' => ⟨rfl, ad_R _ hF hK hw hl⟩)⟩⟩
theorem i_vc_best {k : Nat} {u : SX} {v : SY} (I : i_Rel k u v) (hk : k + 4 ≤ 2048) : wpX_best (fun r => wpY_best (fun r' v' => r' = r ∧ i_Rel (k + 4) u v') v) u := by
  obtain ⟨F, K, L, w, la, pa, ra, hF, hK, hw, hl, rfl, rfl⟩ := I
  have hL := ad_L hl hK
  obtain ⟨r, hr, hX, hY⟩ := ad_bst hF hK (by omega) w la hw hl (nI K)
  unfold wpX_best wpY_best
  dsimp only
  refine hX _ ?_
  rcases hr with rfl | ⟨p, hp, rfl⟩
  · exact br_t rfl (hY _ pa ra (fun pa' ra' => br_f (by decide) ⟨rfl, ad_R _ hF hK hw hl⟩))
  · have h1 : ¬ nI p = -1 := fun z => ad_neg (n := p) (by omega) (z ▸ Int32.le_refl _)
    exact br_f h1 (ad_xw hF hp _ _ _ (hY _ pa ra (fun pa' ra' => br_t (nI_pos' (by omega)) (ad_ys hF hp _ _ _ _ _ (fun pa'' _ => ⟨rfl, ad_R _ hF hK hw hl⟩)))))
theorem i_vc_bestAt {k : Nat} {u : SX} {v : SY} (I : i_Rel k u v) (hk : k + 4 ≤ 2048) (v1 : Int32) : wpX_bestAt (fun r => wpY_bestAt (fun r' v' => r' = r ∧ i_Rel (k + 4) u v') v v1) u v1 := by
  obtain ⟨F, K, L, w, la, pa, ra, hF, hK, hw, hl, rfl, rfl⟩ := I
  have hL := ad_L hl hK
  obtain ⟨r, hr, hX, hY⟩ := ad_bst hF hK (by omega) w la hw hl (nI K)
  unfold wpX_bestAt wpY_bestAt
  dsimp only
  rcases hr with rfl | ⟨p, hp, rfl⟩
  · rcases ad_fr v1 hF with h | ⟨t, ht, rfl⟩
    · exact ad_xi0 _ _ _ h (br_t rfl (hY _ pa ra (fun pa' ra' => br_t (by decide) ⟨rfl, ad_R _ hF hK hw hl⟩)))
    · exact ad_xi1 hF ht _ _ _ (br_f (by decide) (hX _ (br_t rfl (hY _ pa ra (fun pa' ra' => br_t (by decide) ⟨rfl, ad_R _ hF hK hw hl⟩)))))
  · have h1 : ¬ nI p = -1 := fun z => ad_neg (n := p) (by omega) (z ▸ Int32.le_refl _)
    have h0 : ¬ nI p < 0 := nI_pos (by omega)
    rcases ad_fr v1 hF with h | ⟨t, ht, rfl⟩
    · exact ad_xi0 _ _ _ h (br_t rfl (hY _ pa ra (fun pa' ra' => br_f h0 (ad_yi0 _ _ _ _ _ h (br_t rfl ⟨rfl, ad_R _ hF hK hw hl⟩)))))
    · refine ad_xi1 hF ht _ _ _ (br_f (by decide) (hX _ (br_f h1 (ad_xm hF ht hp _ _ _ (hY _ pa ra (fun pa' ra' => br_f h0 (ad_yi1 hF ht _ _ _ _ _ (br_f (by decide) (ad_ys hF hp _ _ _ _ _ (fun pa'' hpa => ⟨pk_in t 6 (by omega), ?_, ad_R _ hF hK hw hl⟩))))))))))
      rw [nI_clamp (by omega)]
      exact hpa t ht
theorem ad_bnL {F K L : Nat} (hF : F ≤ 6) (hK : K < 4) (w : Nat → Int32) (k : Int32) : ∀ (d m : Nat) (x g : Int32) (la : Nat → Int32), m + d = 4 → 1 ≤ m → ad_sp la K L → ∃ r : Int32, (∀ post : Int32 → Prop, post r → wX_bestNext_16 post (nI F) (nI L) k w (d + 1) x g (nI m)) ∧ (∀ (post : Int32 → SY → Prop) (pa ra : Nat → Int32), (∀ la' pa' ra', ad_sp la' K L → post r (nI F, nI K, w, la', pa', ra')) → wY_bestNext_6 post (d + 1) x g (nI m) (nI F) (nI K) w la pa ra) := by
  intro d
  induction d with
  | zero =>
    intro m x g la hm h1 hl
    have h : (4 : Int32) ≤ nI m := nI_le (a := 4) (by omega) (by omega)
    exact ⟨x, fun _ hp => br_t h hp, fun _ pa ra hp => br_t h (hp la pa ra hl)⟩
  | succ d ih =>
    intro m x g la hm h1 hl
    have h : ¬ (4 : Int32) ≤ nI m := nI_ge (b := 4) (by omega) (by omega)
    have h4 : ¬ (4 : Int32) ≤ nI K := nI_ge (b := 4) (by omega) (by omega)
    have hL := ad_L hl (by omega)
    have hl1 : ad_sp (upd la K (nI m)) (K + 1) (4 * L + m) := ad_sp_p hl h1 (by omega)
    have hl2 : ad_sp (upd la K (nI m)) K L := ad_sp_c (fun i hi => pk_un (by omega)) hl
    obtain ⟨s, sX, sY⟩ := ad_tot hF (by omega) (by omega) w _ hl1 (nI L) k
    by_cases e : s ≤ g
    · obtain ⟨r, hX, hY⟩ := ih (m + 1) x g _ (by omega) (by omega) hl2
      refine ⟨r, fun post hp => br_f h (ad_xa (by omega) (by omega) _ _ _ _ (sX _ (br_t e (nm_r (nI_1 m) (hX post hp))))), fun post pa ra hp => ?_⟩
      rw [wY_bestNext_6]
      refine br_f h (br_f h4 (ad_yw h1 (by omega) hK _ _ _ _ _ (sY _ pa ra (fun pa' ra' => ad_yu hK _ _ _ _ _ (br_t e ?_)))))
      exact br_t e (nm_r (nI_1 m) (hY post pa' ra' hp))
    · obtain ⟨r, hX, hY⟩ := ih (m + 1) (nI m) s _ (by omega) (by omega) hl2
      refine ⟨r, fun post hp => br_f h (ad_xa (by omega) (by omega) _ _ _ _ (sX _ (br_f e (nm_r (nI_1 m) (hX post hp))))), fun post pa ra hp => ?_⟩
      rw [wY_bestNext_6]
      refine br_f h (br_f h4 (ad_yw h1 (by omega) hK _ _ _ _ _ (sY _ pa ra (fun pa' ra' => ad_yu hK _ _ _ _ _ (br_f e ?_)))))
      exact br_f e (nm_r (nI_1 m) (hY post pa' ra' hp))
theorem i_vc_bestNext {k : Nat} {u : SX} {v : SY} (I : i_Rel k u v) (hk : k + 4 ≤ 2048) : wpX_bestNext (fun r => wpY_bestNext (fun r' v' => r' = r ∧ i_Rel (k + 4) u v') v) u := by
  obtain ⟨F, K, L, w, la, pa, ra, hF, hK, hw, hl, rfl, rfl⟩ := I
  refine pk_lt K 4 (fun h => ?_) (fun h => ?_)
  · obtain ⟨r, hX, hY⟩ := ad_bnL hF h w (nI K) 3 1 0 0 la (by omega) (by omega) hl
    exact ⟨4, hX _ ⟨4, hY _ pa ra (fun la' pa' ra' hl' => ⟨rfl, ad_R _ hF hK hw hl'⟩)⟩⟩
  · exact ⟨1, br_f (by decide) (br_t (nI_le (a := 4) h (by omega)) ⟨rfl, ad_R _ hF hK hw hl⟩)⟩
