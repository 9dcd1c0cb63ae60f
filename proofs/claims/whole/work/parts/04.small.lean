/-! the relation, and the methods without a scan -/
def i_Rel (_ : Nat) (u : SX) (v : SY) : Prop := ∃ (F K L : Nat) (w la pa ra : Nat → Int32), F ≤ 6 ∧ K ≤ 4 ∧ ad_ok w ∧ ad_sp la K L ∧ u = (nI F, nI L, nI K, w) ∧ v = (nI F, nI K, w, la, pa, ra)
theorem ad_R (k : Nat) {F K L : Nat} {w la pa ra : Nat → Int32} (hF : F ≤ 6) (hK : K ≤ 4) (hw : ad_ok w) (hl : ad_sp la K L) : i_Rel k (nI F, nI L, nI K, w) (nI F, nI K, w, la, pa, ra) :=
  ⟨F, K, L, w, la, pa, ra, hF, hK, hw, hl, rfl, rfl⟩
theorem ad_L {a : Nat → Int32} {n R : Nat} (h : ad_sp a n R) (hn : n ≤ 4) : R < 256 := by
  have h4 : 4 ^ n ≤ 4 ^ 4 := Nat.pow_le_pow_right (by omega) hn
  exact Nat.lt_of_lt_of_le (ad_sp_lt h) h4
theorem i_up {k : Nat} {u : SX} {v : SY} (h : i_Rel k u v) : i_Rel (k + 4) u v := h
theorem i_vc0 : wpX_init (fun u => wpY_init (fun v => i_Rel 0 u v)) :=
  ad_R 0 (F := 0) (K := 0) (L := 0) (by omega) (by omega) ad_ok0 rfl
theorem ad_tri (x : Int32) (n : Nat) : x < 0 ∨ (∃ j : Nat, n ≤ j ∧ j < 2 ^ 31 ∧ x = nI j) ∨ ∃ j : Nat, j < n ∧ x = nI j := by
  by_cases h : x < 0
  · exact Or.inl h
  · obtain ⟨j, hj, rfl⟩ := nI_of h
    by_cases h2 : j < n
    · exact Or.inr (Or.inr ⟨j, h2, rfl⟩)
    · exact Or.inr (Or.inl ⟨j, by omega, hj, rfl⟩)
theorem ad_rem {R : Nat} (h : R < 2 ^ 31) : nI R - nI R / 10 * 10 = nI (R % 10) := pk_rem (d := 10) h (by omega) (by omega)
theorem ad_div {R : Nat} (h : R < 2 ^ 31) : nI R / 10 = nI (R / 10) := pk_div (d := 10) h (by omega) (by omega)
theorem ad_div2 {R : Nat} (h : R < 2 ^ 31) : nI R / 100 = nI (R / 100) := pk_div (d := 100) h (by omega) (by omega)
/-- the last j digits of R are at most 8 -/
def ad_dl : Nat → Nat → Bool
  | 0, _ => true
  | j + 1, R => if R % 10 ≤ 8 then ad_dl j (R / 10) else false
theorem ad_dl4 {n : Nat} (h : n ≤ 8888) : ad_dl 4 n = true ↔ n % 10 < 9 ∧ n / 10 % 10 < 9 ∧ n / 100 % 10 < 9 := by
  rw [ad_dl]
  by_cases h0 : n % 10 ≤ 8
  · rw [if_pos h0, ad_dl]
    by_cases h1 : n / 10 % 10 ≤ 8
    · rw [if_pos h1, ad_dl, Nat.div_div_eq_div_mul]
      by_cases h2 : n / 100 % 10 ≤ 8
      · rw [if_pos h2, ad_dl, if_pos (by omega)]
        exact ⟨fun _ => ⟨by omega, by omega, by omega⟩, fun _ => rfl⟩
      · rw [if_neg h2]
        exact ⟨fun z => (nomatch z), fun z => by omega⟩
    · rw [if_neg h1]
      exact ⟨fun z => (nomatch z), fun z => by omega⟩
  · rw [if_neg h0]
    exact ⟨fun z => (nomatch z), fun z => by omega⟩
theorem ad_xdL (f l k : Int32) (w : Nat → Int32) {post : Int32 → Prop} : ∀ j x R : Nat, x + j = 4 → R < 2 ^ 31 → post (cond (ad_dl j R) 1 0) → wX_areWeights_17 post f l k w (j + 1) (nI R) (nI x) := by
  intro j
  induction j with
  | zero =>
    intro x R hx hR h
    exact br_t (nI_le (a := 4) (by omega) (by omega)) h
  | succ j ih =>
    intro x R hx hR h
    refine br_f (nI_ge (b := 4) (by omega) (by omega)) ⟨by decide, ?_⟩
    rw [ad_rem hR]
    refine pk_le (R % 10) 8 (fun e => ?_) (fun e => ?_)
    · rw [ad_dl, if_pos e] at h
      exact ⟨by decide, nm_r (ad_div hR) (nm_r (nI_1 x) (ih (x + 1) (R / 10) (by omega) (by omega) h))⟩
    · rw [ad_dl, if_neg (by omega)] at h
      exact h
theorem ad_frL {F : Nat} (hF : F < 6) (l k K : Int32) (la pa ra : Nat → Int32) : ∀ (j x R : Nat) (w : Nat → Int32), x + j = 4 → R < 2 ^ 31 → ad_dl j R = true → ad_ok w → ∃ w', ad_ok w' ∧ (∀ post : Int32 → SX → Prop, post (nI F) (nI (F + 1), l, k, w') → wX_frame_26 post (nI F) l k (j + 1) (nI R) (nI x) w) ∧ (∀ post : Int32 → SY → Prop, post (nI F) (nI (F + 1), K, w', la, pa, ra) → wY_frame_73 post (nI F) K (j + 1) (nI R) (nI x) w la pa ra) := by
  intro j
  induction j with
  | zero =>
    intro x R w hx hR hd hw
    have h : (4 : Int32) ≤ nI x := nI_le (a := 4) (by omega) (by omega)
    refine ⟨w, hw, fun post hp => br_t h (nm_r (nI_1 F) ?_), fun post hp => br_t h (nm_r (nI_1 F) ?_)⟩
    · rw [nI_pred]; exact hp
    · rw [nI_pred]; exact hp
  | succ j ih =>
    intro x R w hx hR hd hw
    have h : ¬ (4 : Int32) ≤ nI x := nI_ge (b := 4) (by omega) (by omega)
    have hr : R % 10 ≤ 8 := by
      by_cases e : R % 10 ≤ 8
      · exact e
      · rw [ad_dl, if_neg e] at hd
        exact nomatch hd
    rw [ad_dl, if_pos hr] at hd
    obtain ⟨w', hw', hX, hY⟩ := ih (x + 1) (R / 10) (upd w (F * 4 + x) (nI (R % 10))) (by omega) (by omega) hd (ad_okU hw hr _)
    have eX : upd w (nI F * 4 + nI x).toNatClampNeg (nI R - nI R / 10 * 10) = upd w (F * 4 + x) (nI (R % 10)) := by
      rw [ad_ix, nI_clamp (by omega), ad_rem hR]
    have eY : upd w (4 * nI F + nI x).toNatClampNeg (nI R - nI R / 10 * 10) = upd w (F * 4 + x) (nI (R % 10)) := by
      rw [ad_jx, nI_clamp (by omega), ad_rem hR]
    exact ⟨w', hw', fun post hp => br_f h ⟨by decide, pk_in (F * 4 + x) 24 (by omega) (ad_ix _ _), nm_r eX ⟨by decide, nm_r (ad_div hR) (nm_r (nI_1 x) (hX post hp))⟩⟩,
      fun post hp => br_f h ⟨by decide, pk_in (F * 4 + x) 24 (by omega) (ad_jx _ _), nm_r eY ⟨by decide, nm_r (ad_div hR) (nm_r (nI_1 x) (hY post hp))⟩⟩⟩
theorem ad_y49 {post : Int32 → SY → Prop} (x1 f K : Int32) (w la pa ra : Nat → Int32) (h : post (-1) (f, K, w, la, pa, ra)) : wY_frame_48 post x1 f K w la pa ra :=
  br_t rfl h
theorem i_vc_frame {k : Nat} {u : SX} {v : SY} (I : i_Rel k u v) (hk : k + 4 ≤ 2048) (v1 : Int32) : wpX_frame (fun r u' => wpY_frame (fun r' v' => r' = r ∧ i_Rel (k + 4) u' v') v v1) u v1 := by
  obtain ⟨F, K, L, w, la, pa, ra, hF, hK, hw, hl, rfl, rfl⟩ := I
  have hR := ad_R (k + 4) (pa := pa) (ra := ra) hF hK hw hl
  unfold wpX_frame wpX_areWeights wpY_frame
  dsimp only
  rcases ad_tri v1 8889 with h | ⟨j, h1, h2, rfl⟩ | ⟨j, h1, rfl⟩
  · exact br_t h (br_t rfl (br_t h (ad_y49 _ _ _ _ _ _ _ ⟨rfl, hR⟩)))
  · exact br_f (nI_pos h2) (br_f (nI_ge (a := 8888) (by omega) h2) (br_t rfl (br_f (nI_pos h2) (br_t (nI_lt (a := 8888) (by omega) h2) (ad_y49 _ _ _ _ _ _ _ ⟨rfl, hR⟩)))))
  · have hj : j < 2 ^ 31 := by omega
    have hd := ad_dl4 (n := j) (by omega)
    refine br_f (nI_pos hj) (br_t (nI_le (b := 8888) (by omega) (by omega)) ⟨5, ad_xdL _ _ _ _ 4 0 j (by omega) hj ?_⟩)
    have Y : ∀ post : Int32 → SY → Prop, (ad_dl 4 j = false → wY_frame_48 post (nI j) (nI F) (nI K) w la pa ra) → (ad_dl 4 j = true → wY_frame_49 post (nI j) 1 (nI F) (nI K) w la pa ra) → wpY_frame post (nI F, nI K, w, la, pa, ra) (nI j) := by
      intro post g0 g1
      have n0 : (n : Prop) → (¬ n) → (ad_dl 4 j = true → n) → ad_dl 4 j = false := by
        intro n hn hi
        cases e : ad_dl 4 j with
        | true => exact absurd (hi e) hn
        | false => rfl
      unfold wpY_frame
      dsimp only
      rw [ad_rem hj, ad_div hj, ad_rem (R := j / 10) (by omega), ad_div2 hj, ad_rem (R := j / 100) (by omega)]
      refine br_f (nI_pos hj) (br_f (nI_nlt (b := j) (a := 8888) (by omega) (by omega)) ⟨by decide, pk_le 9 (j % 10) (fun e => g0 (n0 _ (by omega) (fun z => (hd.mp z).1))) (fun e0 => ⟨by decide, by decide, pk_le 9 (j / 10 % 10) (fun e => g0 (n0 _ (by omega) (fun z => (hd.mp z).2.1))) (fun e1 => ⟨by decide, by decide, pk_le 9 (j / 100 % 10) (fun e => g0 (n0 _ (by omega) (fun z => (hd.mp z).2.2))) (fun e2 => g1 (hd.mpr ⟨e0, e1, e2⟩))⟩)⟩)⟩)
    cases e : ad_dl 4 j with
    | false => exact br_t rfl (Y _ (fun _ => ad_y49 _ _ _ _ _ _ _ ⟨rfl, hR⟩) (fun z => absurd (e.symm.trans z) (by decide)))
    | true =>
      refine br_f (by decide) (pk_lt F 6 (fun hf => ?_) (fun hf => ?_))
      · obtain ⟨w', hw', hX, hY⟩ := ad_frL hf (nI L) (nI K) (nI K) la pa ra 4 0 j w (by omega) hj e hw
        exact ⟨5, hX _ (Y _ (fun z => absurd (e.symm.trans z) (by decide)) (fun _ => br_f (by decide) (br_t (nI_lt (b := 6) hf (by omega)) ⟨5, hY _ ⟨rfl, ad_R _ (by omega) hK hw' hl⟩⟩)))⟩
      · exact Y _ (fun z => absurd (e.symm.trans z) (by decide)) (fun _ => br_f (by decide) (br_f (nI_nlt (b := 6) hf (by omega)) ⟨rfl, hR⟩))
theorem i_vc_dropFrame {k : Nat} {u : SX} {v : SY} (I : i_Rel k u v) (hk : k + 4 ≤ 2048) : wpX_dropFrame (fun r u' => wpY_dropFrame (fun r' v' => r' = r ∧ i_Rel (k + 4) u' v') v) u := by
  obtain ⟨F, K, L, w, la, pa, ra, hF, hK, hw, hl, rfl, rfl⟩ := I
  cases F with
  | zero => exact br_t rfl (br_t rfl ⟨rfl, ad_R _ hF hK hw hl⟩)
  | succ F =>
    have h : ¬ nI (F + 1) = 0 := nI_ne0 (by omega) (by omega)
    exact br_f h (nm_r (nI_pred F) (br_f h (nm_r (nI_pred F) ⟨rfl, ad_R _ (by omega) hK hw hl⟩)))
theorem ad_xi0 {F : Nat} {x : Int32} (l k : Int32) (w : Nat → Int32) {post : Int32 → Prop} (h : x < 0 ∨ nI F ≤ x) (p : post 0) : wpX_isFrame post (nI F, l, k, w) x :=
  br_c (fun _ => p) (fun h0 => br_t (h.resolve_left h0) p)
theorem ad_xi1 {F t : Nat} (hF : F ≤ 6) (ht : t < F) (l k : Int32) (w : Nat → Int32) {post : Int32 → Prop} (p : post 1) : wpX_isFrame post (nI F, l, k, w) (nI t) :=
  br_f (nI_pos (by omega)) (br_f (nI_ge ht (by omega)) p)
theorem ad_yi0 {F : Nat} {x : Int32} (k : Int32) (w la pa ra : Nat → Int32) {post : Int32 → Prop} (h : x < 0 ∨ nI F ≤ x) (p : post 0) : wpY_is post (nI F, k, w, la, pa, ra) x :=
  br_c (fun _ => p) (fun h0 => br_t (h.resolve_left h0) p)
theorem ad_yi1 {F t : Nat} (hF : F ≤ 6) (ht : t < F) (k : Int32) (w la pa ra : Nat → Int32) {post : Int32 → Prop} (p : post 1) : wpY_is post (nI F, k, w, la, pa, ra) (nI t) :=
  br_f (nI_pos (by omega)) (br_f (nI_ge ht (by omega)) p)
theorem ad_xk0 {x : Int32} (f l k : Int32) (w : Nat → Int32) {post : Int32 → Prop} (h : x < 0 ∨ ∃ j : Nat, 4 ≤ j ∧ j < 2 ^ 31 ∧ x = nI j) (p : post 0) : wpX_isMark post (f, l, k, w) x := by
  refine br_c (fun _ => p) (fun h0 => ?_)
  obtain ⟨j, h1, h2, rfl⟩ := h.resolve_left h0
  exact br_t (nI_le (a := 4) h1 h2) p
theorem ad_xk1 {m : Nat} (hm : m < 4) (f l k : Int32) (w : Nat → Int32) {post : Int32 → Prop} (p : post 1) : wpX_isMark post (f, l, k, w) (nI m) :=
  br_f (nI_pos (by omega)) (br_f (nI_ge (b := 4) hm (by omega)) p)
theorem ad_yk0 {x : Int32} (f k : Int32) (w la pa ra : Nat → Int32) {post : Int32 → Prop} (h : x < 0 ∨ ∃ j : Nat, 4 ≤ j ∧ j < 2 ^ 31 ∧ x = nI j) (p : post 0) : wpY_mark post (f, k, w, la, pa, ra) x := by
  refine br_c (fun _ => p) (fun h0 => ?_)
  obtain ⟨j, h1, h2, rfl⟩ := h.resolve_left h0
  exact br_t (nI_lt (a := 3) h1 h2) p
theorem ad_yk1 {m : Nat} (hm : m < 4) (f k : Int32) (w la pa ra : Nat → Int32) {post : Int32 → Prop} (p : post 1) : wpY_mark post (f, k, w, la, pa, ra) (nI m) :=
  br_f (nI_pos (by omega)) (br_f (nI_nlt (b := m) (a := 3) (by omega) (by omega)) p)
theorem ad_fr (x : Int32) {F : Nat} (hF : F ≤ 6) : (x < 0 ∨ nI F ≤ x) ∨ ∃ t : Nat, t < F ∧ x = nI t := by
  rcases pk_ix x (n := F) (by omega) with h | h | h
  · exact Or.inl (Or.inl h)
  · exact Or.inl (Or.inr h)
  · exact Or.inr h
theorem ad_ma (x : Int32) : (x < 0 ∨ ∃ j : Nat, 4 ≤ j ∧ j < 2 ^ 31 ∧ x = nI j) ∨ ∃ m : Nat, m < 4 ∧ x = nI m := by
  rcases ad_tri x 4 with h | h | h
  · exact Or.inl (Or.inl h)
  · exact Or.inl (Or.inr h)
  · exact Or.inr h
theorem i_vc_weigh {k : Nat} {u : SX} {v : SY} (I : i_Rel k u v) (hk : k + 4 ≤ 2048) (v1 : Int32) (v2 : Int32) (v3 : Int32) : wpX_weigh (fun r u' => wpY_weigh (fun r' v' => r' = r ∧ i_Rel (k + 4) u' v') v v1 v2 v3) u v1 v2 v3 := by
  obtain ⟨F, K, L, w, la, pa, ra, hF, hK, hw, hl, rfl, rfl⟩ := I
  have hR := ad_R (k + 4) (pa := pa) (ra := ra) hF hK hw hl
  unfold wpX_weigh wpY_weigh
  dsimp only
  rcases ad_fr v1 hF with h | ⟨t, ht, rfl⟩
  · exact ad_xi0 _ _ _ h (br_t rfl (ad_yi0 _ _ _ _ _ h (br_t rfl ⟨rfl, hR⟩)))
  refine ad_xi1 hF ht _ _ _ (br_f (by decide) ?_)
  rcases ad_ma v2 with h | ⟨m, hm, rfl⟩
  · exact ad_xk0 _ _ _ _ h (br_t rfl (ad_yi1 hF ht _ _ _ _ _ (br_f (by decide) (ad_yk0 _ _ _ _ _ _ h (br_t rfl ⟨rfl, hR⟩)))))
  refine ad_xk1 hm _ _ _ _ (br_f (by decide) ?_)
  rcases ad_tri v3 9 with h | ⟨j, h1, h2, rfl⟩ | ⟨j, h1, rfl⟩
  · exact br_t h (ad_yi1 hF ht _ _ _ _ _ (br_f (by decide) (ad_yk1 hm _ _ _ _ _ _ (br_f (by decide) (br_t h ⟨rfl, hR⟩)))))
  · have g0 : ¬ nI j < 0 := nI_pos h2
    have g1 : ¬ nI j ≤ 8 := nI_ge (a := 8) (by omega) h2
    exact br_f g0 (br_f g1 (ad_yi1 hF ht _ _ _ _ _ (br_f (by decide) (ad_yk1 hm _ _ _ _ _ _ (br_f (by decide) (br_f g0 (br_f g1 ⟨rfl, hR⟩)))))))
  · have g0 : ¬ nI j < 0 := nI_pos (by omega)
    have g1 : nI j ≤ 8 := nI_le (b := 8) (by omega) (by omega)
    have eX : upd w (nI t * 4 + nI m).toNatClampNeg (nI j) = upd w (t * 4 + m) (nI j) := by rw [ad_ix, nI_clamp (by omega)]
    have eY : upd w (4 * nI t + nI m).toNatClampNeg (nI j) = upd w (t * 4 + m) (nI j) := by rw [ad_jx, nI_clamp (by omega)]
    exact br_f g0 (br_t g1 ⟨pk_in (t * 4 + m) 24 (by omega) (ad_ix _ _), nm_r eX (ad_yi1 hF ht _ _ _ _ _ (br_f (by decide) (ad_yk1 hm _ _ _ _ _ _ (br_f (by decide) (br_f g0 (br_t g1 ⟨pk_in (t * 4 + m) 24 (by omega) (ad_jx _ _), nm_r eY ⟨rfl, ad_R _ hF hK (ad_okU hw (by omega) _) hl⟩⟩))))))⟩)
theorem ad_lt1 {x : Int32} (h : x < 0) : x < 1 := by
  rw [Int32.lt_iff_toInt_lt] at h ⊢
  have e0 : (0 : Int32).toInt = 0 := by decide
  have e1 : (1 : Int32).toInt = 1 := by decide
  omega
theorem ad_yw {m K : Nat} (h1 : 1 ≤ m) (hm : m < 4) (hK : K < 4) (f : Int32) (w la pa ra : Nat → Int32) {post : Int32 → SY → Prop} (h : post (nI (K + 1)) (f, nI (K + 1), w, upd la K (nI m), pa, ra)) : wpY_write post (f, nI K, w, la, pa, ra) (nI m) := by
  have e : upd la (nI K).toNatClampNeg (nI m) = upd la K (nI m) := by rw [nI_clamp (by omega)]
  exact br_f (nI_nlt (a := m) (b := 1) h1 (by omega)) (br_t (nI_le (b := 3) (by omega) (by omega)) (br_t (nI_lt (b := 4) hK (by omega)) ⟨pk_in K 4 hK, nm_r e (nm_r (nI_1 K) h)⟩))
theorem ad_yu {K : Nat} (hK : K < 4) (f : Int32) (w la pa ra : Nat → Int32) {post : Int32 → SY → Prop} (h : post (la K) (f, nI K, w, la, pa, ra)) : wpY_rub post (f, nI (K + 1), w, la, pa, ra) := by
  refine br_f (nI_ne0 (by omega) (by omega)) (nm_r (nI_pred K) ⟨pk_in K 4 hK, ?_⟩)
  rw [nI_clamp (by omega)]
  exact h
theorem i_vc_write {k : Nat} {u : SX} {v : SY} (I : i_Rel k u v) (hk : k + 4 ≤ 2048) (v1 : Int32) : wpX_write (fun r u' => wpY_write (fun r' v' => r' = r ∧ i_Rel (k + 4) u' v') v v1) u v1 := by
  obtain ⟨F, K, L, w, la, pa, ra, hF, hK, hw, hl, rfl, rfl⟩ := I
  have hR := ad_R (k + 4) (pa := pa) (ra := ra) hF hK hw hl
  have hL := ad_L hl hK
  unfold wpX_write
  dsimp only
  rcases ad_ma v1 with h | ⟨m, hm, rfl⟩
  · refine ad_xk0 _ _ _ _ h (br_t rfl ?_)
    rcases h with h | ⟨j, h1, h2, rfl⟩
    · exact br_t (ad_lt1 h) ⟨rfl, hR⟩
    · exact br_f (nI_nlt (b := 1) (by omega) h2) (br_f (nI_ge (a := 3) (by omega) h2) ⟨rfl, hR⟩)
  · refine ad_xk1 hm _ _ _ _ (br_f (by decide) (pk_eq m 0 (fun e => ?_) (fun e => ?_)))
    · subst e
      exact br_t (by decide) ⟨rfl, hR⟩
    · refine pk_lt K 4 (fun h => ?_) (fun h => ?_)
      · exact ad_xa hm (by omega) _ _ _ _ (nm_r (nI_1 K) (ad_yw (by omega) hm h _ _ _ _ _ ⟨rfl, ad_R _ hF h hw (ad_sp_p hl (by omega) (by omega))⟩))
      · exact br_f (nI_nlt (a := m) (b := 1) (by omega) (by omega)) (br_t (nI_le (b := 3) (by omega) (by omega)) (br_f (nI_nlt (b := 4) h (by omega)) ⟨rfl, hR⟩))
theorem i_vc_rub {k : Nat} {u : SX} {v : SY} (I : i_Rel k u v) (hk : k + 4 ≤ 2048) : wpX_rub (fun r u' => wpY_rub (fun r' v' => r' = r ∧ i_Rel (k + 4) u' v') v) u := by
  obtain ⟨F, K, L, w, la, pa, ra, hF, hK, hw, hl, rfl, rfl⟩ := I
  have hL := ad_L hl hK
  cases K with
  | zero => exact br_t rfl (br_t rfl ⟨rfl, ad_R _ hF hK hw hl⟩)
  | succ K =>
    obtain ⟨m, q, h1, h3, ea, er, hl'⟩ := hl
    have e1 : nI L &&& 3 = nI m := by rw [ad_and3 (by omega)]; exact congrArg nI (by omega)
    have e2 : nI L >>> ((2 : Int32) &&& 31) = nI q := by rw [ad_shr2 (by omega)]; exact congrArg nI (by omega)
    exact br_f (nI_ne0 (by omega) (by omega)) (nm_r e1 (nm_r e2 (nm_r (nI_pred K) (ad_yu (by omega) _ _ _ _ _ ⟨ea, ad_R _ hF (by omega) hw hl'⟩))))
theorem i_vc_frames {k : Nat} {u : SX} {v : SY} (I : i_Rel k u v) (hk : k + 4 ≤ 2048) : wpX_frames (fun r => wpY_frames (fun r' => r' = r ∧ i_Rel (k + 4) u v) v) u := by
  obtain ⟨F, K, L, w, la, pa, ra, hF, hK, hw, hl, rfl, rfl⟩ := I
  exact ⟨rfl, ad_R _ hF hK hw hl⟩
theorem i_vc_length {k : Nat} {u : SX} {v : SY} (I : i_Rel k u v) (hk : k + 4 ≤ 2048) : wpX_length (fun r => wpY_length (fun r' => r' = r ∧ i_Rel (k + 4) u v) v) u := by
  obtain ⟨F, K, L, w, la, pa, ra, hF, hK, hw, hl, rfl, rfl⟩ := I
  exact ⟨rfl, ad_R _ hF hK hw hl⟩
