/-- total: both sides scan the paths from c on, with the sum s so far -/
theorem ad_totL {F K L : Nat} (hF : F ≤ 6) (hK : K ≤ 4) (hL : L < 2 ^ 31) (w la : Nat → Int32) (hl : ad_sp la K L) (l k : Int32) : ∀ (d c : Nat) (s : Int32), c + d = 2 ^ (2 * F) → ∃ r : Int32, (∀ post : Int32 → Prop, post r → wX_totalOf_10 post (nI L) (nI (2 ^ (2 * F))) (nI F) l k w (d + 1) s (nI c)) ∧ (∀ (post : Int32 → SY → Prop) (pa ra : Nat → Int32), (∀ pa' ra', post r (nI F, nI K, w, la, pa', ra')) → wY_total_4 post (d + 1) s (nI c) (nI F) (nI K) w la pa ra) := by
  have hE := ad_big hF
  intro d
  induction d with
  | zero =>
    intro c s hc
    have h : nI (2 ^ (2 * F)) ≤ nI c := nI_le (by omega) (by omega)
    refine ⟨s, fun _ hp => br_t h hp, fun _ pa ra hp => ?_⟩
    rw [wY_total_4]
    exact ad_ya hF _ _ _ _ _ (br_t h (hp pa ra))
  | succ d ih =>
    intro c s hc
    have h : ¬ nI (2 ^ (2 * F)) ≤ nI c := nI_ge (by omega) (by omega)
    have hr := ad_rnB F c hF
    by_cases e : ad_rn F c F = L
    · obtain ⟨r, hX, hY⟩ := ih (c + 1) (s + ad_wt w F c F) (by omega)
      refine ⟨r, fun post hp => br_f h (ad_xr hF (by omega) _ _ _ (br_t ((nI_eq (by omega) hL).mpr e) (ad_xw hF (by omega) _ _ _ (nm_e (nm_r (nI_1 c) (hX post hp)))))), fun post pa ra hp => ?_⟩
      rw [wY_total_4]
      refine ad_ya hF _ _ _ _ _ (br_f h (ad_ys hF (by omega) _ _ _ _ _ (fun pa' hpa => ad_yf0 hF hK _ _ _ _ hl hpa (fun ra' => ?_))))
      rw [decide_eq_true e]
      exact br_f (by decide) (nm_e (nm_r (nI_1 c) (hY post pa' ra' hp)))
    · obtain ⟨r, hX, hY⟩ := ih (c + 1) s (by omega)
      refine ⟨r, fun post hp => br_f h (ad_xr hF (by omega) _ _ _ (br_f (fun z => e ((nI_eq (by omega) hL).mp z)) (nm_r (nI_1 c) (hX post hp)))), fun post pa ra hp => ?_⟩
      rw [wY_total_4]
      refine ad_ya hF _ _ _ _ _ (br_f h (ad_ys hF (by omega) _ _ _ _ _ (fun pa' hpa => ad_yf0 hF hK _ _ _ _ hl hpa (fun ra' => ?_))))
      rw [decide_eq_false e]
      exact br_t rfl (nm_r (nI_1 c) (hY post pa' ra' hp))
theorem ad_tot {F K L : Nat} (hF : F ≤ 6) (hK : K ≤ 4) (hL : L < 2 ^ 31) (w la : Nat → Int32) (hl : ad_sp la K L) (l k : Int32) : ∃ r : Int32, (∀ post : Int32 → Prop, post r → wpX_totalOf post (nI F, l, k, w) (nI L)) ∧ (∀ (post : Int32 → SY → Prop) (pa ra : Nat → Int32), (∀ pa' ra', post r (nI F, nI K, w, la, pa', ra')) → wpY_total post (nI F, nI K, w, la, pa, ra)) := by
  obtain ⟨r, hX, hY⟩ := ad_totL hF hK hL w la hl l k (2 ^ (2 * F)) 0 0 (by omega)
  refine ⟨r, fun post hp => ?_, fun post pa ra hp => ⟨_, hY post pa ra hp⟩⟩
  unfold wpX_totalOf
  dsimp only
  exact ad_xp hF _ _ _ ⟨_, hX post hp⟩
theorem ad_pthL {F K L : Nat} (hF : F ≤ 6) (hK : K ≤ 4) (hL : L < 2 ^ 31) (w la : Nat → Int32) (hl : ad_sp la K L) (k : Int32) : ∀ (d c : Nat) (s : Int32), c + d = 2 ^ (2 * F) → ∃ r : Int32, (∀ post : Int32 → Prop, post r → wX_paths_9 post (nI (2 ^ (2 * F))) (nI F) (nI L) k w (d + 1) s (nI c)) ∧ (∀ (post : Int32 → SY → Prop) (pa ra : Nat → Int32), (∀ pa' ra', post r (nI F, nI K, w, la, pa', ra')) → wY_paths_4 post (d + 1) s (nI c) (nI F) (nI K) w la pa ra) := by
  have hE := ad_big hF
  intro d
  induction d with
  | zero =>
    intro c s hc
    have h : nI (2 ^ (2 * F)) ≤ nI c := nI_le (by omega) (by omega)
    refine ⟨s, fun _ hp => br_t h hp, fun _ pa ra hp => ?_⟩
    rw [wY_paths_4]
    exact ad_ya hF _ _ _ _ _ (br_t h (hp pa ra))
  | succ d ih =>
    intro c s hc
    have h : ¬ nI (2 ^ (2 * F)) ≤ nI c := nI_ge (by omega) (by omega)
    have hr := ad_rnB F c hF
    by_cases e : ad_rn F c F = L
    · obtain ⟨r, hX, hY⟩ := ih (c + 1) (s + 1) (by omega)
      refine ⟨r, fun post hp => br_f h (ad_xr hF (by omega) _ _ _ (br_t ((nI_eq (by omega) hL).mpr e) (nm_e (nm_r (nI_1 c) (hX post hp))))), fun post pa ra hp => ?_⟩
      rw [wY_paths_4]
      refine ad_ya hF _ _ _ _ _ (br_f h (ad_ys hF (by omega) _ _ _ _ _ (fun pa' hpa => ad_yf0 hF hK _ _ _ _ hl hpa (fun ra' => ?_))))
      rw [decide_eq_true e]
      exact br_f (by decide) (nm_e (nm_r (nI_1 c) (hY post pa' ra' hp)))
    · obtain ⟨r, hX, hY⟩ := ih (c + 1) s (by omega)
      refine ⟨r, fun post hp => br_f h (ad_xr hF (by omega) _ _ _ (br_f (fun z => e ((nI_eq (by omega) hL).mp z)) (nm_r (nI_1 c) (hX post hp)))), fun post pa ra hp => ?_⟩
      rw [wY_paths_4]
      refine ad_ya hF _ _ _ _ _ (br_f h (ad_ys hF (by omega) _ _ _ _ _ (fun pa' hpa => ad_yf0 hF hK _ _ _ _ hl hpa (fun ra' => ?_))))
      rw [decide_eq_false e]
      exact br_t rfl (nm_r (nI_1 c) (hY post pa' ra' hp))
theorem ad_thrL {F K L t m : Nat} (hF : F ≤ 6) (hK : K ≤ 4) (hL : L < 2 ^ 31) (ht : t < F) (hm : m < 4) (w la : Nat → Int32) (hl : ad_sp la K L) (k : Int32) : ∀ (d c : Nat) (s : Int32), c + d = 2 ^ (2 * F) → ∃ r : Int32, (∀ post : Int32 → Prop, post r → wX_through_29 post (nI t) (nI m) (nI (2 ^ (2 * F))) (nI F) (nI L) k w (d + 1) s (nI c)) ∧ (∀ (post : Int32 → SY → Prop) (pa ra : Nat → Int32), (∀ pa' ra', post r (nI F, nI K, w, la, pa', ra')) → wY_through_23 post (nI t) (nI m) (d + 1) s (nI c) (nI F) (nI K) w la pa ra) := by
  have hE := ad_big hF
  intro d
  induction d with
  | zero =>
    intro c s hc
    have h : nI (2 ^ (2 * F)) ≤ nI c := nI_le (by omega) (by omega)
    refine ⟨s, fun _ hp => br_t h hp, fun _ pa ra hp => ?_⟩
    rw [wY_through_23]
    exact ad_ya hF _ _ _ _ _ (br_t h (hp pa ra))
  | succ d ih =>
    intro c s hc
    have h : ¬ nI (2 ^ (2 * F)) ≤ nI c := nI_ge (by omega) (by omega)
    have hr := ad_rnB F c hF
    have hq := ad_mk_lt F c t
    have ec : (nI t).toNatClampNeg = t := nI_clamp (by omega)
    by_cases em : ad_mk F c t = m
    · have em' : nI (ad_mk F c t) = nI m := congrArg nI em
      by_cases e : ad_rn F c F = L
      · obtain ⟨r, hX, hY⟩ := ih (c + 1) (s + ad_wt w F c F) (by omega)
        refine ⟨r, fun post hp => br_f h (ad_xm hF ht (by omega) _ _ _ (br_t em' (ad_xr hF (by omega) _ _ _ (br_t ((nI_eq (by omega) hL).mpr e) (ad_xw hF (by omega) _ _ _ (nm_e (nm_r (nI_1 c) (hX post hp)))))))), fun post pa ra hp => ?_⟩
        rw [wY_through_23]
        refine ad_ya hF _ _ _ _ _ (br_f h (ad_ys hF (by omega) _ _ _ _ _ (fun pa' hpa => ⟨pk_in t 6 (by omega), br_t ?_ (ad_yf0 hF hK _ _ _ _ hl hpa (fun ra' => ?_))⟩)))
        · rw [ec, hpa t ht]; exact em'
        · rw [decide_eq_true e]
          exact br_f (by decide) (nm_e (nm_r (nI_1 c) (hY post pa' ra' hp)))
      · obtain ⟨r, hX, hY⟩ := ih (c + 1) s (by omega)
        refine ⟨r, fun post hp => br_f h (ad_xm hF ht (by omega) _ _ _ (br_t em' (ad_xr hF (by omega) _ _ _ (br_f (fun z => e ((nI_eq (by omega) hL).mp z)) (nm_r (nI_1 c) (hX post hp)))))), fun post pa ra hp => ?_⟩
        rw [wY_through_23]
        refine ad_ya hF _ _ _ _ _ (br_f h (ad_ys hF (by omega) _ _ _ _ _ (fun pa' hpa => ⟨pk_in t 6 (by omega), br_t ?_ (ad_yf0 hF hK _ _ _ _ hl hpa (fun ra' => ?_))⟩)))
        · rw [ec, hpa t ht]; exact em'
        · rw [decide_eq_false e]
          exact br_t rfl (nm_r (nI_1 c) (hY post pa' ra' hp))
    · have em' : ¬ nI (ad_mk F c t) = nI m := fun z => em ((nI_eq (by omega) (by omega)).mp z)
      obtain ⟨r, hX, hY⟩ := ih (c + 1) s (by omega)
      refine ⟨r, fun post hp => br_f h (ad_xm hF ht (by omega) _ _ _ (br_f em' (nm_r (nI_1 c) (hX post hp)))), fun post pa ra hp => ?_⟩
      rw [wY_through_23]
      refine ad_ya hF _ _ _ _ _ (br_f h (ad_ys hF (by omega) _ _ _ _ _ (fun pa' hpa => ⟨pk_in t 6 (by omega), br_f ?_ (nm_r (nI_1 c) (hY post pa' ra hp))⟩)))
      rw [ec, hpa t ht]; exact em'
theorem ad_preL {F K L : Nat} (hF : F ≤ 6) (hK : K ≤ 4) (hL : L < 2 ^ 31) (w la : Nat → Int32) (hl : ad_sp la K L) (k : Int32) : ∀ (d c : Nat) (s : Int32), c + d = 2 ^ (2 * F) → ∃ r : Int32, (∀ post : Int32 → Prop, post r → wX_prefix_9 post (nI (2 ^ (2 * F))) (nI F) (nI L) k w (d + 1) s (nI c)) ∧ (∀ (post : Int32 → SY → Prop) (pa ra : Nat → Int32), (∀ pa' ra', post r (nI F, nI K, w, la, pa', ra')) → wY_prefix_4 post (d + 1) s (nI c) (nI F) (nI K) w la pa ra) := by
  have hE := ad_big hF
  intro d
  induction d with
  | zero =>
    intro c s hc
    have h : nI (2 ^ (2 * F)) ≤ nI c := nI_le (by omega) (by omega)
    refine ⟨s, fun _ hp => br_t h hp, fun _ pa ra hp => ?_⟩
    rw [wY_prefix_4]
    exact ad_ya hF _ _ _ _ _ (br_t h (hp pa ra))
  | succ d ih =>
    intro c s hc
    have h : ¬ nI (2 ^ (2 * F)) ≤ nI c := nI_ge (by omega) (by omega)
    have hr := ad_rnB F c hF
    cases e : ad_bw L 7 (ad_rn F c F) with
    | true =>
      obtain ⟨r, hX, hY⟩ := ih (c + 1) (s + ad_wt w F c F) (by omega)
      refine ⟨r, fun post hp => br_f h (ad_xr hF (by omega) _ _ _ (ad_xb hL (by omega) _ _ _ ?_)), fun post pa ra hp => ?_⟩
      · rw [e]
        exact br_f (by decide) (ad_xw hF (by omega) _ _ _ (nm_e (nm_r (nI_1 c) (hX post hp))))
      · rw [wY_prefix_4]
        refine ad_ya hF _ _ _ _ _ (br_f h (ad_ys hF (by omega) _ _ _ _ _ (fun pa' hpa => ad_yf1 hF hK _ _ _ _ hl hpa (fun ra' => ?_))))
        rw [e]
        exact br_f (by decide) (nm_e (nm_r (nI_1 c) (hY post pa' ra' hp)))
    | false =>
      obtain ⟨r, hX, hY⟩ := ih (c + 1) s (by omega)
      refine ⟨r, fun post hp => br_f h (ad_xr hF (by omega) _ _ _ (ad_xb hL (by omega) _ _ _ ?_)), fun post pa ra hp => ?_⟩
      · rw [e]
        exact br_t rfl (nm_r (nI_1 c) (hX post hp))
      · rw [wY_prefix_4]
        refine ad_ya hF _ _ _ _ _ (br_f h (ad_ys hF (by omega) _ _ _ _ _ (fun pa' hpa => ad_yf1 hF hK _ _ _ _ hl hpa (fun ra' => ?_))))
        rw [e]
        exact br_t rfl (nm_r (nI_1 c) (hY post pa' ra' hp))
theorem ad_evyL {F : Nat} (hF : F ≤ 6) (w la : Nat → Int32) (l k K : Int32) : ∀ (d c : Nat) (s : Int32), c + d = 2 ^ (2 * F) → ∃ r : Int32, (∀ post : Int32 → Prop, post r → wX_everything_9 post (nI (2 ^ (2 * F))) (nI F) l k w (d + 1) s (nI c)) ∧ (∀ (post : Int32 → SY → Prop) (pa ra : Nat → Int32), (∀ pa' ra', post r (nI F, K, w, la, pa', ra')) → wY_everything_4 post (d + 1) s (nI c) (nI F) K w la pa ra) := by
  have hE := ad_big hF
  intro d
  induction d with
  | zero =>
    intro c s hc
    have h : nI (2 ^ (2 * F)) ≤ nI c := nI_le (by omega) (by omega)
    refine ⟨s, fun _ hp => br_t h hp, fun _ pa ra hp => ?_⟩
    rw [wY_everything_4]
    exact ad_ya hF _ _ _ _ _ (br_t h (hp pa ra))
  | succ d ih =>
    intro c s hc
    have h : ¬ nI (2 ^ (2 * F)) ≤ nI c := nI_ge (by omega) (by omega)
    obtain ⟨r, hX, hY⟩ := ih (c + 1) (s + ad_wt w F c F) (by omega)
    refine ⟨r, fun post hp => br_f h (ad_xw hF (by omega) _ _ _ (nm_e (nm_r (nI_1 c) (hX post hp)))), fun post pa ra hp => ?_⟩
    rw [wY_everything_4]
    exact ad_ya hF _ _ _ _ _ (br_f h (ad_ys hF (by omega) _ _ _ _ _ (fun pa' _ => nm_e (nm_r (nI_1 c) (hY post pa' ra hp)))))
/-- the best path so far: none on both sides, or the same path of the same weight -/
def ad_bs (E : Nat) (x g y q : Int32) : Prop := (x = -1 ∧ g = -1 ∧ y = -1 ∧ q = 0) ∨ ∃ p n : Nat, p < E ∧ n < 2 ^ 31 ∧ x = nI p ∧ y = nI p ∧ g = nI n ∧ q = nI n
theorem ad_neg {n : Nat} (h : n < 2 ^ 31) : ¬ nI n ≤ -1 := by
  rw [Int32.le_iff_toInt_le, nI_toInt h]
  have e : (-1 : Int32).toInt = -1 := by decide
  rw [e]
  omega
theorem ad_bstL {F K L : Nat} (hF : F ≤ 6) (hK : K ≤ 4) (hL : L < 2 ^ 31) (w la : Nat → Int32) (hw : ad_ok w) (hl : ad_sp la K L) (k : Int32) : ∀ (d c : Nat) (x g y q : Int32), c + d = 2 ^ (2 * F) → ad_bs (2 ^ (2 * F)) x g y q → ∃ r : Int32, (r = -1 ∨ ∃ p : Nat, p < 2 ^ (2 * F) ∧ r = nI p) ∧ (∀ post : Int32 → Prop, post r → wX_bestPath_12 post (nI (2 ^ (2 * F))) (nI F) (nI L) k w (d + 1) x g (nI c)) ∧ (∀ (post : Int32 → SY → Prop) (pa ra : Nat → Int32), (∀ pa' ra', post r (nI F, nI K, w, la, pa', ra')) → wY_first_6 post (d + 1) y q (nI c) (nI F) (nI K) w la pa ra) := by
  have hE := ad_big hF
  intro d
  induction d with
  | zero =>
    intro c x g y q hc hb
    have h : nI (2 ^ (2 * F)) ≤ nI c := nI_le (by omega) (by omega)
    rcases hb with ⟨rfl, rfl, rfl, rfl⟩ | ⟨p, n, hp, hn, rfl, rfl, rfl, rfl⟩
    · refine ⟨-1, Or.inl rfl, fun _ hp => br_t h hp, fun _ pa ra hp => ?_⟩
      rw [wY_first_6]
      exact ad_ya hF _ _ _ _ _ (br_t h (hp pa ra))
    · refine ⟨nI p, Or.inr ⟨p, hp, rfl⟩, fun _ hp => br_t h hp, fun _ pa ra hp => ?_⟩
      rw [wY_first_6]
      exact ad_ya hF _ _ _ _ _ (br_t h (hp pa ra))
  | succ d ih =>
    intro c x g y q hc hb
    have h : ¬ nI (2 ^ (2 * F)) ≤ nI c := nI_ge (by omega) (by omega)
    have hr := ad_rnB F c hF
    obtain ⟨v, hv, ev⟩ := ad_wtF hw hF c
    by_cases e : ad_rn F c F = L
    · have eX : nI (ad_rn F c F) = nI L := congrArg nI e
      rcases hb with ⟨rfl, rfl, rfl, rfl⟩ | ⟨p, n, hp, hn, rfl, rfl, rfl, rfl⟩
      · obtain ⟨r, hR, hX, hY⟩ := ih (c + 1) (nI c) (nI v) (nI c) (nI v) (by omega) (Or.inr ⟨c, v, by omega, by omega, rfl, rfl, rfl, rfl⟩)
        refine ⟨r, hR, fun post hp => br_f h (ad_xr hF (by omega) _ _ _ (br_t eX (ad_xw hF (by omega) _ _ _ ?_))), fun post pa ra hp => ?_⟩
        · rw [ev]
          exact br_f (ad_neg (by omega)) (nm_r (nI_1 c) (hX post hp))
        · rw [wY_first_6]
          refine ad_ya hF _ _ _ _ _ (br_f h (ad_ys hF (by omega) _ _ _ _ _ (fun pa' hpa => ad_yf0 hF hK _ _ _ _ hl hpa (fun ra' => ?_))))
          rw [decide_eq_true e, ev]
          exact br_f (by decide) (br_t (by decide) (nm_r (nI_1 c) (hY post pa' ra' hp)))
      · by_cases e2 : v ≤ n
        · obtain ⟨r, hR, hX, hY⟩ := ih (c + 1) (nI p) (nI n) (nI p) (nI n) (by omega) (Or.inr ⟨p, n, hp, hn, rfl, rfl, rfl, rfl⟩)
          refine ⟨r, hR, fun post hp => br_f h (ad_xr hF (by omega) _ _ _ (br_t eX (ad_xw hF (by omega) _ _ _ ?_))), fun post pa ra hp => ?_⟩
          · rw [ev]
            exact br_t (nI_le e2 hn) (nm_r (nI_1 c) (hX post hp))
          · rw [wY_first_6]
            refine ad_ya hF _ _ _ _ _ (br_f h (ad_ys hF (by omega) _ _ _ _ _ (fun pa' hpa => ad_yf0 hF hK _ _ _ _ hl hpa (fun ra' => ?_))))
            rw [decide_eq_true e, ev]
            exact br_f (by decide) (br_f (nI_pos (by omega)) (br_t (nI_le e2 hn) (nm_r (nI_1 c) (hY post pa' ra' hp))))
        · obtain ⟨r, hR, hX, hY⟩ := ih (c + 1) (nI c) (nI v) (nI c) (nI v) (by omega) (Or.inr ⟨c, v, by omega, by omega, rfl, rfl, rfl, rfl⟩)
          refine ⟨r, hR, fun post hp => br_f h (ad_xr hF (by omega) _ _ _ (br_t eX (ad_xw hF (by omega) _ _ _ ?_))), fun post pa ra hp => ?_⟩
          · rw [ev]
            exact br_f (nI_ge (by omega) (by omega)) (nm_r (nI_1 c) (hX post hp))
          · rw [wY_first_6]
            refine ad_ya hF _ _ _ _ _ (br_f h (ad_ys hF (by omega) _ _ _ _ _ (fun pa' hpa => ad_yf0 hF hK _ _ _ _ hl hpa (fun ra' => ?_))))
            rw [decide_eq_true e, ev]
            exact br_f (by decide) (br_f (nI_pos (by omega)) (br_f (nI_ge (by omega) (by omega)) (nm_r (nI_1 c) (hY post pa' ra' hp))))
    · obtain ⟨r, hR, hX, hY⟩ := ih (c + 1) x g y q (by omega) hb
      refine ⟨r, hR, fun post hp => br_f h (ad_xr hF (by omega) _ _ _ (br_f (fun z => e ((nI_eq (by omega) hL).mp z)) (nm_r (nI_1 c) (hX post hp)))), fun post pa ra hp => ?_⟩
      rw [wY_first_6]
      refine ad_ya hF _ _ _ _ _ (br_f h (ad_ys hF (by omega) _ _ _ _ _ (fun pa' hpa => ad_yf0 hF hK _ _ _ _ hl hpa (fun ra' => ?_))))
      rw [decide_eq_false e]
      exact br_t rfl (nm_r (nI_1 c) (hY post pa' ra' hp))
theorem ad_bst {F K L : Nat} (hF : F ≤ 6) (hK : K ≤ 4) (hL : L < 2 ^ 31) (w la : Nat → Int32) (hw : ad_ok w) (hl : ad_sp la K L) (k : Int32) : ∃ r : Int32, (r = -1 ∨ ∃ p : Nat, p < 4096 ∧ r = nI p) ∧ (∀ post : Int32 → Prop, post r → wpX_bestPath post (nI F, nI L, k, w)) ∧ (∀ (post : Int32 → SY → Prop) (pa ra : Nat → Int32), (∀ pa' ra', post r (nI F, nI K, w, la, pa', ra')) → wpY_first post (nI F, nI K, w, la, pa, ra)) := by
  have hE := ad_big hF
  obtain ⟨r, hR, hX, hY⟩ := ad_bstL hF hK hL w la hw hl k (2 ^ (2 * F)) 0 (-1) (-1) (-1) 0 (by omega) (Or.inl ⟨rfl, rfl, rfl, rfl⟩)
  refine ⟨r, ?_, fun post hp => ?_, fun post pa ra hp => ⟨_, hY post pa ra hp⟩⟩
  · rcases hR with h | ⟨p, hp, h⟩
    · exact Or.inl h
    · exact Or.inr ⟨p, by omega, h⟩
  · unfold wpX_bestPath
    dsimp only
    exact ad_xp hF _ _ _ ⟨_, hX post hp⟩
