theorem ad_ix (t m : Nat) : nI t * 4 + nI m = nI (t * 4 + m) := by
  have e : nI t * 4 = nI (t * 4) := pk_mul t 4
  rw [e, nI_add]
theorem ad_jx (t m : Nat) : 4 * nI t + nI m = nI (t * 4 + m) := by
  have e : 4 * nI t = nI (4 * t) := pk_mul 4 t
  rw [e, nI_add, Nat.mul_comm]
/-! the class's own methods -/
theorem ad_xm {F c t : Nat} (hF : F ≤ 6) (ht : t < F) (hc : c < 4096) (l k : Int32) (w : Nat → Int32) {post : Int32 → Prop} (h : post (nI (ad_mk F c t))) : wpX_markOf post (nI F, l, k, w) (nI c) (nI t) := by
  unfold wpX_markOf
  dsimp only
  rw [ad_mkI hF ht hc]
  exact h
theorem ad_xa {a m : Nat} (hm : m < 4) (ha : a < 2 ^ 24) (f l k : Int32) (w : Nat → Int32) {post : Int32 → Prop} (h : post (nI (4 * a + m))) : wpX_appended post (f, l, k, w) (nI a) (nI m) := by
  unfold wpX_appended
  dsimp only
  rw [ad_or hm ha]
  exact h
theorem ad_xp {F : Nat} (hF : F ≤ 6) (l k : Int32) (w : Nat → Int32) {post : Int32 → Prop} (h : post (nI (2 ^ (2 * F)))) : wpX_pathCount post (nI F, l, k, w) := by
  unfold wpX_pathCount
  dsimp only
  rw [ad_all hF]
  exact h
theorem ad_xwL {F c : Nat} (hF : F ≤ 6) (hc : c < 4096) (l k : Int32) (w : Nat → Int32) {post : Int32 → Prop} (h : post (ad_wt w F c F)) : ∀ d t : Nat, t + d = F → wX_weightOf_4 post (nI c) (nI F) l k w (d + 1) (ad_wt w F c t) (nI t) := by
  intro d
  induction d with
  | zero =>
    intro t ht
    have e : t = F := by omega
    subst e
    exact br_t (nI_le (by omega) (by omega)) h
  | succ d ih =>
    intro t ht
    have hm := ad_mk_lt F c t
    refine br_f (nI_ge (by omega) (by omega)) (ad_xm hF (by omega) hc _ _ _ ?_)
    refine ⟨pk_in (t * 4 + ad_mk F c t) 24 (by omega) (ad_ix _ _), nm_r (e' := ad_wt w F c (t + 1)) ?_ (nm_r (nI_1 t) (ih (t + 1) (by omega)))⟩
    rw [ad_ix, nI_clamp (by omega)]
    rfl
theorem ad_xw {F c : Nat} (hF : F ≤ 6) (hc : c < 4096) (l k : Int32) (w : Nat → Int32) {post : Int32 → Prop} (h : post (ad_wt w F c F)) : wpX_weightOf post (nI F, l, k, w) (nI c) :=
  ⟨F + 1, ad_xwL hF hc l k w h F 0 (by omega)⟩
theorem ad_xrL {F c : Nat} (hF : F ≤ 6) (hc : c < 4096) (l k : Int32) (w : Nat → Int32) {post : Int32 → Prop} (h : post (nI (ad_rn F c F))) : ∀ d t : Nat, t + d = F → wX_readingOf_7 post (nI c) (nI F) l k w (d + 1) (nI (ad_rn F c t)) (nI (ad_pv F c t)) (nI t) := by
  intro d
  induction d with
  | zero =>
    intro t ht
    have e : t = F := by omega
    subst e
    exact br_t (nI_le (by omega) (by omega)) h
  | succ d ih =>
    intro t ht
    have hm := ad_mk_lt F c t
    have hr := ad_rnB F c (t := t) (by omega)
    have hv : ad_pv F c t < 4 := by
      cases t with
      | zero => rw [ad_pv]; omega
      | succ t => exact ad_mk_lt F c t
    have hi := ih (t + 1) (by omega)
    refine br_f (nI_ge (by omega) (by omega)) (ad_xm hF (by omega) hc _ _ _ ?_)
    refine pk_eq (ad_mk F c t) (ad_pv F c t) (fun e => ?_) (fun e => pk_eq (ad_mk F c t) 0 (fun e0 => ?_) (fun e0 => ?_))
    · rw [ad_rn, if_pos e] at hi
      exact nm_r (nI_1 t) hi
    · rw [ad_rn, if_neg e, if_pos e0] at hi
      exact nm_r (nI_1 t) hi
    · rw [ad_rn, if_neg e, if_neg e0] at hi
      exact ad_xa hm (by omega) _ _ _ _ (nm_r (nI_1 t) hi)
theorem ad_xr {F c : Nat} (hF : F ≤ 6) (hc : c < 4096) (l k : Int32) (w : Nat → Int32) {post : Int32 → Prop} (h : post (nI (ad_rn F c F))) : wpX_readingOf post (nI F, l, k, w) (nI c) :=
  ⟨F + 1, ad_xrL hF hc l k w h F 0 (by omega)⟩
theorem ad_xbL {L : Nat} (hL : L < 2 ^ 31) (f k : Int32) (w : Nat → Int32) {post : Int32 → Prop} : ∀ j x R : Nat, x + j = 7 → R < 2 ^ 31 → post (cond (ad_bw L j R) 1 0) → wX_beginsWithLabel_4 post f (nI L) k w (j + 1) (nI R) (nI x) := by
  intro j
  induction j with
  | zero =>
    intro x R hx hR h
    exact br_t (nI_lt (a := 6) (b := x) (by omega) (by omega)) h
  | succ j ih =>
    intro x R hx hR h
    refine br_f (nI_nlt (b := x) (a := 6) (by omega) (by omega)) (pk_eq R L (fun e => ?_) (fun e => ?_))
    · rw [ad_bw, if_pos e] at h
      exact h
    · rw [ad_bw, if_neg e] at h
      exact nm_r (ad_shr2 hR) (nm_r (nI_1 x) (ih (x + 1) (R / 4) (by omega) (by omega) h))
theorem ad_xb {L R : Nat} (hL : L < 2 ^ 31) (hR : R < 2 ^ 31) (f k : Int32) (w : Nat → Int32) {post : Int32 → Prop} (h : post (cond (ad_bw L 7 R) 1 0)) : wpX_beginsWithLabel post (f, nI L, k, w) (nI R) :=
  ⟨8, ad_xbL hL f k w 7 0 R (by omega) hR h⟩
/-! the reference's own methods -/
theorem ad_ya {F : Nat} (hF : F ≤ 6) (k : Int32) (w la pa ra : Nat → Int32) {post : Int32 → Prop} (h : post (nI (2 ^ (2 * F)))) : wpY_all post (nI F, k, w, la, pa, ra) := by
  unfold wpY_all
  dsimp only
  rw [ad_all hF]
  exact h
theorem ad_ysL {F c : Nat} (hF : F ≤ 6) (hc : c < 4096) (k : Int32) (w la ra : Nat → Int32) {post : Int32 → SY → Prop} (h : ∀ pa', (∀ t, t < F → pa' t = nI (ad_mk F c t)) → post (ad_wt w F c F) (nI F, k, w, la, pa', ra)) : ∀ (d t : Nat) (pa : Nat → Int32), t + d = F → (∀ s, s < t → pa s = nI (ad_mk F c s)) → wY_spell_4 post (nI c) (nI F) k (d + 1) (ad_wt w F c t) (nI t) w la pa ra := by
  intro d
  induction d with
  | zero =>
    intro t pa ht hp
    have e : t = F := by omega
    subst e
    exact br_t (nI_le (by omega) (by omega)) (h pa hp)
  | succ d ih =>
    intro t pa ht hp
    have hm := ad_mk_lt F c t
    have e1 : upd pa (nI t).toNatClampNeg ((nI c >>> (((2 : Int32) * ((nI F - 1) - nI t)) &&& 31)) &&& 3) = upd pa t (nI (ad_mk F c t)) := by
      rw [nI_clamp (by omega), ad_mkI hF (by omega) hc]
    have e2 : upd pa t (nI (ad_mk F c t)) (nI t).toNatClampNeg = nI (ad_mk F c t) := by
      rw [nI_clamp (by omega), pk_us]
    have e3 : 4 * nI t + upd pa t (nI (ad_mk F c t)) (nI t).toNatClampNeg = nI (t * 4 + ad_mk F c t) := by
      rw [e2, ad_jx]
    refine br_f (nI_ge (by omega) (by omega)) ⟨pk_in t 6 (by omega), nm_r e1 ⟨pk_in t 6 (by omega), pk_in (t * 4 + ad_mk F c t) 24 (by omega) e3, nm_r (e' := ad_wt w F c (t + 1)) ?_ (nm_r (nI_1 t) (ih (t + 1) _ (by omega) ?_))⟩⟩
    · rw [e3, nI_clamp (by omega)]
      rfl
    · intro s hs
      by_cases e : s = t
      · rw [e, pk_us]
      · rw [pk_un e]; exact hp s (by omega)
theorem ad_ys {F c : Nat} (hF : F ≤ 6) (hc : c < 4096) (k : Int32) (w la pa ra : Nat → Int32) {post : Int32 → SY → Prop} (h : ∀ pa', (∀ t, t < F → pa' t = nI (ad_mk F c t)) → post (ad_wt w F c F) (nI F, k, w, la, pa', ra)) : wpY_spell post (nI F, k, w, la, pa, ra) (nI c) :=
  ⟨F + 1, ad_ysL hF hc k w la ra h F 0 pa (by omega) (fun s hs => absurd hs (by omega))⟩
theorem ad_y33 {n t m : Nat} (hn : n < 6) (ht : t < 6) (hm : m < 4) (f k : Int32) (w la pa ra : Nat → Int32) (hp : pa t = nI m) {post : Int32 → SY → Prop} {J : Int32 → Int32 → (Nat → Int32) → (Nat → Int32) → (Nat → Int32) → (Nat → Int32) → Prop}
    (h0 : m = 0 → J (nI n) (nI (t + 1)) w la pa ra) (h1 : m ≠ 0 → J (nI (n + 1)) (nI (t + 1)) w la pa (upd ra n (nI m))) : wY_reads_33 post J (nI n) (nI t) f k w la pa ra := by
  have ea : pa (nI t).toNatClampNeg = nI m := by rw [nI_clamp (by omega), hp]
  have eb : upd ra (nI n).toNatClampNeg (pa (nI t).toNatClampNeg) = upd ra n (nI m) := by rw [ea, nI_clamp (by omega)]
  unfold wY_reads_33 wY_reads_38
  refine br_f (by decide) ⟨pk_in t 6 ht, ?_⟩
  exact pk_eq m 0 (fun e => nm_r (nI_1 t) (h0 e)) (fun e => ⟨pk_in t 6 ht, pk_in n 6 hn, nm_r eb (nm_r (nI_1 n) (nm_r (nI_1 t) (h1 e)))⟩) ea
theorem ad_yrL {F c : Nat} (hF : F ≤ 6) (k : Int32) (w la pa : Nat → Int32) (hp : ∀ t, t < F → pa t = nI (ad_mk F c t)) {post : Int32 → SY → Prop} (h : ∀ n ra', n ≤ 6 → ad_sp ra' n (ad_rn F c F) → post (nI n) (nI F, k, w, la, pa, ra')) : ∀ (d t n : Nat) (ra : Nat → Int32), t + d = F → n ≤ t → ad_sp ra n (ad_rn F c t) → wY_reads_4 post (nI F) k (d + 1) (nI n) (nI t) w la pa ra := by
  intro d
  induction d with
  | zero =>
    intro t n ra ht hn hs
    have e : t = F := by omega
    subst e
    exact br_t (nI_le (by omega) (by omega)) (h n ra (by omega) hs)
  | succ d ih =>
    intro t n ra ht hn hs
    have hm := ad_mk_lt F c t
    have hpt := hp t (by omega)
    have k0 : ad_rn F c (t + 1) = ad_rn F c t → wY_reads_4 post (nI F) k (d + 1) (nI n) (nI (t + 1)) w la pa ra := by
      intro e
      exact ih (t + 1) n ra (by omega) (by omega) (by rw [e]; exact hs)
    have k1 : ad_mk F c t ≠ ad_pv F c t → ad_mk F c t ≠ 0 → wY_reads_4 post (nI F) k (d + 1) (nI (n + 1)) (nI (t + 1)) w la pa (upd ra n (nI (ad_mk F c t))) := by
      intro e e0
      refine ih (t + 1) (n + 1) _ (by omega) (by omega) ?_
      rw [ad_rn, if_neg e, if_neg e0]
      exact ad_sp_p hs (by omega) (by omega)
    have kz : ad_mk F c t = 0 → ad_rn F c (t + 1) = ad_rn F c t := by
      intro e0
      rw [ad_rn]
      split
      · rfl
      · rfl
    refine br_f (nI_ge (by omega) (by omega)) ?_
    cases t with
    | zero =>
      refine br_t rfl (ad_y33 (by omega) (by omega) hm _ _ _ _ _ _ hpt (fun e => k0 (kz e)) (fun e => k1 ?_ e))
      exact e
    | succ t =>
      have hpq := hp t (by omega)
      have ea : pa (nI (t + 1)).toNatClampNeg = nI (ad_mk F c (t + 1)) := by rw [nI_clamp (by omega), hpt]
      have eb : pa (nI (t + 1) - 1).toNatClampNeg = nI (ad_mk F c t) := by rw [nI_pred, nI_clamp (by omega), hpq]
      have hq := ad_mk_lt F c t
      refine br_f (nI_ne0 (by omega) (by omega)) ⟨pk_in (t + 1) 6 (by omega), pk_in t 6 (by omega) (nI_pred t), ?_⟩
      refine pk_eq (ad_mk F c (t + 1)) (ad_mk F c t) (fun e => ?_) (fun e => ?_) ea eb
      · unfold wY_reads_38
        refine br_t rfl (nm_r (nI_1 (t + 1)) (k0 ?_))
        rw [ad_rn]
        exact if_pos e
      · exact ad_y33 (by omega) (by omega) hm _ _ _ _ _ _ hpt (fun e => k0 (kz e)) (fun e0 => k1 e e0)
theorem ad_yr {F c : Nat} (hF : F ≤ 6) (k : Int32) (w la pa ra : Nat → Int32) (hp : ∀ t, t < F → pa t = nI (ad_mk F c t)) {post : Int32 → SY → Prop} (h : ∀ n ra', n ≤ 6 → ad_sp ra' n (ad_rn F c F) → post (nI n) (nI F, k, w, la, pa, ra')) : wpY_reads post (nI F, k, w, la, pa, ra) :=
  ⟨F + 1, ad_yrL hF k w la pa hp h F 0 0 ra (by omega) (by omega) rfl⟩
theorem ad_yfz {post : Int32 → SY → Prop} (f K : Int32) (w la pa ra : Nat → Int32) (x : Int32) (h : post 0 (f, K, w, la, pa, ra)) (n : Nat) : wY_fits_42 post f K w la pa ra (n + 1) 0 x :=
  br_c (fun _ => ⟨rfl, h⟩) (fun _ => br_t rfl ⟨rfl, h⟩)
theorem ad_yfL {K : Nat} (hK : K ≤ 4) {post : Int32 → SY → Prop} (f : Int32) (w la pa ra : Nat → Int32) : ∀ d k : Nat, k + d = K → (∀ b : Bool, (b = true ↔ ∀ i, k ≤ i → i < K → ra i = la i) → post (cond b 1 0) (f, nI K, w, la, pa, ra)) → wY_fits_42 post f (nI K) w la pa ra (d + 1) 1 (nI k) := by
  intro d
  induction d with
  | zero =>
    intro k hk h
    refine br_t (nI_le (by omega) (by omega)) ⟨rfl, h true ⟨fun _ i h1 h2 => absurd h1 (by omega), fun _ => rfl⟩⟩
  | succ d ih =>
    intro k hk h
    have ec : (nI k).toNatClampNeg = k := nI_clamp (by omega)
    refine br_f (nI_ge (by omega) (by omega)) (br_f (by decide) ⟨pk_in k 6 (by omega), pk_in k 4 (by omega), ?_⟩)
    rw [ec]
    by_cases e : ra k = la k
    · refine br_t e (nm_r (nI_1 k) (ih (k + 1) (by omega) (fun b hb => h b ?_)))
      rw [hb]
      refine ⟨fun g i h1 h2 => ?_, fun g i h1 h2 => g i (by omega) h2⟩
      by_cases ei : i = k
      · rw [ei]; exact e
      · exact g i (by omega) h2
    · refine br_f e (nm_r (nI_1 k) (ad_yfz _ _ _ _ _ _ _ (h false ⟨fun z => (nomatch z), fun g => absurd (g k (by omega) (by omega)) e⟩) d))
theorem ad_yf0 {F c K L : Nat} (hF : F ≤ 6) (hK : K ≤ 4) (w la pa ra : Nat → Int32) (hl : ad_sp la K L) (hp : ∀ t, t < F → pa t = nI (ad_mk F c t)) {post : Int32 → SY → Prop} (h : ∀ ra', post (cond (decide (ad_rn F c F = L)) 1 0) (nI F, nI K, w, la, pa, ra')) : wpY_fits post (nI F, nI K, w, la, pa, ra) 0 := by
  unfold wpY_fits
  dsimp only
  refine ad_yr hF _ _ _ _ _ hp (fun n ra' hn hs => ?_)
  have f := ad_fit hs hl
  refine br_t rfl (pk_eq n K (fun e => ⟨K + 1, ad_yfL hK _ _ _ _ _ K 0 (by omega) (fun b hb => ?_)⟩) (fun e => ⟨1, ad_yfz _ _ _ _ _ _ _ ?_ 0⟩))
  · have eb : decide (ad_rn F c F = L) = b := by
      rw [Bool.eq_iff_iff, hb, decide_eq_true_iff, f]
      exact ⟨fun g i _ hi => g.2 i hi, fun g => ⟨e, fun i hi => g i (by omega) hi⟩⟩
    rw [← eb]
    exact h ra'
  · have g := h ra'
    rw [decide_eq_false (fun z => e (f.mp z).1)] at g
    exact g
theorem ad_yf1 {F c K L : Nat} (hF : F ≤ 6) (hK : K ≤ 4) (w la pa ra : Nat → Int32) (hl : ad_sp la K L) (hp : ∀ t, t < F → pa t = nI (ad_mk F c t)) {post : Int32 → SY → Prop} (h : ∀ ra', post (cond (ad_bw L 7 (ad_rn F c F)) 1 0) (nI F, nI K, w, la, pa, ra')) : wpY_fits post (nI F, nI K, w, la, pa, ra) 1 := by
  unfold wpY_fits
  dsimp only
  refine ad_yr hF _ _ _ _ _ hp (fun n ra' hn hs => ?_)
  have f := ad_pre (j := 7) hs hl (by omega)
  refine br_f (by decide) (pk_lt n K (fun e => ⟨1, ad_yfz _ _ _ _ _ _ _ ?_ 0⟩) (fun e => ⟨K + 1, ad_yfL hK _ _ _ _ _ K 0 (by omega) (fun b hb => ?_)⟩))
  · have g := h ra'
    have z : ad_bw L 7 (ad_rn F c F) = false := by
      rw [← Bool.not_eq_true, f]
      exact fun z => absurd z.1 (by omega)
    rw [z] at g
    exact g
  · have eb : ad_bw L 7 (ad_rn F c F) = b := by
      rw [Bool.eq_iff_iff, hb, f]
      exact ⟨fun g i _ hi => g.2 i hi, fun g => ⟨e, fun i hi => g i (by omega) hi⟩⟩
    rw [← eb]
    exact h ra'
