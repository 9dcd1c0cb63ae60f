section
theorem pk_us {f : Nat → Int32} {k : Nat} {x : Int32} : upd f k x k = x := if_pos rfl
theorem pk_un {f : Nat → Int32} {k j : Nat} {x : Int32} (h : j ≠ k) : upd f k x j = f j := if_neg h
theorem pk_sub {a b : Nat} (h : b ≤ a) : nI a - nI b = nI (a - b) := by
  obtain ⟨c, rfl⟩ : ∃ c, a = c + b := ⟨a - b, by omega⟩
  rw [← nI_add, Int32.add_sub_cancel, Nat.add_sub_cancel]
theorem pk_mul (a b : Nat) : nI a * nI b = nI (a * b) := (Int32.ofNat_mul a b).symm
theorem pk_div {a d : Nat} (ha : a < 2 ^ 31) (h0 : 0 < d) (hd : d < 2 ^ 31) : nI a / nI d = nI (a / d) := by
  apply Int32.toInt_inj.mp
  rw [lg_idiv_nonneg (by rw [nI_toInt ha]; omega) (by rw [nI_toInt hd]; omega), nI_toInt ha, nI_toInt hd, nI_toInt (Nat.lt_of_le_of_lt (Nat.div_le_self a d) ha)]
  first | rfl | exact (Int.natCast_ediv _ _).symm
theorem pk_rem {a d : Nat} (ha : a < 2 ^ 31) (h0 : 0 < d) (hd : d < 2 ^ 31) : nI a - nI a / nI d * nI d = nI (a % d) := by
  rw [pk_div ha h0 hd, pk_mul, pk_sub (Nat.div_mul_le_self a d)]
  exact congrArg nI (by have := Nat.div_add_mod' a d; omega)
theorem pk_ix (x : Int32) {n : Nat} (hn : n < 2 ^ 31) : x < 0 ∨ nI n ≤ x ∨ ∃ j : Nat, j < n ∧ x = nI j := by
  by_cases h : x < 0
  · exact Or.inl h
  · obtain ⟨j, hj, rfl⟩ := nI_of h
    by_cases h2 : j < n
    · exact Or.inr (Or.inr ⟨j, h2, rfl⟩)
    · exact Or.inr (Or.inl (nI_le (by omega) hj))
theorem pk_le {x y : Int32} {A B : Prop} (a b : Nat) (f : a ≤ b → A) (g : b < a → B) (hx : x = nI a := by rfl) (hy : y = nI b := by rfl) (ha : a < 2 ^ 31 := by omega) (hb : b < 2 ^ 31 := by omega) : (x ≤ y → A) ∧ (¬ x ≤ y → B) := by
  subst hx hy
  rw [nI_leI ha hb]
  exact ⟨f, fun z => g (by omega)⟩
theorem pk_lt {x y : Int32} {A B : Prop} (a b : Nat) (f : a < b → A) (g : b ≤ a → B) (hx : x = nI a := by rfl) (hy : y = nI b := by rfl) (ha : a < 2 ^ 31 := by omega) (hb : b < 2 ^ 31 := by omega) : (x < y → A) ∧ (¬ x < y → B) := by
  subst hx hy
  rw [nI_ltI ha hb]
  exact ⟨f, fun z => g (by omega)⟩
theorem pk_eq {x y : Int32} {A B : Prop} (a b : Nat) (f : a = b → A) (g : a ≠ b → B) (hx : x = nI a := by rfl) (hy : y = nI b := by rfl) (ha : a < 2 ^ 31 := by omega) (hb : b < 2 ^ 31 := by omega) : (x = y → A) ∧ (¬ x = y → B) := by
  subst hx hy
  rw [nI_eq ha hb]
  exact ⟨f, g⟩
theorem pk_in {x : Int32} (n N : Nat) (h : n < N) (hx : x = nI n := by rfl) (hN : N < 2 ^ 31 := by omega) : vp_in x N := by
  subst hx
  exact vp_in_nI h hN
theorem pk_cl {x : Int32} (n : Nat) (hx : x = nI n := by rfl) (h : n < 2 ^ 31 := by omega) : x.toNatClampNeg = n := by
  subst hx
  exact nI_clamp h
theorem pk_tn {n : Nat} (h : n < 2 ^ 32) : (nI n).toBitVec.toNat = n := Nat.mod_eq_of_lt h
theorem pk_and (x : Int32) {m : Int32} (k : Nat) (hm : m.toBitVec.toNat = 2 ^ k - 1) : x &&& m = nI (x.toBitVec.toNat % 2 ^ k) := by
  apply Int32.toBitVec_inj.mp
  apply BitVec.eq_of_toNat_eq
  rw [Int32.toBitVec_and, BitVec.toNat_and, hm, Nat.and_two_pow_sub_one_eq_mod]
  show _ = (BitVec.ofNat 32 _).toNat
  rw [BitVec.toNat_ofNat]
  exact (Nat.mod_eq_of_lt (Nat.lt_of_le_of_lt (Nat.mod_le _ _) x.toBitVec.isLt)).symm
theorem pk_andN {n : Nat} (h : n < 2 ^ 32) {m : Int32} (k : Nat) (hm : m.toBitVec.toNat = 2 ^ k - 1) : nI n &&& m = nI (n % 2 ^ k) := by
  rw [pk_and _ k hm, pk_tn h]
theorem pk_shl (a s : Int32) (k : Nat) (hs : (s.toBitVec.smod 32).toNat = k) : (a <<< s).toBitVec.toNat = a.toBitVec.toNat * 2 ^ k % 2 ^ 32 := by
  show (a.toBitVec <<< (s.toBitVec.smod 32).toNat).toNat = _
  rw [hs, BitVec.toNat_shiftLeft, Nat.shiftLeft_eq]
theorem pk_shlN {n : Nat} (s : Int32) (k : Nat) (hs : (s.toBitVec.smod 32).toNat = k) (h : n * 2 ^ k < 2 ^ 32) : nI n <<< s = nI (n * 2 ^ k) := by
  apply Int32.toBitVec_inj.mp
  apply BitVec.eq_of_toNat_eq
  have hn : n < 2 ^ 32 := Nat.lt_of_le_of_lt (Nat.le_mul_of_pos_right n (Nat.two_pow_pos k)) h
  rw [pk_shl _ _ k hs, pk_tn hn, pk_tn h, Nat.mod_eq_of_lt h]
theorem pk_shr (a s : Int32) (k : Nat) (hs : (s.toBitVec.smod 32).toNat = k) : (a >>> s).toInt = a.toInt >>> k := by
  show (a.toBitVec.sshiftRight (s.toBitVec.smod 32).toNat).toInt = _
  rw [hs, BitVec.toInt_sshiftRight]
  rfl
theorem pk_shrN {n : Nat} (h : n < 2 ^ 31) (s : Int32) (k : Nat) (hs : (s.toBitVec.smod 32).toNat = k) : nI n >>> s = nI (n / 2 ^ k) := by
  apply Int32.toInt_inj.mp
  have h2 : n / 2 ^ k ≤ n := Nat.div_le_self _ _
  rw [pk_shr _ _ k hs, nI_toInt h, nI_toInt (by omega), Int.shiftRight_eq_div_pow]
  rfl
theorem ad_sl : ∀ n, n < 32 → ((nI n &&& 31).toBitVec.smod 32).toNat = n := by decide +kernel
/-- the shift count that both sides use -/
theorem ad_cnt {F t : Nat} (hF : F ≤ 6) (ht : t < F) : (2 : Int32) * ((nI F - 1) - nI t) = nI (2 * (F - 1 - t)) := by
  have e1 : nI F - 1 = nI (F - 1) := pk_sub (a := F) (b := 1) (by omega)
  rw [e1, pk_sub (by omega)]
  exact pk_mul 2 _
theorem ad_or {a m : Nat} (hm : m < 4) (ha : a < 2 ^ 24) : (nI a <<< ((2 : Int32) &&& 31)) ||| nI m = nI (4 * a + m) := by
  have e1 : nI a <<< ((2 : Int32) &&& 31) = nI (a * 2 ^ 2) := pk_shlN _ 2 (by decide) (by omega)
  rw [e1]
  apply Int32.toBitVec_inj.mp
  apply BitVec.eq_of_toNat_eq
  rw [Int32.toBitVec_or, BitVec.toNat_or, pk_tn (by omega), pk_tn (by omega), pk_tn (by omega)]
  have h := Nat.shiftLeft_add_eq_or_of_lt (a := a) (b := m) (i := 2) (by omega)
  rw [Nat.shiftLeft_eq] at h
  omega
theorem ad_shr2 {a : Nat} (ha : a < 2 ^ 31) : nI a >>> ((2 : Int32) &&& 31) = nI (a / 4) := pk_shrN ha _ 2 (by decide)
theorem ad_and3 {a : Nat} (ha : a < 2 ^ 31) : nI a &&& 3 = nI (a % 4) := pk_andN (by omega) 2 (by decide)
theorem ad_all {F : Nat} (hF : F ≤ 6) : (1 : Int32) <<< (((2 : Int32) * nI F) &&& 31) = nI (2 ^ (2 * F)) := by
  have e : (2 : Int32) * nI F = nI (2 * F) := pk_mul 2 F
  have hp : 2 ^ (2 * F) ≤ 2 ^ 12 := Nat.pow_le_pow_right (by omega) (by omega)
  have h := pk_shlN (n := 1) (nI (2 * F) &&& 31) (2 * F) (ad_sl _ (by omega)) (by omega)
  rw [e]
  rw [Nat.one_mul] at h
  exact h
theorem ad_big {F : Nat} (hF : F ≤ 6) : 2 ^ (2 * F) ≤ 4096 := by
  have h : 2 ^ (2 * F) ≤ 2 ^ 12 := Nat.pow_le_pow_right (by omega) (by omega)
  exact h
/-- the mark of the path c at frame t -/
def ad_mk (F c t : Nat) : Nat := c / 2 ^ (2 * (F - 1 - t)) % 4
theorem ad_mk_lt (F c t : Nat) : ad_mk F c t < 4 := Nat.mod_lt _ (by omega)
theorem ad_mkI {F c t : Nat} (hF : F ≤ 6) (ht : t < F) (hc : c < 4096) : (nI c >>> (((2 : Int32) * ((nI F - 1) - nI t)) &&& 31)) &&& 3 = nI (ad_mk F c t) := by
  rw [ad_cnt hF ht, pk_shrN (by omega) (nI (2 * (F - 1 - t)) &&& 31) (2 * (F - 1 - t)) (ad_sl _ (by omega))]
  exact ad_and3 (Nat.lt_of_le_of_lt (Nat.div_le_self _ _) (by omega))
/-- cells 0 .. 8 -/
def ad_ok (w : Nat → Int32) : Prop := ∀ j, ∃ c, c ≤ 8 ∧ w j = nI c
theorem ad_ok0 : ad_ok (fun _ => 0) := fun _ => ⟨0, by omega, rfl⟩
theorem ad_okU {w : Nat → Int32} (h : ad_ok w) {c : Nat} (hc : c ≤ 8) (k : Nat) : ad_ok (upd w k (nI c)) := by
  intro j
  by_cases e : j = k
  · rw [e, pk_us]; exact ⟨c, hc, rfl⟩
  · rw [pk_un e]; exact h j
/-- the product of the first t weights of the path c -/
def ad_wt (w : Nat → Int32) (F c : Nat) : Nat → Int32
  | 0 => 1
  | t + 1 => ad_wt w F c t * w (t * 4 + ad_mk F c t)
theorem ad_wt_le {w : Nat → Int32} (h : ad_ok w) (F c : Nat) : ∀ t, ∃ p, p ≤ 8 ^ t ∧ ad_wt w F c t = nI p
  | 0 => ⟨1, by omega, rfl⟩
  | t + 1 => by
    obtain ⟨p, hp, ep⟩ := ad_wt_le h F c t
    obtain ⟨q, hq, eq⟩ := h (t * 4 + ad_mk F c t)
    refine ⟨p * q, ?_, ?_⟩
    · rw [Nat.pow_succ]; exact Nat.mul_le_mul hp hq
    · rw [ad_wt, ep, eq, pk_mul]
theorem ad_wtF {w : Nat → Int32} (h : ad_ok w) {F : Nat} (hF : F ≤ 6) (c : Nat) : ∃ p, p ≤ 262144 ∧ ad_wt w F c F = nI p := by
  obtain ⟨p, hp, ep⟩ := ad_wt_le h F c F
  have h6 : 8 ^ F ≤ 8 ^ 6 := Nat.pow_le_pow_right (by omega) hF
  exact ⟨p, Nat.le_trans hp h6, ep⟩
/-- the mark before frame t -/
def ad_pv (F c : Nat) : Nat → Nat
  | 0 => 0
  | t + 1 => ad_mk F c t
/-- what the first t frames of the path c read -/
def ad_rn (F c : Nat) : Nat → Nat
  | 0 => 0
  | t + 1 => if ad_mk F c t = ad_pv F c t then ad_rn F c t else if ad_mk F c t = 0 then ad_rn F c t else 4 * ad_rn F c t + ad_mk F c t
theorem ad_rn_lt (F c : Nat) : ∀ t, ad_rn F c t < 4 ^ t
  | 0 => by rw [ad_rn]; omega
  | t + 1 => by
    have ih := ad_rn_lt F c t
    have hm := ad_mk_lt F c t
    rw [ad_rn, Nat.pow_succ]
    split
    · omega
    · split <;> omega
theorem ad_rnB (F c : Nat) {t : Nat} (ht : t ≤ 6) : ad_rn F c t < 4096 := by
  have h6 : 4 ^ t ≤ 4 ^ 6 := Nat.pow_le_pow_right (by omega) ht
  exact Nat.lt_of_lt_of_le (ad_rn_lt F c t) h6
/-- the first n cells of a, marks 1 .. 3, spell the number R -/
def ad_sp (a : Nat → Int32) : Nat → Nat → Prop
  | 0, R => R = 0
  | n + 1, R => ∃ m q, 1 ≤ m ∧ m ≤ 3 ∧ a n = nI m ∧ R = 4 * q + m ∧ ad_sp a n q
theorem ad_sp_c {a b : Nat → Int32} : ∀ {n R : Nat}, (∀ k, k < n → b k = a k) → ad_sp a n R → ad_sp b n R
  | 0, _, _, h => h
  | n + 1, _, e, ⟨m, q, h1, h3, ea, er, h⟩ => ⟨m, q, h1, h3, (e n (by omega)).trans ea, er, ad_sp_c (fun k hk => e k (by omega)) h⟩
theorem ad_sp_p {a : Nat → Int32} {n R m : Nat} (h : ad_sp a n R) (h1 : 1 ≤ m) (h3 : m ≤ 3) : ad_sp (upd a n (nI m)) (n + 1) (4 * R + m) :=
  ⟨m, R, h1, h3, pk_us, rfl, ad_sp_c (fun k hk => pk_un (by omega)) h⟩
theorem ad_sp_lt {a : Nat → Int32} : ∀ {n R : Nat}, ad_sp a n R → R < 4 ^ n
  | 0, R, h => by have h : R = 0 := h; omega
  | n + 1, R, ⟨m, q, h1, h3, ea, er, h⟩ => by
    have := ad_sp_lt h
    rw [Nat.pow_succ]; omega
theorem ad_sp_k {a : Nat → Int32} : ∀ {n R : Nat}, ad_sp a n R → ∀ k, k < n → ∃ m, 1 ≤ m ∧ m ≤ 3 ∧ a k = nI m
  | 0, _, _, k, hk => absurd hk (by omega)
  | n + 1, _, ⟨m, q, h1, h3, ea, er, h⟩, k, hk => by
    by_cases e : k = n
    · rw [e]; exact ⟨m, h1, h3, ea⟩
    · exact ad_sp_k h k (by omega)
/-- two spellings are the same number if and only if they are the same marks -/
theorem ad_fit {a b : Nat → Int32} : ∀ {n m R L : Nat}, ad_sp a n R → ad_sp b m L → (R = L ↔ n = m ∧ ∀ k, k < m → a k = b k)
  | 0, 0, R, L, h, g => by
    have h : R = 0 := h
    have g : L = 0 := g
    exact ⟨fun _ => ⟨rfl, fun k hk => absurd hk (by omega)⟩, fun _ => by omega⟩
  | 0, m + 1, R, L, h, ⟨x, q, h1, h3, ea, er, g⟩ => by
    have h : R = 0 := h
    exact ⟨fun e => by omega, fun e => absurd e.1 (by omega)⟩
  | n + 1, 0, R, L, ⟨x, q, h1, h3, ea, er, h⟩, g => by
    have g : L = 0 := g
    exact ⟨fun e => by omega, fun e => absurd e.1 (by omega)⟩
  | n + 1, m + 1, R, L, ⟨x, q, h1, h3, ea, er, h⟩, ⟨x', q', h1', h3', ea', er', g⟩ => by
    have ih := ad_fit h g
    constructor
    · intro e
      have ex : x = x' := by omega
      obtain ⟨e1, e2⟩ := ih.mp (by omega)
      subst e1
      refine ⟨rfl, fun k hk => ?_⟩
      by_cases ek : k = n
      · rw [ek, ea, ea', ex]
      · exact e2 k (by omega)
    · intro ⟨e1, e2⟩
      have e1 : n = m := by omega
      subst e1
      have e3 := ih.mpr ⟨rfl, fun k hk => e2 k (by omega)⟩
      have e4 := e2 n (by omega)
      rw [ea, ea', nI_eq (by omega) (by omega)] at e4
      omega
/-- cutting marks off the end of R, j times looked at: is L met? -/
def ad_bw (L : Nat) : Nat → Nat → Bool
  | 0, _ => false
  | j + 1, R => if R = L then true else ad_bw L j (R / 4)
theorem ad_bw0 {L : Nat} (h : L ≠ 0) : ∀ j, ad_bw L j 0 = false
  | 0 => rfl
  | j + 1 => by rw [ad_bw, if_neg (by omega)]; exact ad_bw0 h j
theorem ad_pre {a b : Nat → Int32} : ∀ {n m R L j : Nat}, ad_sp a n R → ad_sp b m L → n < j → (ad_bw L j R = true ↔ m ≤ n ∧ ∀ k, k < m → a k = b k)
  | _, _, _, _, 0, _, _, hj => absurd hj (by omega)
  | 0, m, R, L, j + 1, h, g, _ => by
    have f := ad_fit h g
    have h : R = 0 := h
    rw [ad_bw]
    by_cases e : R = L
    · rw [if_pos e]
      have e2 := f.mp e
      exact ⟨fun _ => ⟨by omega, e2.2⟩, fun _ => rfl⟩
    · have z : R / 4 = 0 := by omega
      rw [if_neg e, z, ad_bw0 (by omega)]
      exact ⟨fun z => (nomatch z), fun ⟨e1, e2⟩ => absurd (f.mpr ⟨by omega, e2⟩) e⟩
  | n + 1, m, R, L, j + 1, h, g, hj => by
    have f := ad_fit h g
    obtain ⟨x, q, h1, h3, ea, er, h'⟩ := h
    have ih := ad_pre (j := j) h' g (by omega)
    rw [ad_bw]
    by_cases e : R = L
    · rw [if_pos e]
      have e2 := f.mp e
      exact ⟨fun _ => ⟨by omega, e2.2⟩, fun _ => rfl⟩
    · have z : R / 4 = q := by omega
      rw [if_neg e, z, ih]
      refine ⟨fun ⟨e1, e2⟩ => ⟨by omega, e2⟩, fun ⟨e1, e2⟩ => ⟨?_, e2⟩⟩
      by_cases e3 : n + 1 = m
      · exact absurd (f.mpr ⟨e3, e2⟩) e
      · omega
end
section
theorem ad_ix (t m : Nat) : nI t * 4 + nI m = nI (t * 4 + m) := by
  have e : nI t * 4 = nI (t * 4) := pk_mul t 4
  rw [e, nI_add]
theorem ad_jx (t m : Nat) : 4 * nI t + nI m = nI (t * 4 + m) := by
  have e : 4 * nI t = nI (4 * t) := pk_mul 4 t
  rw [e, nI_add, Nat.mul_comm]
/-! the class's own methods -/
theorem ad_xm {F c t : Nat} (hF : F ≤ 6) (ht : t < F) (hc : c < 4096) (l k : Int32) (w : Nat → Int32) {post : Int32 → Prop} (h : post (nI (ad_mk F c t))) : wpX_markOf post (nI F, l, k, w) (nI c) (nI t) := by
  unfold wpX_markOf
  dsimp only
  rw [ad_mkI hF ht hc]
  exact h
theorem ad_xa {a m : Nat} (hm : m < 4) (ha : a < 2 ^ 24) (f l k : Int32) (w : Nat → Int32) {post : Int32 → Prop} (h : post (nI (4 * a + m))) : wpX_appended post (f, l, k, w) (nI a) (nI m) := by
  unfold wpX_appended
  dsimp only
  rw [ad_or hm ha]
  exact h
theorem ad_xp {F : Nat} (hF : F ≤ 6) (l k : Int32) (w : Nat → Int32) {post : Int32 → Prop} (h : post (nI (2 ^ (2 * F)))) : wpX_pathCount post (nI F, l, k, w) := by
  unfold wpX_pathCount
  dsimp only
  rw [ad_all hF]
  exact h
theorem ad_xwL {F c : Nat} (hF : F ≤ 6) (hc : c < 4096) (l k : Int32) (w : Nat → Int32) {post : Int32 → Prop} (h : post (ad_wt w F c F)) : ∀ d t : Nat, t + d = F → wX_weightOf_4 post (nI c) (nI F) l k w (d + 1) (ad_wt w F c t) (nI t) := by
  intro d
  induction d with
  | zero =>
    intro t ht
    have e : t = F := by omega
    subst e
    exact br_t (nI_le (by omega) (by omega)) h
  | succ d ih =>
    intro t ht
    have hm := ad_mk_lt F c t
    refine br_f (nI_ge (by omega) (by omega)) (ad_xm hF (by omega) hc _ _ _ ?_)
    refine ⟨pk_in (t * 4 + ad_mk F c t) 24 (by omega) (ad_ix _ _), nm_r (e' := ad_wt w F c (t + 1)) ?_ (nm_r (nI_1 t) (ih (t + 1) (by omega)))⟩
    rw [ad_ix, nI_clamp (by omega)]
    rfl
theorem ad_xw {F c : Nat} (hF : F ≤ 6) (hc : c < 4096) (l k : Int32) (w : Nat → Int32) {post : Int32 → Prop} (h : post (ad_wt w F c F)) : wpX_weightOf post (nI F, l, k, w) (nI c) :=
  ⟨F + 1, ad_xwL hF hc l k w h F 0 (by omega)⟩
theorem ad_xrL {F c : Nat} (hF : F ≤ 6) (hc : c < 4096) (l k : Int32) (w : Nat → Int32) {post : Int32 → Prop} (h : post (nI (ad_rn F c F))) : ∀ d t : Nat, t + d = F → wX_readingOf_7 post (nI c) (nI F) l k w (d + 1) (nI (ad_rn F c t)) (nI (ad_pv F c t)) (nI t) := by
  intro d
  induction d with
  | zero =>
    intro t ht
    have e : t = F := by omega
    subst e
    exact br_t (nI_le (by omega) (by omega)) h
  | succ d ih =>
    intro t ht
    have hm := ad_mk_lt F c t
    have hr := ad_rnB F c (t := t) (by omega)
    have hv : ad_pv F c t < 4 := by
      cases t with
      | zero => rw [ad_pv]; omega
      | succ t => exact ad_mk_lt F c t
    have hi := ih (t + 1) (by omega)
    refine br_f (nI_ge (by omega) (by omega)) (ad_xm hF (by omega) hc _ _ _ ?_)
    refine pk_eq (ad_mk F c t) (ad_pv F c t) (fun e => ?_) (fun e => pk_eq (ad_mk F c t) 0 (fun e0 => ?_) (fun e0 => ?_))
    · rw [ad_rn, if_pos e] at hi
      exact nm_r (nI_1 t) hi
    · rw [ad_rn, if_neg e, if_pos e0] at hi
      exact nm_r (nI_1 t) hi
    · rw [ad_rn, if_neg e, if_neg e0] at hi
      exact ad_xa hm (by omega) _ _ _ _ (nm_r (nI_1 t) hi)
theorem ad_xr {F c : Nat} (hF : F ≤ 6) (hc : c < 4096) (l k : Int32) (w : Nat → Int32) {post : Int32 → Prop} (h : post (nI (ad_rn F c F))) : wpX_readingOf post (nI F, l, k, w) (nI c) :=
  ⟨F + 1, ad_xrL hF hc l k w h F 0 (by omega)⟩
theorem ad_xbL {L : Nat} (hL : L < 2 ^ 31) (f k : Int32) (w : Nat → Int32) {post : Int32 → Prop} : ∀ j x R : Nat, x + j = 7 → R < 2 ^ 31 → post (cond (ad_bw L j R) 1 0) → wX_beginsWithLabel_4 post f (nI L) k w (j + 1) (nI R) (nI x) := by
  intro j
  induction j with
  | zero =>
    intro x R hx hR h
    exact br_t (nI_lt (a := 6) (b := x) (by omega) (by omega)) h
  | succ j ih =>
    intro x R hx hR h
    refine br_f (nI_nlt (b := x) (a := 6) (by omega) (by omega)) (pk_eq R L (fun e => ?_) (fun e => ?_))
    · rw [ad_bw, if_pos e] at h
      exact h
    · rw [ad_bw, if_neg e] at h
      exact nm_r (ad_shr2 hR) (nm_r (nI_1 x) (ih (x + 1) (R / 4) (by omega) (by omega) h))
theorem ad_xb {L R : Nat} (hL : L < 2 ^ 31) (hR : R < 2 ^ 31) (f k : Int32) (w : Nat → Int32) {post : Int32 → Prop} (h : post (cond (ad_bw L 7 R) 1 0)) : wpX_beginsWithLabel post (f, nI L, k, w) (nI R) :=
  ⟨8, ad_xbL hL f k w 7 0 R (by omega) hR h⟩
/-! the reference's own methods -/
theorem ad_ya {F : Nat} (hF : F ≤ 6) (k : Int32) (w la pa ra : Nat → Int32) {post : Int32 → Prop} (h : post (nI (2 ^ (2 * F)))) : wpY_all post (nI F, k, w, la, pa, ra) := by
  unfold wpY_all
  dsimp only
  rw [ad_all hF]
  exact h
theorem ad_ysL {F c : Nat} (hF : F ≤ 6) (hc : c < 4096) (k : Int32) (w la ra : Nat → Int32) {post : Int32 → SY → Prop} (h : ∀ pa', (∀ t, t < F → pa' t = nI (ad_mk F c t)) → post (ad_wt w F c F) (nI F, k, w, la, pa', ra)) : ∀ (d t : Nat) (pa : Nat → Int32), t + d = F → (∀ s, s < t → pa s = nI (ad_mk F c s)) → wY_spell_4 post (nI c) (nI F) k (d + 1) (ad_wt w F c t) (nI t) w la pa ra := by
  intro d
  induction d with
  | zero =>
    intro t pa ht hp
    have e : t = F := by omega
    subst e
    exact br_t (nI_le (by omega) (by omega)) (h pa hp)
  | succ d ih =>
    intro t pa ht hp
    have hm := ad_mk_lt F c t
    have e1 : upd pa (nI t).toNatClampNeg ((nI c >>> (((2 : Int32) * ((nI F - 1) - nI t)) &&& 31)) &&& 3) = upd pa t (nI (ad_mk F c t)) := by
      rw [nI_clamp (by omega), ad_mkI hF (by omega) hc]
    have e2 : upd pa t (nI (ad_mk F c t)) (nI t).toNatClampNeg = nI (ad_mk F c t) := by
      rw [nI_clamp (by omega), pk_us]
    have e3 : 4 * nI t + upd pa t (nI (ad_mk F c t)) (nI t).toNatClampNeg = nI (t * 4 + ad_mk F c t) := by
      rw [e2, ad_jx]
    refine br_f (nI_ge (by omega) (by omega)) ⟨pk_in t 6 (by omega), nm_r e1 ⟨pk_in t 6 (by omega), pk_in (t * 4 + ad_mk F c t) 24 (by omega) e3, nm_r (e' := ad_wt w F c (t + 1)) ?_ (nm_r (nI_1 t) (ih (t + 1) _ (by omega) ?_))⟩⟩
    · rw [e3, nI_clamp (by omega)]
      rfl
    · intro s hs
      by_cases e : s = t
      · rw [e, pk_us]
      · rw [pk_un e]; exact hp s (by omega)
theorem ad_ys {F c : Nat} (hF : F ≤ 6) (hc : c < 4096) (k : Int32) (w la pa ra : Nat → Int32) {post : Int32 → SY → Prop} (h : ∀ pa', (∀ t, t < F → pa' t = nI (ad_mk F c t)) → post (ad_wt w F c F) (nI F, k, w, la, pa', ra)) : wpY_spell post (nI F, k, w, la, pa, ra) (nI c) :=
  ⟨F + 1, ad_ysL hF hc k w la ra h F 0 pa (by omega) (fun s hs => absurd hs (by omega))⟩
theorem ad_y33 {n t m : Nat} (hn : n < 6) (ht : t < 6) (hm : m < 4) (f k : Int32) (w la pa ra : Nat → Int32) (hp : pa t = nI m) {post : Int32 → SY → Prop} {J : Int32 → Int32 → (Nat → Int32) → (Nat → Int32) → (Nat → Int32) → (Nat → Int32) → Prop}
    (h0 : m = 0 → J (nI n) (nI (t + 1)) w la pa ra) (h1 : m ≠ 0 → J (nI (n + 1)) (nI (t + 1)) w la pa (upd ra n (nI m))) : wY_reads_33 post J (nI n) (nI t) f k w la pa ra := by
  have ea : pa (nI t).toNatClampNeg = nI m := by rw [nI_clamp (by omega), hp]
  have eb : upd ra (nI n).toNatClampNeg (pa (nI t).toNatClampNeg) = upd ra n (nI m) := by rw [ea, nI_clamp (by omega)]
  unfold wY_reads_33 wY_reads_38
  refine br_f (by decide) ⟨pk_in t 6 ht, ?_⟩
  exact pk_eq m 0 (fun e => nm_r (nI_1 t) (h0 e)) (fun e => ⟨pk_in t 6 ht, pk_in n 6 hn, nm_r eb (nm_r (nI_1 n) (nm_r (nI_1 t) (h1 e)))⟩) ea
theorem ad_yrL {F c : Nat} (hF : F ≤ 6) (k : Int32) (w la pa : Nat → Int32) (hp : ∀ t, t < F → pa t = nI (ad_mk F c t)) {post : Int32 → SY → Prop} (h : ∀ n ra', n ≤ 6 → ad_sp ra' n (ad_rn F c F) → post (nI n) (nI F, k, w, la, pa, ra')) : ∀ (d t n : Nat) (ra : Nat → Int32), t + d = F → n ≤ t → ad_sp ra n (ad_rn F c t) → wY_reads_4 post (nI F) k (d + 1) (nI n) (nI t) w la pa ra := by
  intro d
  induction d with
  | zero =>
    intro t n ra ht hn hs
    have e : t = F := by omega
    subst e
    exact br_t (nI_le (by omega) (by omega)) (h n ra (by omega) hs)
  | succ d ih =>
    intro t n ra ht hn hs
    have hm := ad_mk_lt F c t
    have hpt := hp t (by omega)
    have k0 : ad_rn F c (t + 1) = ad_rn F c t → wY_reads_4 post (nI F) k (d + 1) (nI n) (nI (t + 1)) w la pa ra := by
      intro e
      exact ih (t + 1) n ra (by omega) (by omega) (by rw [e]; exact hs)
    have k1 : ad_mk F c t ≠ ad_pv F c t → ad_mk F c t ≠ 0 → wY_reads_4 post (nI F) k (d + 1) (nI (n + 1)) (nI (t + 1)) w la pa (upd ra n (nI (ad_mk F c t))) := by
      intro e e0
      refine ih (t + 1) (n + 1) _ (by omega) (by omega) ?_
      rw [ad_rn, if_neg e, if_neg e0]
      exact ad_sp_p hs (by omega) (by omega)
    have kz : ad_mk F c t = 0 → ad_rn F c (t + 1) = ad_rn F c t := by
      intro e0
      rw [ad_rn]
      split
      · rfl
      · rfl
    refine br_f (nI_ge (by omega) (by omega)) ?_
    cases t with
    | zero =>
      refine br_t rfl (ad_y33 (by omega) (by omega) hm _ _ _ _ _ _ hpt (fun e => k0 (kz e)) (fun e => k1 ?_ e))
      exact e
    | succ t =>
      have hpq := hp t (by omega)
      have ea : pa (nI (t + 1)).toNatClampNeg = nI (ad_mk F c (t + 1)) := by rw [nI_clamp (by omega), hpt]
      have eb : pa (nI (t + 1) - 1).toNatClampNeg = nI (ad_mk F c t) := by rw [nI_pred, nI_clamp (by omega), hpq]
      have hq := ad_mk_lt F c t
      refine br_f (nI_ne0 (by omega) (by omega)) ⟨pk_in (t + 1) 6 (by omega), pk_in t 6 (by omega) (nI_pred t), ?_⟩
      refine pk_eq (ad_mk F c (t + 1)) (ad_mk F c t) (fun e => ?_) (fun e => ?_) ea eb
      · unfold wY_reads_38
        refine br_t rfl (nm_r (nI_1 (t + 1)) (k0 ?_))
        rw [ad_rn]
        exact if_pos e
      · exact ad_y33 (by omega) (by omega) hm _ _ _ _ _ _ hpt (fun e => k0 (kz e)) (fun e0 => k1 e e0)
theorem ad_yr {F c : Nat} (hF : F ≤ 6) (k : Int32) (w la pa ra : Nat → Int32) (hp : ∀ t, t < F → pa t = nI (ad_mk F c t)) {post : Int32 → SY → Prop} (h : ∀ n ra', n ≤ 6 → ad_sp ra' n (ad_rn F c F) → post (nI n) (nI F, k, w, la, pa, ra')) : wpY_reads post (nI F, k, w, la, pa, ra) :=
  ⟨F + 1, ad_yrL hF k w la pa hp h F 0 0 ra (by omega) (by omega) rfl⟩
theorem ad_yfz {post : Int32 → SY → Prop} (f K : Int32) (w la pa ra : Nat → Int32) (x : Int32) (h : post 0 (f, K, w, la, pa, ra)) (n : Nat) : wY_fits_42 post f K w la pa ra (n + 1) 0 x :=
  br_c (fun _ => ⟨rfl, h⟩) (fun _ => br_t rfl ⟨rfl, h⟩)
theorem ad_yfL {K : Nat} (hK : K ≤ 4) {post : Int32 → SY → Prop} (f : Int32) (w la pa ra : Nat → Int32) : ∀ d k : Nat, k + d = K → (∀ b : Bool, (b = true ↔ ∀ i, k ≤ i → i < K → ra i = la i) → post (cond b 1 0) (f, nI K, w, la, pa, ra)) → wY_fits_42 post f (nI K) w la pa ra (d + 1) 1 (nI k) := by
  intro d
  induction d with
  | zero =>
    intro k hk h
    refine br_t (nI_le (by omega) (by omega)) ⟨rfl, h true ⟨fun _ i h1 h2 => absurd h1 (by omega), fun _ => rfl⟩⟩
  | succ d ih =>
    intro k hk h
    have ec : (nI k).toNatClampNeg = k := nI_clamp (by omega)
    refine br_f (nI_ge (by omega) (by omega)) (br_f (by decide) ⟨pk_in k 6 (by omega), pk_in k 4 (by omega), ?_⟩)
    rw [ec]
    by_cases e : ra k = la k
    · refine br_t e (nm_r (nI_1 k) (ih (k + 1) (by omega) (fun b hb => h b ?_)))
      rw [hb]
      refine ⟨fun g i h1 h2 => ?_, fun g i h1 h2 => g i (by omega) h2⟩
      by_cases ei : i = k
      · rw [ei]; exact e
      · exact g i (by omega) h2
    · refine br_f e (nm_r (nI_1 k) (ad_yfz _ _ _ _ _ _ _ (h false ⟨fun z => (nomatch z), fun g => absurd (g k (by omega) (by omega)) e⟩) d))
theorem ad_yf0 {F c K L : Nat} (hF : F ≤ 6) (hK : K ≤ 4) (w la pa ra : Nat → Int32) (hl : ad_sp la K L) (hp : ∀ t, t < F → pa t = nI (ad_mk F c t)) {post : Int32 → SY → Prop} (h : ∀ ra', post (cond (decide (ad_rn F c F = L)) 1 0) (nI F, nI K, w, la, pa, ra')) : wpY_fits post (nI F, nI K, w, la, pa, ra) 0 := by
  unfold wpY_fits
  dsimp only
  refine ad_yr hF _ _ _ _ _ hp (fun n ra' hn hs => ?_)
  have f := ad_fit hs hl
  refine br_t rfl (pk_eq n K (fun e => ⟨K + 1, ad_yfL hK _ _ _ _ _ K 0 (by omega) (fun b hb => ?_)⟩) (fun e => ⟨1, ad_yfz _ _ _ _ _ _ _ ?_ 0⟩))
  · have eb : decide (ad_rn F c F = L) = b := by
      rw [Bool.eq_iff_iff, hb, decide_eq_true_iff, f]
      exact ⟨fun g i _ hi => g.2 i hi, fun g => ⟨e, fun i hi => g i (by omega) hi⟩⟩
    rw [← eb]
    exact h ra'
  · have g := h ra'
    rw [decide_eq_false (fun z => e (f.mp z).1)] at g
    exact g
theorem ad_yf1 {F c K L : Nat} (hF : F ≤ 6) (hK : K ≤ 4) (w la pa ra : Nat → Int32) (hl : ad_sp la K L) (hp : ∀ t, t < F → pa t = nI (ad_mk F c t)) {post : Int32 → SY → Prop} (h : ∀ ra', post (cond (ad_bw L 7 (ad_rn F c F)) 1 0) (nI F, nI K, w, la, pa, ra')) : wpY_fits post (nI F, nI K, w, la, pa, ra) 1 := by
  unfold wpY_fits
  dsimp only
  refine ad_yr hF _ _ _ _ _ hp (fun n ra' hn hs => ?_)
  have f := ad_pre (j := 7) hs hl (by omega)
  refine br_f (by decide) (pk_lt n K (fun e => ⟨1, ad_yfz _ _ _ _ _ _ _ ?_ 0⟩) (fun e => ⟨K + 1, ad_yfL hK _ _ _ _ _ K 0 (by omega) (fun b hb => ?_)⟩))
  · have g := h ra'
    have z : ad_bw L 7 (ad_rn F c F) = false := by
      rw [← Bool.not_eq_true, f]
      exact fun z => absurd z.1 (by omega)
    rw [z] at g
    exact g
  · have eb : ad_bw L 7 (ad_rn F c F) = b := by
      rw [Bool.eq_iff_iff, hb, f]
      exact ⟨fun g i _ hi => g.2 i hi, fun g => ⟨e, fun i hi => g i (by omega) hi⟩⟩
    rw [← eb]
    exact h ra'
end
section
/-- total: both sides scan the paths from c on, with the sum s so far -/
theorem ad_totL {F K L : Nat} (hF : F ≤ 6) (hK : K ≤ 4) (hL : L < 2 ^ 31) (w la : Nat → Int32) (hl : ad_sp la K L) (l k : Int32) : ∀ (d c : Nat) (s : Int32), c + d = 2 ^ (2 * F) → ∃ r : Int32, (∀ post : Int32 → Prop, post r → wX_totalOf_10 post (nI L) (nI (2 ^ (2 * F))) (nI F) l k w (d + 1) s (nI c)) ∧ (∀ (post : Int32 → SY → Prop) (pa ra : Nat → Int32), (∀ pa' ra', post r (nI F, nI K, w, la, pa', ra')) → wY_total_4 post (d + 1) s (nI c) (nI F) (nI K) w la pa ra) := by
  have hE := ad_big hF
  intro d
  induction d with
  | zero =>
    intro c s hc
    have h : nI (2 ^ (2 * F)) ≤ nI c := nI_le (by omega) (by omega)
    refine ⟨s, fun _ hp => br_t h hp, fun _ pa ra hp => ?_⟩
    rw [wY_total_4]
    exact ad_ya hF _ _ _ _ _ (br_t h (hp pa ra))
  | succ d ih =>
    intro c s hc
    have h : ¬ nI (2 ^ (2 * F)) ≤ nI c := nI_ge (by omega) (by omega)
    have hr := ad_rnB F c hF
    by_cases e : ad_rn F c F = L
    · obtain ⟨r, hX, hY⟩ := ih (c + 1) (s + ad_wt w F c F) (by omega)
      refine ⟨r, fun post hp => br_f h (ad_xr hF (by omega) _ _ _ (br_t ((nI_eq (by omega) hL).mpr e) (ad_xw hF (by omega) _ _ _ (nm_e (nm_r (nI_1 c) (hX post hp)))))), fun post pa ra hp => ?_⟩
      rw [wY_total_4]
      refine ad_ya hF _ _ _ _ _ (br_f h (ad_ys hF (by omega) _ _ _ _ _ (fun pa' hpa => ad_yf0 hF hK _ _ _ _ hl hpa (fun ra' => ?_))))
      rw [decide_eq_true e]
      exact br_f (by decide) (nm_e (nm_r (nI_1 c) (hY post pa' ra' hp)))
    · obtain ⟨r, hX, hY⟩ := ih (c + 1) s (by omega)
      refine ⟨r, fun post hp => br_f h (ad_xr hF (by omega) _ _ _ (br_f (fun z => e ((nI_eq (by omega) hL).mp z)) (nm_r (nI_1 c) (hX post hp)))), fun post pa ra hp => ?_⟩
      rw [wY_total_4]
      refine ad_ya hF _ _ _ _ _ (br_f h (ad_ys hF (by omega) _ _ _ _ _ (fun pa' hpa => ad_yf0 hF hK _ _ _ _ hl hpa (fun ra' => ?_))))
      rw [decide_eq_false e]
      exact br_t rfl (nm_r (nI_1 c) (hY post pa' ra' hp))
theorem ad_tot {F K L : Nat} (hF : F ≤ 6) (hK : K ≤ 4) (hL : L < 2 ^ 31) (w la : Nat → Int32) (hl : ad_sp la K L) (l k : Int32) : ∃ r : Int32, (∀ post : Int32 → Prop, post r → wpX_totalOf post (nI F, l, k, w) (nI L)) ∧ (∀ (post : Int32 → SY → Prop) (pa ra : Nat → Int32), (∀ pa' ra', post r (nI F, nI K, w, la, pa', ra')) → wpY_total post (nI F, nI K, w, la, pa, ra)) := by
  obtain ⟨r, hX, hY⟩ := ad_totL hF hK hL w la hl l k (2 ^ (2 * F)) 0 0 (by omega)
  refine ⟨r, fun post hp => ?_, fun post pa ra hp => ⟨_, hY post pa ra hp⟩⟩
  unfold wpX_totalOf
  dsimp only
  exact ad_xp hF _ _ _ ⟨_, hX post hp⟩
theorem ad_pthL {F K L : Nat} (hF : F ≤ 6) (hK : K ≤ 4) (hL : L < 2 ^ 31) (w la : Nat → Int32) (hl : ad_sp la K L) (k : Int32) : ∀ (d c : Nat) (s : Int32), c + d = 2 ^ (2 * F) → ∃ r : Int32, (∀ post : Int32 → Prop, post r → wX_paths_9 post (nI (2 ^ (2 * F))) (nI F) (nI L) k w (d + 1) s (nI c)) ∧ (∀ (post : Int32 → SY → Prop) (pa ra : Nat → Int32), (∀ pa' ra', post r (nI F, nI K, w, la, pa', ra')) → wY_paths_4 post (d + 1) s (nI c) (nI F) (nI K) w la pa ra) := by
  have hE := ad_big hF
  intro d
  induction d with
  | zero =>
    intro c s hc
    have h : nI (2 ^ (2 * F)) ≤ nI c := nI_le (by omega) (by omega)
    refine ⟨s, fun _ hp => br_t h hp, fun _ pa ra hp => ?_⟩
    rw [wY_paths_4]
    exact ad_ya hF _ _ _ _ _ (br_t h (hp pa ra))
  | succ d ih =>
    intro c s hc
    have h : ¬ nI (2 ^ (2 * F)) ≤ nI c := nI_ge (by omega) (by omega)
    have hr := ad_rnB F c hF
    by_cases e : ad_rn F c F = L
    · obtain ⟨r, hX, hY⟩ := ih (c + 1) (s + 1) (by omega)
      refine ⟨r, fun post hp => br_f h (ad_xr hF (by omega) _ _ _ (br_t ((nI_eq (by omega) hL).mpr e) (nm_e (nm_r (nI_1 c) (hX post hp))))), fun post pa ra hp => ?_⟩
      rw [wY_paths_4]
      refine ad_ya hF _ _ _ _ _ (br_f h (ad_ys hF (by omega) _ _ _ _ _ (fun pa' hpa => ad_yf0 hF hK _ _ _ _ hl hpa (fun ra' => ?_))))
      rw [decide_eq_true e]
      exact br_f (by decide) (nm_e (nm_r (nI_1 c) (hY post pa' ra' hp)))
    · obtain ⟨r, hX, hY⟩ := ih (c + 1) s (by omega)
      refine ⟨r, fun post hp => br_f h (ad_xr hF (by omega) _ _ _ (br_f (fun z => e ((nI_eq (by omega) hL).mp z)) (nm_r (nI_1 c) (hX post hp)))), fun post pa ra hp => ?_⟩
      rw [wY_paths_4]
      refine ad_ya hF _ _ _ _ _ (br_f h (ad_ys hF (by omega) _ _ _ _ _ (fun pa' hpa => ad_yf0 hF hK _ _ _ _ hl hpa (fun ra' => ?_))))
      rw [decide_eq_false e]
      exact br_t rfl (nm_r (nI_1 c) (hY post pa' ra' hp))
theorem ad_thrL {F K L t m : Nat} (hF : F ≤ 6) (hK : K ≤ 4) (hL : L < 2 ^ 31) (ht : t < F) (hm : m < 4) (w la : Nat → Int32) (hl : ad_sp la K L) (k : Int32) : ∀ (d c : Nat) (s : Int32), c + d = 2 ^ (2 * F) → ∃ r : Int32, (∀ post : Int32 → Prop, post r → wX_through_29 post (nI t) (nI m) (nI (2 ^ (2 * F))) (nI F) (nI L) k w (d + 1) s (nI c)) ∧ (∀ (post : Int32 → SY → Prop) (pa ra : Nat → Int32), (∀ pa' ra', post r (nI F, nI K, w, la, pa', ra')) → wY_through_23 post (nI t) (nI m) (d + 1) s (nI c) (nI F) (nI K) w la pa ra) := by
  have hE := ad_big hF
  intro d
  induction d with
  | zero =>
    intro c s hc
    have h : nI (2 ^ (2 * F)) ≤ nI c := nI_le (by omega) (by omega)
    refine ⟨s, fun _ hp => br_t h hp, fun _ pa ra hp => ?_⟩
    rw [wY_through_23]
    exact ad_ya hF _ _ _ _ _ (br_t h (hp pa ra))
  | succ d ih =>
    intro c s hc
    have h : ¬ nI (2 ^ (2 * F)) ≤ nI c := nI_ge (by omega) (by omega)
    have hr := ad_rnB F c hF
    have hq := ad_mk_lt F c t
    have ec : (nI t).toNatClampNeg = t := nI_clamp (by omega)
    by_cases em : ad_mk F c t = m
    · have em' : nI (ad_mk F c t) = nI m := congrArg nI em
      by_cases e : ad_rn F c F = L
      · obtain ⟨r, hX, hY⟩ := ih (c + 1) (s + ad_wt w F c F) (by omega)
        refine ⟨r, fun post hp => br_f h (ad_xm hF ht (by omega) _ _ _ (br_t em' (ad_xr hF (by omega) _ _ _ (br_t ((nI_eq (by omega) hL).mpr e) (ad_xw hF (by omega) _ _ _ (nm_e (nm_r (nI_1 c) (hX post hp)))))))), fun post pa ra hp => ?_⟩
        rw [wY_through_23]
        refine ad_ya hF _ _ _ _ _ (br_f h (ad_ys hF (by omega) _ _ _ _ _ (fun pa' hpa => ⟨pk_in t 6 (by omega), br_t ?_ (ad_yf0 hF hK _ _ _ _ hl hpa (fun ra' => ?_))⟩)))
        · rw [ec, hpa t ht]; exact em'
        · rw [decide_eq_true e]
          exact br_f (by decide) (nm_e (nm_r (nI_1 c) (hY post pa' ra' hp)))
      · obtain ⟨r, hX, hY⟩ := ih (c + 1) s (by omega)
        refine ⟨r, fun post hp => br_f h (ad_xm hF ht (by omega) _ _ _ (br_t em' (ad_xr hF (by omega) _ _ _ (br_f (fun z => e ((nI_eq (by omega) hL).mp z)) (nm_r (nI_1 c) (hX post hp)))))), fun post pa ra hp => ?_⟩
        rw [wY_through_23]
        refine ad_ya hF _ _ _ _ _ (br_f h (ad_ys hF (by omega) _ _ _ _ _ (fun pa' hpa => ⟨pk_in t 6 (by omega), br_t ?_ (ad_yf0 hF hK _ _ _ _ hl hpa (fun ra' => ?_))⟩)))
        · rw [ec, hpa t ht]; exact em'
        · rw [decide_eq_false e]
          exact br_t rfl (nm_r (nI_1 c) (hY post pa' ra' hp))
    · have em' : ¬ nI (ad_mk F c t) = nI m := fun z => em ((nI_eq (by omega) (by omega)).mp z)
      obtain ⟨r, hX, hY⟩ := ih (c + 1) s (by omega)
      refine ⟨r, fun post hp => br_f h (ad_xm hF ht (by omega) _ _ _ (br_f em' (nm_r (nI_1 c) (hX post hp)))), fun post pa ra hp => ?_⟩
      rw [wY_through_23]
      refine ad_ya hF _ _ _ _ _ (br_f h (ad_ys hF (by omega) _ _ _ _ _ (fun pa' hpa => ⟨pk_in t 6 (by omega), br_f ?_ (nm_r (nI_1 c) (hY post pa' ra hp))⟩)))
      rw [ec, hpa t ht]; exact em'
theorem ad_preL {F K L : Nat} (hF : F ≤ 6) (hK : K ≤ 4) (hL : L < 2 ^ 31) (w la : Nat → Int32) (hl : ad_sp la K L) (k : Int32) : ∀ (d c : Nat) (s : Int32), c + d = 2 ^ (2 * F) → ∃ r : Int32, (∀ post : Int32 → Prop, post r → wX_prefix_9 post (nI (2 ^ (2 * F))) (nI F) (nI L) k w (d + 1) s (nI c)) ∧ (∀ (post : Int32 → SY → Prop) (pa ra : Nat → Int32), (∀ pa' ra', post r (nI F, nI K, w, la, pa', ra')) → wY_prefix_4 post (d + 1) s (nI c) (nI F) (nI K) w la pa ra) := by
  have hE := ad_big hF
  intro d
  induction d with
  | zero =>
    intro c s hc
    have h : nI (2 ^ (2 * F)) ≤ nI c := nI_le (by omega) (by omega)
    refine ⟨s, fun _ hp => br_t h hp, fun _ pa ra hp => ?_⟩
    rw [wY_prefix_4]
    exact ad_ya hF _ _ _ _ _ (br_t h (hp pa ra))
  | succ d ih =>
    intro c s hc
    have h : ¬ nI (2 ^ (2 * F)) ≤ nI c := nI_ge (by omega) (by omega)
    have hr := ad_rnB F c hF
    cases e : ad_bw L 7 (ad_rn F c F) with
    | true =>
      obtain ⟨r, hX, hY⟩ := ih (c + 1) (s + ad_wt w F c F) (by omega)
      refine ⟨r, fun post hp => br_f h (ad_xr hF (by omega) _ _ _ (ad_xb hL (by omega) _ _ _ ?_)), fun post pa ra hp => ?_⟩
      · rw [e]
        exact br_f (by decide) (ad_xw hF (by omega) _ _ _ (nm_e (nm_r (nI_1 c) (hX post hp))))
      · rw [wY_prefix_4]
        refine ad_ya hF _ _ _ _ _ (br_f h (ad_ys hF (by omega) _ _ _ _ _ (fun pa' hpa => ad_yf1 hF hK _ _ _ _ hl hpa (fun ra' => ?_))))
        rw [e]
        exact br_f (by decide) (nm_e (nm_r (nI_1 c) (hY post pa' ra' hp)))
    | false =>
      obtain ⟨r, hX, hY⟩ := ih (c + 1) s (by omega)
      refine ⟨r, fun post hp => br_f h (ad_xr hF (by omega) _ _ _ (ad_xb hL (by omega) _ _ _ ?_)), fun post pa ra hp => ?_⟩
      · rw [e]
        exact br_t rfl (nm_r (nI_1 c) (hX post hp))
      · rw [wY_prefix_4]
        refine ad_ya hF _ _ _ _ _ (br_f h (ad_ys hF (by omega) _ _ _ _ _ (fun pa' hpa => ad_yf1 hF hK _ _ _ _ hl hpa (fun ra' => ?_))))
        rw [e]
        exact br_t rfl (nm_r (nI_1 c) (hY post pa' ra' hp))
theorem ad_evyL {F : Nat} (hF : F ≤ 6) (w la : Nat → Int32) (l k K : Int32) : ∀ (d c : Nat) (s : Int32), c + d = 2 ^ (2 * F) → ∃ r : Int32, (∀ post : Int32 → Prop, post r → wX_everything_9 post (nI (2 ^ (2 * F))) (nI F) l k w (d + 1) s (nI c)) ∧ (∀ (post : Int32 → SY → Prop) (pa ra : Nat → Int32), (∀ pa' ra', post r (nI F, K, w, la, pa', ra')) → wY_everything_4 post (d + 1) s (nI c) (nI F) K w la pa ra) := by
  have hE := ad_big hF
  intro d
  induction d with
  | zero =>
    intro c s hc
    have h : nI (2 ^ (2 * F)) ≤ nI c := nI_le (by omega) (by omega)
    refine ⟨s, fun _ hp => br_t h hp, fun _ pa ra hp => ?_⟩
    rw [wY_everything_4]
    exact ad_ya hF _ _ _ _ _ (br_t h (hp pa ra))
  | succ d ih =>
    intro c s hc
    have h : ¬ nI (2 ^ (2 * F)) ≤ nI c := nI_ge (by omega) (by omega)
    obtain ⟨r, hX, hY⟩ := ih (c + 1) (s + ad_wt w F c F) (by omega)
    refine ⟨r, fun post hp => br_f h (ad_xw hF (by omega) _ _ _ (nm_e (nm_r (nI_1 c) (hX post hp)))), fun post pa ra hp => ?_⟩
    rw [wY_everything_4]
    exact ad_ya hF _ _ _ _ _ (br_f h (ad_ys hF (by omega) _ _ _ _ _ (fun pa' _ => nm_e (nm_r (nI_1 c) (hY post pa' ra hp)))))
/-- the best path so far: none on both sides, or the same path of the same weight -/
def ad_bs (E : Nat) (x g y q : Int32) : Prop := (x = -1 ∧ g = -1 ∧ y = -1 ∧ q = 0) ∨ ∃ p n : Nat, p < E ∧ n < 2 ^ 31 ∧ x = nI p ∧ y = nI p ∧ g = nI n ∧ q = nI n
theorem ad_neg {n : Nat} (h : n < 2 ^ 31) : ¬ nI n ≤ -1 := by
  rw [Int32.le_iff_toInt_le, nI_toInt h]
  have e : (-1 : Int32).toInt = -1 := by decide
  rw [e]
  omega
theorem ad_bstL {F K L : Nat} (hF : F ≤ 6) (hK : K ≤ 4) (hL : L < 2 ^ 31) (w la : Nat → Int32) (hw : ad_ok w) (hl : ad_sp la K L) (k : Int32) : ∀ (d c : Nat) (x g y q : Int32), c + d = 2 ^ (2 * F) → ad_bs (2 ^ (2 * F)) x g y q → ∃ r : Int32, (r = -1 ∨ ∃ p : Nat, p < 2 ^ (2 * F) ∧ r = nI p) ∧ (∀ post : Int32 → Prop, post r → wX_bestPath_12 post (nI (2 ^ (2 * F))) (nI F) (nI L) k w (d + 1) x g (nI c)) ∧ (∀ (post : Int32 → SY → Prop) (pa ra : Nat → Int32), (∀ pa' ra', post r (nI F, nI K, w, la, pa', ra')) → wY_first_6 post (d + 1) y q (nI c) (nI F) (nI K) w la pa ra) := by
  have hE := ad_big hF
  intro d
  induction d with
  | zero =>
    intro c x g y q hc hb
    have h : nI (2 ^ (2 * F)) ≤ nI c := nI_le (by omega) (by omega)
    rcases hb with ⟨rfl, rfl, rfl, rfl⟩ | ⟨p, n, hp, hn, rfl, rfl, rfl, rfl⟩
    · refine ⟨-1, Or.inl rfl, fun _ hp => br_t h hp, fun _ pa ra hp => ?_⟩
      rw [wY_first_6]
      exact ad_ya hF _ _ _ _ _ (br_t h (hp pa ra))
    · refine ⟨nI p, Or.inr ⟨p, hp, rfl⟩, fun _ hp => br_t h hp, fun _ pa ra hp => ?_⟩
      rw [wY_first_6]
      exact ad_ya hF _ _ _ _ _ (br_t h (hp pa ra))
  | succ d ih =>
    intro c x g y q hc hb
    have h : ¬ nI (2 ^ (2 * F)) ≤ nI c := nI_ge (by omega) (by omega)
    have hr := ad_rnB F c hF
    obtain ⟨v, hv, ev⟩ := ad_wtF hw hF c
    by_cases e : ad_rn F c F = L
    · have eX : nI (ad_rn F c F) = nI L := congrArg nI e
      rcases hb with ⟨rfl, rfl, rfl, rfl⟩ | ⟨p, n, hp, hn, rfl, rfl, rfl, rfl⟩
      · obtain ⟨r, hR, hX, hY⟩ := ih (c + 1) (nI c) (nI v) (nI c) (nI v) (by omega) (Or.inr ⟨c, v, by omega, by omega, rfl, rfl, rfl, rfl⟩)
        refine ⟨r, hR, fun post hp => br_f h (ad_xr hF (by omega) _ _ _ (br_t eX (ad_xw hF (by omega) _ _ _ ?_))), fun post pa ra hp => ?_⟩
        · rw [ev]
          exact br_f (ad_neg (by omega)) (nm_r (nI_1 c) (hX post hp))
        · rw [wY_first_6]
          refine ad_ya hF _ _ _ _ _ (br_f h (ad_ys hF (by omega) _ _ _ _ _ (fun pa' hpa => ad_yf0 hF hK _ _ _ _ hl hpa (fun ra' => ?_))))
          rw [decide_eq_true e, ev]
          exact br_f (by decide) (br_t (by decide) (nm_r (nI_1 c) (hY post pa' ra' hp)))
      · by_cases e2 : v ≤ n
        · obtain ⟨r, hR, hX, hY⟩ := ih (c + 1) (nI p) (nI n) (nI p) (nI n) (by omega) (Or.inr ⟨p, n, hp, hn, rfl, rfl, rfl, rfl⟩)
          refine ⟨r, hR, fun post hp => br_f h (ad_xr hF (by omega) _ _ _ (br_t eX (ad_xw hF (by omega) _ _ _ ?_))), fun post pa ra hp => ?_⟩
          · rw [ev]
            exact br_t (nI_le e2 hn) (nm_r (nI_1 c) (hX post hp))
          · rw [wY_first_6]
            refine ad_ya hF _ _ _ _ _ (br_f h (ad_ys hF (by omega) _ _ _ _ _ (fun pa' hpa => ad_yf0 hF hK _ _ _ _ hl hpa (fun ra' => ?_))))
            rw [decide_eq_true e, ev]
            exact br_f (by decide) (br_f (nI_pos (by omega)) (br_t (nI_le e2 hn) (nm_r (nI_1 c) (hY post pa' ra' hp))))
        · obtain ⟨r, hR, hX, hY⟩ := ih (c + 1) (nI c) (nI v) (nI c) (nI v) (by omega) (Or.inr ⟨c, v, by omega, by omega, rfl, rfl, rfl, rfl⟩)
          refine ⟨r, hR, fun post hp => br_f h (ad_xr hF (by omega) _ _ _ (br_t eX (ad_xw hF (by omega) _ _ _ ?_))), fun post pa ra hp => ?_⟩
          · rw [ev]
            exact br_f (nI_ge (by omega) (by omega)) (nm_r (nI_1 c) (hX post hp))
          · rw [wY_first_6]
            refine ad_ya hF _ _ _ _ _ (br_f h (ad_ys hF (by omega) _ _ _ _ _ (fun pa' hpa => ad_yf0 hF hK _ _ _ _ hl hpa (fun ra' => ?_))))
            rw [decide_eq_true e, ev]
            exact br_f (by decide) (br_f (nI_pos (by omega)) (br_f (nI_ge (by omega) (by omega)) (nm_r (nI_1 c) (hY post pa' ra' hp))))
    · obtain ⟨r, hR, hX, hY⟩ := ih (c + 1) x g y q (by omega) hb
      refine ⟨r, hR, fun post hp => br_f h (ad_xr hF (by omega) _ _ _ (br_f (fun z => e ((nI_eq (by omega) hL).mp z)) (nm_r (nI_1 c) (hX post hp)))), fun post pa ra hp => ?_⟩
      rw [wY_first_6]
      refine ad_ya hF _ _ _ _ _ (br_f h (ad_ys hF (by omega) _ _ _ _ _ (fun pa' hpa => ad_yf0 hF hK _ _ _ _ hl hpa (fun ra' => ?_))))
      rw [decide_eq_false e]
      exact br_t rfl (nm_r (nI_1 c) (hY post pa' ra' hp))
theorem ad_bst {F K L : Nat} (hF : F ≤ 6) (hK : K ≤ 4) (hL : L < 2 ^ 31) (w la : Nat → Int32) (hw : ad_ok w) (hl : ad_sp la K L) (k : Int32) : ∃ r : Int32, (r = -1 ∨ ∃ p : Nat, p < 4096 ∧ r = nI p) ∧ (∀ post : Int32 → Prop, post r → wpX_bestPath post (nI F, nI L, k, w)) ∧ (∀ (post : Int32 → SY → Prop) (pa ra : Nat → Int32), (∀ pa' ra', post r (nI F, nI K, w, la, pa', ra')) → wpY_first post (nI F, nI K, w, la, pa, ra)) := by
  have hE := ad_big hF
  obtain ⟨r, hR, hX, hY⟩ := ad_bstL hF hK hL w la hw hl k (2 ^ (2 * F)) 0 (-1) (-1) (-1) 0 (by omega) (Or.inl ⟨rfl, rfl, rfl, rfl⟩)
  refine ⟨r, ?_, fun post hp => ?_, fun post pa ra hp => ⟨_, hY post pa ra hp⟩⟩
  · rcases hR with h | ⟨p, hp, h⟩
    · exact Or.inl h
    · exact Or.inr ⟨p, by omega, h⟩
  · unfold wpX_bestPath
    dsimp only
    exact ad_xp hF _ _ _ ⟨_, hX post hp⟩
end
section
/-! the relation, and the methods without a scan -/
def i_Rel (_ : Nat) (u : SX) (v : SY) : Prop := ∃ (F K L : Nat) (w la pa ra : Nat → Int32), F ≤ 6 ∧ K ≤ 4 ∧ ad_ok w ∧ ad_sp la K L ∧ u = (nI F, nI L, nI K, w) ∧ v = (nI F, nI K, w, la, pa, ra)
theorem ad_R (k : Nat) {F K L : Nat} {w la pa ra : Nat → Int32} (hF : F ≤ 6) (hK : K ≤ 4) (hw : ad_ok w) (hl : ad_sp la K L) : i_Rel k (nI F, nI L, nI K, w) (nI F, nI K, w, la, pa, ra) :=
  ⟨F, K, L, w, la, pa, ra, hF, hK, hw, hl, rfl, rfl⟩
theorem ad_L {a : Nat → Int32} {n R : Nat} (h : ad_sp a n R) (hn : n ≤ 4) : R < 256 := by
  have h4 : 4 ^ n ≤ 4 ^ 4 := Nat.pow_le_pow_right (by omega) hn
  exact Nat.lt_of_lt_of_le (ad_sp_lt h) h4
theorem i_up {k : Nat} {u : SX} {v : SY} (h : i_Rel k u v) : i_Rel (k + 4) u v := h
theorem i_vc0 : wpX_init (fun u => wpY_init (fun v => i_Rel 0 u v)) :=
  ad_R 0 (F := 0) (K := 0) (L := 0) (by omega) (by omega) ad_ok0 rfl
theorem ad_tri (x : Int32) (n : Nat) : x < 0 ∨ (∃ j : Nat, n ≤ j ∧ j < 2 ^ 31 ∧ x = nI j) ∨ ∃ j : Nat, j < n ∧ x = nI j := by
  by_cases h : x < 0
  · exact Or.inl h
  · obtain ⟨j, hj, rfl⟩ := nI_of h
    by_cases h2 : j < n
    · exact Or.inr (Or.inr ⟨j, h2, rfl⟩)
    · exact Or.inr (Or.inl ⟨j, by omega, hj, rfl⟩)
theorem ad_rem {R : Nat} (h : R < 2 ^ 31) : nI R - nI R / 10 * 10 = nI (R % 10) := pk_rem (d := 10) h (by omega) (by omega)
theorem ad_div {R : Nat} (h : R < 2 ^ 31) : nI R / 10 = nI (R / 10) := pk_div (d := 10) h (by omega) (by omega)
theorem ad_div2 {R : Nat} (h : R < 2 ^ 31) : nI R / 100 = nI (R / 100) := pk_div (d := 100) h (by omega) (by omega)
/-- the last j digits of R are at most 8 -/
def ad_dl : Nat → Nat → Bool
  | 0, _ => true
  | j + 1, R => if R % 10 ≤ 8 then ad_dl j (R / 10) else false
theorem ad_dl4 {n : Nat} (h : n ≤ 8888) : ad_dl 4 n = true ↔ n % 10 < 9 ∧ n / 10 % 10 < 9 ∧ n / 100 % 10 < 9 := by
  rw [ad_dl]
  by_cases h0 : n % 10 ≤ 8
  · rw [if_pos h0, ad_dl]
    by_cases h1 : n / 10 % 10 ≤ 8
    · rw [if_pos h1, ad_dl, Nat.div_div_eq_div_mul]
      by_cases h2 : n / 100 % 10 ≤ 8
      · rw [if_pos h2, ad_dl, if_pos (by omega)]
        exact ⟨fun _ => ⟨by omega, by omega, by omega⟩, fun _ => rfl⟩
      · rw [if_neg h2]
        exact ⟨fun z => (nomatch z), fun z => by omega⟩
    · rw [if_neg h1]
      exact ⟨fun z => (nomatch z), fun z => by omega⟩
  · rw [if_neg h0]
    exact ⟨fun z => (nomatch z), fun z => by omega⟩
theorem ad_xdL (f l k : Int32) (w : Nat → Int32) {post : Int32 → Prop} : ∀ j x R : Nat, x + j = 4 → R < 2 ^ 31 → post (cond (ad_dl j R) 1 0) → wX_areWeights_17 post f l k w (j + 1) (nI R) (nI x) := by
  intro j
  induction j with
  | zero =>
    intro x R hx hR h
    exact br_t (nI_le (a := 4) (by omega) (by omega)) h
  | succ j ih =>
    intro x R hx hR h
    refine br_f (nI_ge (b := 4) (by omega) (by omega)) ⟨by decide, ?_⟩
    rw [ad_rem hR]
    refine pk_le (R % 10) 8 (fun e => ?_) (fun e => ?_)
    · rw [ad_dl, if_pos e] at h
      exact ⟨by decide, nm_r (ad_div hR) (nm_r (nI_1 x) (ih (x + 1) (R / 10) (by omega) (by omega) h))⟩
    · rw [ad_dl, if_neg (by omega)] at h
      exact h
theorem ad_frL {F : Nat} (hF : F < 6) (l k K : Int32) (la pa ra : Nat → Int32) : ∀ (j x R : Nat) (w : Nat → Int32), x + j = 4 → R < 2 ^ 31 → ad_dl j R = true → ad_ok w → ∃ w', ad_ok w' ∧ (∀ post : Int32 → SX → Prop, post (nI F) (nI (F + 1), l, k, w') → wX_frame_26 post (nI F) l k (j + 1) (nI R) (nI x) w) ∧ (∀ post : Int32 → SY → Prop, post (nI F) (nI (F + 1), K, w', la, pa, ra) → wY_frame_73 post (nI F) K (j + 1) (nI R) (nI x) w la pa ra) := by
  intro j
  induction j with
  | zero =>
    intro x R w hx hR hd hw
    have h : (4 : Int32) ≤ nI x := nI_le (a := 4) (by omega) (by omega)
    refine ⟨w, hw, fun post hp => br_t h (nm_r (nI_1 F) ?_), fun post hp => br_t h (nm_r (nI_1 F) ?_)⟩
    · rw [nI_pred]; exact hp
    · rw [nI_pred]; exact hp
  | succ j ih =>
    intro x R w hx hR hd hw
    have h : ¬ (4 : Int32) ≤ nI x := nI_ge (b := 4) (by omega) (by omega)
    have hr : R % 10 ≤ 8 := by
      by_cases e : R % 10 ≤ 8
      · exact e
      · rw [ad_dl, if_neg e] at hd
        exact nomatch hd
    rw [ad_dl, if_pos hr] at hd
    obtain ⟨w', hw', hX, hY⟩ := ih (x + 1) (R / 10) (upd w (F * 4 + x) (nI (R % 10))) (by omega) (by omega) hd (ad_okU hw hr _)
    have eX : upd w (nI F * 4 + nI x).toNatClampNeg (nI R - nI R / 10 * 10) = upd w (F * 4 + x) (nI (R % 10)) := by
      rw [ad_ix, nI_clamp (by omega), ad_rem hR]
    have eY : upd w (4 * nI F + nI x).toNatClampNeg (nI R - nI R / 10 * 10) = upd w (F * 4 + x) (nI (R % 10)) := by
      rw [ad_jx, nI_clamp (by omega), ad_rem hR]
    exact ⟨w', hw', fun post hp => br_f h ⟨by decide, pk_in (F * 4 + x) 24 (by omega) (ad_ix _ _), nm_r eX ⟨by decide, nm_r (ad_div hR) (nm_r (nI_1 x) (hX post hp))⟩⟩,
      fun post hp => br_f h ⟨by decide, pk_in (F * 4 + x) 24 (by omega) (ad_jx _ _), nm_r eY ⟨by decide, nm_r (ad_div hR) (nm_r (nI_1 x) (hY post hp))⟩⟩⟩
theorem ad_y49 {post : Int32 → SY → Prop} (x1 f K : Int32) (w la pa ra : Nat → Int32) (h : post (-1) (f, K, w, la, pa, ra)) : wY_frame_48 post x1 f K w la pa ra :=
  br_t rfl h
theorem i_vc_frame {k : Nat} {u : SX} {v : SY} (I : i_Rel k u v) (hk : k + 4 ≤ 2048) (v1 : Int32) : wpX_frame (fun r u' => wpY_frame (fun r' v' => r' = r ∧ i_Rel (k + 4) u' v') v v1) u v1 := by
  obtain ⟨F, K, L, w, la, pa, ra, hF, hK, hw, hl, rfl, rfl⟩ := I
  have hR := ad_R (k + 4) (pa := pa) (ra := ra) hF hK hw hl
  unfold wpX_frame wpX_areWeights wpY_frame
  dsimp only
  rcases ad_tri v1 8889 with h | ⟨j, h1, h2, rfl⟩ | ⟨j, h1, rfl⟩
  · exact br_t h (br_t rfl (br_t h (ad_y49 _ _ _ _ _ _ _ ⟨rfl, hR⟩)))
  · exact br_f (nI_pos h2) (br_f (nI_ge (a := 8888) (by omega) h2) (br_t rfl (br_f (nI_pos h2) (br_t (nI_lt (a := 8888) (by omega) h2) (ad_y49 _ _ _ _ _ _ _ ⟨rfl, hR⟩)))))
  · have hj : j < 2 ^ 31 := by omega
    have hd := ad_dl4 (n := j) (by omega)
    refine br_f (nI_pos hj) (br_t (nI_le (b := 8888) (by omega) (by omega)) ⟨5, ad_xdL _ _ _ _ 4 0 j (by omega) hj ?_⟩)
    have Y : ∀ post : Int32 → SY → Prop, (ad_dl 4 j = false → wY_frame_48 post (nI j) (nI F) (nI K) w la pa ra) → (ad_dl 4 j = true → wY_frame_49 post (nI j) 1 (nI F) (nI K) w la pa ra) → wpY_frame post (nI F, nI K, w, la, pa, ra) (nI j) := by
      intro post g0 g1
      have n0 : (n : Prop) → (¬ n) → (ad_dl 4 j = true → n) → ad_dl 4 j = false := by
        intro n hn hi
        cases e : ad_dl 4 j with
        | true => exact absurd (hi e) hn
        | false => rfl
      unfold wpY_frame
      dsimp only
      rw [ad_rem hj, ad_div hj, ad_rem (R := j / 10) (by omega), ad_div2 hj, ad_rem (R := j / 100) (by omega)]
      refine br_f (nI_pos hj) (br_f (nI_nlt (b := j) (a := 8888) (by omega) (by omega)) ⟨by decide, pk_le 9 (j % 10) (fun e => g0 (n0 _ (by omega) (fun z => (hd.mp z).1))) (fun e0 => ⟨by decide, by decide, pk_le 9 (j / 10 % 10) (fun e => g0 (n0 _ (by omega) (fun z => (hd.mp z).2.1))) (fun e1 => ⟨by decide, by decide, pk_le 9 (j / 100 % 10) (fun e => g0 (n0 _ (by omega) (fun z => (hd.mp z).2.2))) (fun e2 => g1 (hd.mpr ⟨e0, e1, e2⟩))⟩)⟩)⟩)
    cases e : ad_dl 4 j with
    | false => exact br_t rfl (Y _ (fun _ => ad_y49 _ _ _ _ _ _ _ ⟨rfl, hR⟩) (fun z => absurd (e.symm.trans z) (by decide)))
    | true =>
      refine br_f (by decide) (pk_lt F 6 (fun hf => ?_) (fun hf => ?_))
      · obtain ⟨w', hw', hX, hY⟩ := ad_frL hf (nI L) (nI K) (nI K) la pa ra 4 0 j w (by omega) hj e hw
        exact ⟨5, hX _ (Y _ (fun z => absurd (e.symm.trans z) (by decide)) (fun _ => br_f (by decide) (br_t (nI_lt (b := 6) hf (by omega)) ⟨5, hY _ ⟨rfl, ad_R _ (by omega) hK hw' hl⟩⟩)))⟩
      · exact Y _ (fun z => absurd (e.symm.trans z) (by decide)) (fun _ => br_f (by decide) (br_f (nI_nlt (b := 6) hf (by omega)) ⟨rfl, hR⟩))
theorem i_vc_dropFrame {k : Nat} {u : SX} {v : SY} (I : i_Rel k u v) (hk : k + 4 ≤ 2048) : wpX_dropFrame (fun r u' => wpY_dropFrame (fun r' v' => r' = r ∧ i_Rel (k + 4) u' v') v) u := by
  obtain ⟨F, K, L, w, la, pa, ra, hF, hK, hw, hl, rfl, rfl⟩ := I
  cases F with
  | zero => exact br_t rfl (br_t rfl ⟨rfl, ad_R _ hF hK hw hl⟩)
  | succ F =>
    have h : ¬ nI (F + 1) = 0 := nI_ne0 (by omega) (by omega)
    exact br_f h (nm_r (nI_pred F) (br_f h (nm_r (nI_pred F) ⟨rfl, ad_R _ (by omega) hK hw hl⟩)))
theorem ad_xi0 {F : Nat} {x : Int32} (l k : Int32) (w : Nat → Int32) {post : Int32 → Prop} (h : x < 0 ∨ nI F ≤ x) (p : post 0) : wpX_isFrame post (nI F, l, k, w) x :=
  br_c (fun _ => p) (fun h0 => br_t (h.resolve_left h0) p)
theorem ad_xi1 {F t : Nat} (hF : F ≤ 6) (ht : t < F) (l k : Int32) (w : Nat → Int32) {post : Int32 → Prop} (p : post 1) : wpX_isFrame post (nI F, l, k, w) (nI t) :=
  br_f (nI_pos (by omega)) (br_f (nI_ge ht (by omega)) p)
theorem ad_yi0 {F : Nat} {x : Int32} (k : Int32) (w la pa ra : Nat → Int32) {post : Int32 → Prop} (h : x < 0 ∨ nI F ≤ x) (p : post 0) : wpY_is post (nI F, k, w, la, pa, ra) x :=
  br_c (fun _ => p) (fun h0 => br_t (h.resolve_left h0) p)
theorem ad_yi1 {F t : Nat} (hF : F ≤ 6) (ht : t < F) (k : Int32) (w la pa ra : Nat → Int32) {post : Int32 → Prop} (p : post 1) : wpY_is post (nI F, k, w, la, pa, ra) (nI t) :=
  br_f (nI_pos (by omega)) (br_f (nI_ge ht (by omega)) p)
theorem ad_xk0 {x : Int32} (f l k : Int32) (w : Nat → Int32) {post : Int32 → Prop} (h : x < 0 ∨ ∃ j : Nat, 4 ≤ j ∧ j < 2 ^ 31 ∧ x = nI j) (p : post 0) : wpX_isMark post (f, l, k, w) x := by
  refine br_c (fun _ => p) (fun h0 => ?_)
  obtain ⟨j, h1, h2, rfl⟩ := h.resolve_left h0
  exact br_t (nI_le (a := 4) h1 h2) p
theorem ad_xk1 {m : Nat} (hm : m < 4) (f l k : Int32) (w : Nat → Int32) {post : Int32 → Prop} (p : post 1) : wpX_isMark post (f, l, k, w) (nI m) :=
  br_f (nI_pos (by omega)) (br_f (nI_ge (b := 4) hm (by omega)) p)
theorem ad_yk0 {x : Int32} (f k : Int32) (w la pa ra : Nat → Int32) {post : Int32 → Prop} (h : x < 0 ∨ ∃ j : Nat, 4 ≤ j ∧ j < 2 ^ 31 ∧ x = nI j) (p : post 0) : wpY_mark post (f, k, w, la, pa, ra) x := by
  refine br_c (fun _ => p) (fun h0 => ?_)
  obtain ⟨j, h1, h2, rfl⟩ := h.resolve_left h0
  exact br_t (nI_lt (a := 3) h1 h2) p
theorem ad_yk1 {m : Nat} (hm : m < 4) (f k : Int32) (w la pa ra : Nat → Int32) {post : Int32 → Prop} (p : post 1) : wpY_mark post (f, k, w, la, pa, ra) (nI m) :=
  br_f (nI_pos (by omega)) (br_f (nI_nlt (b := m) (a := 3) (by omega) (by omega)) p)
theorem ad_fr (x : Int32) {F : Nat} (hF : F ≤ 6) : (x < 0 ∨ nI F ≤ x) ∨ ∃ t : Nat, t < F ∧ x = nI t := by
  rcases pk_ix x (n := F) (by omega) with h | h | h
  · exact Or.inl (Or.inl h)
  · exact Or.inl (Or.inr h)
  · exact Or.inr h
theorem ad_ma (x : Int32) : (x < 0 ∨ ∃ j : Nat, 4 ≤ j ∧ j < 2 ^ 31 ∧ x = nI j) ∨ ∃ m : Nat, m < 4 ∧ x = nI m := by
  rcases ad_tri x 4 with h | h | h
  · exact Or.inl (Or.inl h)
  · exact Or.inl (Or.inr h)
  · exact Or.inr h
theorem i_vc_weigh {k : Nat} {u : SX} {v : SY} (I : i_Rel k u v) (hk : k + 4 ≤ 2048) (v1 : Int32) (v2 : Int32) (v3 : Int32) : wpX_weigh (fun r u' => wpY_weigh (fun r' v' => r' = r ∧ i_Rel (k + 4) u' v') v v1 v2 v3) u v1 v2 v3 := by
  obtain ⟨F, K, L, w, la, pa, ra, hF, hK, hw, hl, rfl, rfl⟩ := I
  have hR := ad_R (k + 4) (pa := pa) (ra := ra) hF hK hw hl
  unfold wpX_weigh wpY_weigh
  dsimp only
  rcases ad_fr v1 hF with h | ⟨t, ht, rfl⟩
  · exact ad_xi0 _ _ _ h (br_t rfl (ad_yi0 _ _ _ _ _ h (br_t rfl ⟨rfl, hR⟩)))
  refine ad_xi1 hF ht _ _ _ (br_f (by decide) ?_)
  rcases ad_ma v2 with h | ⟨m, hm, rfl⟩
  · exact ad_xk0 _ _ _ _ h (br_t rfl (ad_yi1 hF ht _ _ _ _ _ (br_f (by decide) (ad_yk0 _ _ _ _ _ _ h (br_t rfl ⟨rfl, hR⟩)))))
  refine ad_xk1 hm _ _ _ _ (br_f (by decide) ?_)
  rcases ad_tri v3 9 with h | ⟨j, h1, h2, rfl⟩ | ⟨j, h1, rfl⟩
  · exact br_t h (ad_yi1 hF ht _ _ _ _ _ (br_f (by decide) (ad_yk1 hm _ _ _ _ _ _ (br_f (by decide) (br_t h ⟨rfl, hR⟩)))))
  · have g0 : ¬ nI j < 0 := nI_pos h2
    have g1 : ¬ nI j ≤ 8 := nI_ge (a := 8) (by omega) h2
    exact br_f g0 (br_f g1 (ad_yi1 hF ht _ _ _ _ _ (br_f (by decide) (ad_yk1 hm _ _ _ _ _ _ (br_f (by decide) (br_f g0 (br_f g1 ⟨rfl, hR⟩)))))))
  · have g0 : ¬ nI j < 0 := nI_pos (by omega)
    have g1 : nI j ≤ 8 := nI_le (b := 8) (by omega) (by omega)
    have eX : upd w (nI t * 4 + nI m).toNatClampNeg (nI j) = upd w (t * 4 + m) (nI j) := by rw [ad_ix, nI_clamp (by omega)]
    have eY : upd w (4 * nI t + nI m).toNatClampNeg (nI j) = upd w (t * 4 + m) (nI j) := by rw [ad_jx, nI_clamp (by omega)]
    exact br_f g0 (br_t g1 ⟨pk_in (t * 4 + m) 24 (by omega) (ad_ix _ _), nm_r eX (ad_yi1 hF ht _ _ _ _ _ (br_f (by decide) (ad_yk1 hm _ _ _ _ _ _ (br_f (by decide) (br_f g0 (br_t g1 ⟨pk_in (t * 4 + m) 24 (by omega) (ad_jx _ _), nm_r eY ⟨rfl, ad_R _ hF hK (ad_okU hw (by omega) _) hl⟩⟩))))))⟩)
theorem ad_lt1 {x : Int32} (h : x < 0) : x < 1 := by
  rw [Int32.lt_iff_toInt_lt] at h ⊢
  have e0 : (0 : Int32).toInt = 0 := by decide
  have e1 : (1 : Int32).toInt = 1 := by decide
  omega
theorem ad_yw {m K : Nat} (h1 : 1 ≤ m) (hm : m < 4) (hK : K < 4) (f : Int32) (w la pa ra : Nat → Int32) {post : Int32 → SY → Prop} (h : post (nI (K + 1)) (f, nI (K + 1), w, upd la K (nI m), pa, ra)) : wpY_write post (f, nI K, w, la, pa, ra) (nI m) := by
  have e : upd la (nI K).toNatClampNeg (nI m) = upd la K (nI m) := by rw [nI_clamp (by omega)]
  exact br_f (nI_nlt (a := m) (b := 1) h1 (by omega)) (br_t (nI_le (b := 3) (by omega) (by omega)) (br_t (nI_lt (b := 4) hK (by omega)) ⟨pk_in K 4 hK, nm_r e (nm_r (nI_1 K) h)⟩))
theorem ad_yu {K : Nat} (hK : K < 4) (f : Int32) (w la pa ra : Nat → Int32) {post : Int32 → SY → Prop} (h : post (la K) (f, nI K, w, la, pa, ra)) : wpY_rub post (f, nI (K + 1), w, la, pa, ra) := by
  refine br_f (nI_ne0 (by omega) (by omega)) (nm_r (nI_pred K) ⟨pk_in K 4 hK, ?_⟩)
  rw [nI_clamp (by omega)]
  exact h
theorem i_vc_write {k : Nat} {u : SX} {v : SY} (I : i_Rel k u v) (hk : k + 4 ≤ 2048) (v1 : Int32) : wpX_write (fun r u' => wpY_write (fun r' v' => r' = r ∧ i_Rel (k + 4) u' v') v v1) u v1 := by
  obtain ⟨F, K, L, w, la, pa, ra, hF, hK, hw, hl, rfl, rfl⟩ := I
  have hR := ad_R (k + 4) (pa := pa) (ra := ra) hF hK hw hl
  have hL := ad_L hl hK
  unfold wpX_write
  dsimp only
  rcases ad_ma v1 with h | ⟨m, hm, rfl⟩
  · refine ad_xk0 _ _ _ _ h (br_t rfl ?_)
    rcases h with h | ⟨j, h1, h2, rfl⟩
    · exact br_t (ad_lt1 h) ⟨rfl, hR⟩
    · exact br_f (nI_nlt (b := 1) (by omega) h2) (br_f (nI_ge (a := 3) (by omega) h2) ⟨rfl, hR⟩)
  · refine ad_xk1 hm _ _ _ _ (br_f (by decide) (pk_eq m 0 (fun e => ?_) (fun e => ?_)))
    · subst e
      exact br_t (by decide) ⟨rfl, hR⟩
    · refine pk_lt K 4 (fun h => ?_) (fun h => ?_)
      · exact ad_xa hm (by omega) _ _ _ _ (nm_r (nI_1 K) (ad_yw (by omega) hm h _ _ _ _ _ ⟨rfl, ad_R _ hF h hw (ad_sp_p hl (by omega) (by omega))⟩))
      · exact br_f (nI_nlt (a := m) (b := 1) (by omega) (by omega)) (br_t (nI_le (b := 3) (by omega) (by omega)) (br_f (nI_nlt (b := 4) h (by omega)) ⟨rfl, hR⟩))
theorem i_vc_rub {k : Nat} {u : SX} {v : SY} (I : i_Rel k u v) (hk : k + 4 ≤ 2048) : wpX_rub (fun r u' => wpY_rub (fun r' v' => r' = r ∧ i_Rel (k + 4) u' v') v) u := by
  obtain ⟨F, K, L, w, la, pa, ra, hF, hK, hw, hl, rfl, rfl⟩ := I
  have hL := ad_L hl hK
  cases K with
  | zero => exact br_t rfl (br_t rfl ⟨rfl, ad_R _ hF hK hw hl⟩)
  | succ K =>
    obtain ⟨m, q, h1, h3, ea, er, hl'⟩ := hl
    have e1 : nI L &&& 3 = nI m := by rw [ad_and3 (by omega)]; exact congrArg nI (by omega)
    have e2 : nI L >>> ((2 : Int32) &&& 31) = nI q := by rw [ad_shr2 (by omega)]; exact congrArg nI (by omega)
    exact br_f (nI_ne0 (by omega) (by omega)) (nm_r e1 (nm_r e2 (nm_r (nI_pred K) (ad_yu (by omega) _ _ _ _ _ ⟨ea, ad_R _ hF (by omega) hw hl'⟩))))
theorem i_vc_frames {k : Nat} {u : SX} {v : SY} (I : i_Rel k u v) (hk : k + 4 ≤ 2048) : wpX_frames (fun r => wpY_frames (fun r' => r' = r ∧ i_Rel (k + 4) u v) v) u := by
  obtain ⟨F, K, L, w, la, pa, ra, hF, hK, hw, hl, rfl, rfl⟩ := I
  exact ⟨rfl, ad_R _ hF hK hw hl⟩
theorem i_vc_length {k : Nat} {u : SX} {v : SY} (I : i_Rel k u v) (hk : k + 4 ≤ 2048) : wpX_length (fun r => wpY_length (fun r' => r' = r ∧ i_Rel (k + 4) u v) v) u := by
  obtain ⟨F, K, L, w, la, pa, ra, hF, hK, hw, hl, rfl, rfl⟩ := I
  exact ⟨rfl, ad_R _ hF hK hw hl⟩
end
section
/-! the questions -/
theorem i_vc_total {k : Nat} {u : SX} {v : SY} (I : i_Rel k u v) (hk : k + 4 ≤ 2048) : wpX_total (fun r => wpY_total (fun r' v' => r' = r ∧ i_Rel (k + 4) u v') v) u := by
  obtain ⟨F, K, L, w, la, pa, ra, hF, hK, hw, hl, rfl, rfl⟩ := I
  have hL := ad_L hl hK
  obtain ⟨r, hX, hY⟩ := ad_tot hF hK (by omega) w la hl (nI L) (nI K)
  unfold wpX_total
  dsimp only
  exact hX _ (hY _ pa ra (fun pa' ra' => ⟨rfl, ad_R _ hF hK hw hl⟩))
theorem i_vc_paths {k : Nat} {u : SX} {v : SY} (I : i_Rel k u v) (hk : k + 4 ≤ 2048) : wpX_paths (fun r => wpY_paths (fun r' v' => r' = r ∧ i_Rel (k + 4) u v') v) u := by
  obtain ⟨F, K, L, w, la, pa, ra, hF, hK, hw, hl, rfl, rfl⟩ := I
  have hL := ad_L hl hK
  obtain ⟨r, hX, hY⟩ := ad_pthL hF hK (by omega) w la hl (nI K) (2 ^ (2 * F)) 0 0 (by omega)
  unfold wpX_paths
  dsimp only
  exact ad_xp hF _ _ _ ⟨_, hX _ ⟨_, hY _ pa ra (fun pa' ra' => ⟨rfl, ad_R _ hF hK hw hl⟩)⟩⟩
theorem i_vc_through {k : Nat} {u : SX} {v : SY} (I : i_Rel k u v) (hk : k + 4 ≤ 2048) (v1 : Int32) (v2 : Int32) : wpX_through (fun r => wpY_through (fun r' v' => r' = r ∧ i_Rel (k + 4) u v') v v1 v2) u v1 v2 := by
  obtain ⟨F, K, L, w, la, pa, ra, hF, hK, hw, hl, rfl, rfl⟩ := I
  have hL := ad_L hl hK
  have hR := ad_R (k + 4) (pa := pa) (ra := ra) hF hK hw hl
  unfold wpX_through wpY_through
  dsimp only
  rcases ad_fr v1 hF with h | ⟨t, ht, rfl⟩
  · exact ad_xi0 _ _ _ h (br_t rfl (ad_yi0 _ _ _ _ _ h (br_t rfl ⟨rfl, hR⟩)))
  refine ad_xi1 hF ht _ _ _ (br_f (by decide) ?_)
  rcases ad_ma v2 with h | ⟨m, hm, rfl⟩
  · exact ad_xk0 _ _ _ _ h (br_t rfl (ad_yi1 hF ht _ _ _ _ _ (br_f (by decide) (ad_yk0 _ _ _ _ _ _ h (br_t rfl ⟨rfl, hR⟩)))))
  obtain ⟨r, hX, hY⟩ := ad_thrL hF hK (by omega) ht hm w la hl (nI K) (2 ^ (2 * F)) 0 0 (by omega)
  exact ad_xk1 hm _ _ _ _ (br_f (by decide) (ad_xp hF _ _ _ ⟨_, hX _ (ad_yi1 hF ht _ _ _ _ _ (br_f (by decide) (ad_yk1 hm _ _ _ _ _ _ (br_f (by decide) ⟨_, hY _ pa ra (fun pa' ra' => ⟨rfl, ad_R _ hF hK hw hl⟩)⟩))))⟩))
theorem i_vc_prefix {k : Nat} {u : SX} {v : SY} (I : i_Rel k u v) (hk : k + 4 ≤ 2048) : wpX_prefix (fun r => wpY_prefix (fun r' v' => r' = r ∧ i_Rel (k + 4) u v') v) u := by
  obtain ⟨F, K, L, w, la, pa, ra, hF, hK, hw, hl, rfl, rfl⟩ := I
  have hL := ad_L hl hK
  obtain ⟨r, hX, hY⟩ := ad_preL hF hK (by omega) w la hl (nI K) (2 ^ (2 * F)) 0 0 (by omega)
  unfold wpX_prefix
  dsimp only
  exact ad_xp hF _ _ _ ⟨_, hX _ ⟨_, hY _ pa ra (fun pa' ra' => ⟨rfl, ad_R _ hF hK hw hl⟩)⟩⟩
theorem i_vc_everything {k : Nat} {u : SX} {v : SY} (I : i_Rel k u v) (hk : k + 4 ≤ 2048) : wpX_everything (fun r => wpY_everything (fun r' v' => r' = r ∧ i_Rel (k + 4) u v') v) u := by
  obtain ⟨F, K, L, w, la, pa, ra, hF, hK, hw, hl, rfl, rfl⟩ := I
  obtain ⟨r, hX, hY⟩ := ad_evyL hF w la (nI L) (nI K) (nI K) (2 ^ (2 * F)) 0 0 (by omega)
  unfold wpX_everything
  dsimp only
  exact ad_xp hF _ _ _ ⟨_, hX _ ⟨_, hY _ pa ra (fun pa' ra' => ⟨rfl, ad_R _ hF hK hw hl⟩)⟩⟩
theorem i_vc_best {k : Nat} {u : SX} {v : SY} (I : i_Rel k u v) (hk : k + 4 ≤ 2048) : wpX_best (fun r => wpY_best (fun r' v' => r' = r ∧ i_Rel (k + 4) u v') v) u := by
  obtain ⟨F, K, L, w, la, pa, ra, hF, hK, hw, hl, rfl, rfl⟩ := I
  have hL := ad_L hl hK
  obtain ⟨r, hr, hX, hY⟩ := ad_bst hF hK (by omega) w la hw hl (nI K)
  unfold wpX_best wpY_best
  dsimp only
  refine hX _ ?_
  rcases hr with rfl | ⟨p, hp, rfl⟩
  · exact br_t rfl (hY _ pa ra (fun pa' ra' => br_f (by decide) ⟨rfl, ad_R _ hF hK hw hl⟩))
  · have h1 : ¬ nI p = -1 := fun z => ad_neg (n := p) (by omega) (z ▸ Int32.le_refl _)
    exact br_f h1 (ad_xw hF hp _ _ _ (hY _ pa ra (fun pa' ra' => br_t (nI_pos' (by omega)) (ad_ys hF hp _ _ _ _ _ (fun pa'' _ => ⟨rfl, ad_R _ hF hK hw hl⟩)))))
theorem i_vc_bestAt {k : Nat} {u : SX} {v : SY} (I : i_Rel k u v) (hk : k + 4 ≤ 2048) (v1 : Int32) : wpX_bestAt (fun r => wpY_bestAt (fun r' v' => r' = r ∧ i_Rel (k + 4) u v') v v1) u v1 := by
  obtain ⟨F, K, L, w, la, pa, ra, hF, hK, hw, hl, rfl, rfl⟩ := I
  have hL := ad_L hl hK
  obtain ⟨r, hr, hX, hY⟩ := ad_bst hF hK (by omega) w la hw hl (nI K)
  unfold wpX_bestAt wpY_bestAt
  dsimp only
  rcases hr with rfl | ⟨p, hp, rfl⟩
  · rcases ad_fr v1 hF with h | ⟨t, ht, rfl⟩
    · exact ad_xi0 _ _ _ h (br_t rfl (hY _ pa ra (fun pa' ra' => br_t (by decide) ⟨rfl, ad_R _ hF hK hw hl⟩)))
    · exact ad_xi1 hF ht _ _ _ (br_f (by decide) (hX _ (br_t rfl (hY _ pa ra (fun pa' ra' => br_t (by decide) ⟨rfl, ad_R _ hF hK hw hl⟩)))))
  · have h1 : ¬ nI p = -1 := fun z => ad_neg (n := p) (by omega) (z ▸ Int32.le_refl _)
    have h0 : ¬ nI p < 0 := nI_pos (by omega)
    rcases ad_fr v1 hF with h | ⟨t, ht, rfl⟩
    · exact ad_xi0 _ _ _ h (br_t rfl (hY _ pa ra (fun pa' ra' => br_f h0 (ad_yi0 _ _ _ _ _ h (br_t rfl ⟨rfl, ad_R _ hF hK hw hl⟩)))))
    · refine ad_xi1 hF ht _ _ _ (br_f (by decide) (hX _ (br_f h1 (ad_xm hF ht hp _ _ _ (hY _ pa ra (fun pa' ra' => br_f h0 (ad_yi1 hF ht _ _ _ _ _ (br_f (by decide) (ad_ys hF hp _ _ _ _ _ (fun pa'' hpa => ⟨pk_in t 6 (by omega), ?_, ad_R _ hF hK hw hl⟩))))))))))
      rw [nI_clamp (by omega)]
      exact hpa t ht
theorem ad_bnL {F K L : Nat} (hF : F ≤ 6) (hK : K < 4) (w : Nat → Int32) (k : Int32) : ∀ (d m : Nat) (x g : Int32) (la : Nat → Int32), m + d = 4 → 1 ≤ m → ad_sp la K L → ∃ r : Int32, (∀ post : Int32 → Prop, post r → wX_bestNext_16 post (nI F) (nI L) k w (d + 1) x g (nI m)) ∧ (∀ (post : Int32 → SY → Prop) (pa ra : Nat → Int32), (∀ la' pa' ra', ad_sp la' K L → post r (nI F, nI K, w, la', pa', ra')) → wY_bestNext_6 post (d + 1) x g (nI m) (nI F) (nI K) w la pa ra) := by
  intro d
  induction d with
  | zero =>
    intro m x g la hm h1 hl
    have h : (4 : Int32) ≤ nI m := nI_le (a := 4) (by omega) (by omega)
    exact ⟨x, fun _ hp => br_t h hp, fun _ pa ra hp => br_t h (hp la pa ra hl)⟩
  | succ d ih =>
    intro m x g la hm h1 hl
    have h : ¬ (4 : Int32) ≤ nI m := nI_ge (b := 4) (by omega) (by omega)
    have h4 : ¬ (4 : Int32) ≤ nI K := nI_ge (b := 4) (by omega) (by omega)
    have hL := ad_L hl (by omega)
    have hl1 : ad_sp (upd la K (nI m)) (K + 1) (4 * L + m) := ad_sp_p hl h1 (by omega)
    have hl2 : ad_sp (upd la K (nI m)) K L := ad_sp_c (fun i hi => pk_un (by omega)) hl
    obtain ⟨s, sX, sY⟩ := ad_tot hF (by omega) (by omega) w _ hl1 (nI L) k
    by_cases e : s ≤ g
    · obtain ⟨r, hX, hY⟩ := ih (m + 1) x g _ (by omega) (by omega) hl2
      refine ⟨r, fun post hp => br_f h (ad_xa (by omega) (by omega) _ _ _ _ (sX _ (br_t e (nm_r (nI_1 m) (hX post hp))))), fun post pa ra hp => ?_⟩
      rw [wY_bestNext_6]
      refine br_f h (br_f h4 (ad_yw h1 (by omega) hK _ _ _ _ _ (sY _ pa ra (fun pa' ra' => ad_yu hK _ _ _ _ _ (br_t e ?_)))))
      exact br_t e (nm_r (nI_1 m) (hY post pa' ra' hp))
    · obtain ⟨r, hX, hY⟩ := ih (m + 1) (nI m) s _ (by omega) (by omega) hl2
      refine ⟨r, fun post hp => br_f h (ad_xa (by omega) (by omega) _ _ _ _ (sX _ (br_f e (nm_r (nI_1 m) (hX post hp))))), fun post pa ra hp => ?_⟩
      rw [wY_bestNext_6]
      refine br_f h (br_f h4 (ad_yw h1 (by omega) hK _ _ _ _ _ (sY _ pa ra (fun pa' ra' => ad_yu hK _ _ _ _ _ (br_f e ?_)))))
      exact br_f e (nm_r (nI_1 m) (hY post pa' ra' hp))
theorem i_vc_bestNext {k : Nat} {u : SX} {v : SY} (I : i_Rel k u v) (hk : k + 4 ≤ 2048) : wpX_bestNext (fun r => wpY_bestNext (fun r' v' => r' = r ∧ i_Rel (k + 4) u v') v) u := by
  obtain ⟨F, K, L, w, la, pa, ra, hF, hK, hw, hl, rfl, rfl⟩ := I
  refine pk_lt K 4 (fun h => ?_) (fun h => ?_)
  · obtain ⟨r, hX, hY⟩ := ad_bnL hF h w (nI K) 3 1 0 0 la (by omega) (by omega) hl
    exact ⟨4, hX _ ⟨4, hY _ pa ra (fun la' pa' ra' hl' => ⟨rfl, ad_R _ hF hK hw hl'⟩)⟩⟩
  · exact ⟨1, br_f (by decide) (br_t (nI_le (a := 4) h (by omega)) ⟨rfl, ad_R _ hF hK hw hl⟩)⟩
end
