theorem pk_us {f : Nat → Int32} {k : Nat} {x : Int32} : upd f k x k = x := if_pos rfl
theorem pk_un {f : Nat → Int32} {k j : Nat} {x : Int32} (h : j ≠ k) : upd f k x j = f j := if_neg h
theorem pk_sub {a b : Nat} (h : b ≤ a) : nI a - nI b = nI (a - b) := by
  obtain ⟨c, rfl⟩ : ∃ c, a = c + b := ⟨a - b, by omega⟩
  rw [← nI_add, Int32.add_sub_cancel, Nat.add_sub_cancel]
theorem pk_mul (a b : Nat) : nI a * nI b = nI (a * b) := (Int32.ofNat_mul a b).symm
theorem pk_div {a d : Nat} (ha : a < 2 ^ 31) (h0 : 0 < d) (hd : d < 2 ^ 31) : nI a / nI d = nI (a / d) := by
  apply Int32.toInt_inj.mp
  rw [lg_idiv_nonneg (by rw [nI_toInt ha]; omega) (by rw [nI_toInt hd]; omega), nI_toInt ha, nI_toInt hd, nI_toInt (Nat.lt_of_le_of_lt (Nat.div_le_self a d) ha)]
  first | rfl | exact (Int.natCast_ediv _ _).symm
theorem pk_rem {a d : Nat} (ha : a < 2 ^ 31) (h0 : 0 < d) (hd : d < 2 ^ 31) : nI a - nI a / nI d * nI d = nI (a % d) := by
  rw [pk_div ha h0 hd, pk_mul, pk_sub (Nat.div_mul_le_self a d)]
  exact congrArg nI (by have := Nat.div_add_mod' a d; omega)
theorem pk_ix (x : Int32) {n : Nat} (hn : n < 2 ^ 31) : x < 0 ∨ nI n ≤ x ∨ ∃ j : Nat, j < n ∧ x = nI j := by
  by_cases h : x < 0
  · exact Or.inl h
  · obtain ⟨j, hj, rfl⟩ := nI_of h
    by_cases h2 : j < n
    · exact Or.inr (Or.inr ⟨j, h2, rfl⟩)
    · exact Or.inr (Or.inl (nI_le (by omega) hj))
theorem pk_le {x y : Int32} {A B : Prop} (a b : Nat) (f : a ≤ b → A) (g : b < a → B) (hx : x = nI a := by rfl) (hy : y = nI b := by rfl) (ha : a < 2 ^ 31 := by omega) (hb : b < 2 ^ 31 := by omega) : (x ≤ y → A) ∧ (¬ x ≤ y → B) := by
  subst hx hy
  rw [nI_leI ha hb]
  exact ⟨f, fun z => g (by omega)⟩
theorem pk_lt {x y : Int32} {A B : Prop} (a b : Nat) (f : a < b → A) (g : b ≤ a → B) (hx : x = nI a := by rfl) (hy : y = nI b := by rfl) (ha : a < 2 ^ 31 := by omega) (hb : b < 2 ^ 31 := by omega) : (x < y → A) ∧ (¬ x < y → B) := by
  subst hx hy
  rw [nI_ltI ha hb]
  exact ⟨f, fun z => g (by omega)⟩
theorem pk_eq {x y : Int32} {A B : Prop} (a b : Nat) (f : a = b → A) (g : a ≠ b → B) (hx : x = nI a := by rfl) (hy : y = nI b := by rfl) (ha : a < 2 ^ 31 := by omega) (hb : b < 2 ^ 31 := by omega) : (x = y → A) ∧ (¬ x = y → B) := by
  subst hx hy
  rw [nI_eq ha hb]
  exact ⟨f, g⟩
theorem pk_in {x : Int32} (n N : Nat) (h : n < N) (hx : x = nI n := by rfl) (hN : N < 2 ^ 31 := by omega) : vp_in x N := by
  subst hx
  exact vp_in_nI h hN
theorem pk_cl {x : Int32} (n : Nat) (hx : x = nI n := by rfl) (h : n < 2 ^ 31 := by omega) : x.toNatClampNeg = n := by
  subst hx
  exact nI_clamp h
theorem pk_tn {n : Nat} (h : n < 2 ^ 32) : (nI n).toBitVec.toNat = n := Nat.mod_eq_of_lt h
theorem pk_and (x : Int32) {m : Int32} (k : Nat) (hm : m.toBitVec.toNat = 2 ^ k - 1) : x &&& m = nI (x.toBitVec.toNat % 2 ^ k) := by
  apply Int32.toBitVec_inj.mp
  apply BitVec.eq_of_toNat_eq
  rw [Int32.toBitVec_and, BitVec.toNat_and, hm, Nat.and_two_pow_sub_one_eq_mod]
  show _ = (BitVec.ofNat 32 _).toNat
  rw [BitVec.toNat_ofNat]
  exact (Nat.mod_eq_of_lt (Nat.lt_of_le_of_lt (Nat.mod_le _ _) x.toBitVec.isLt)).symm
theorem pk_andN {n : Nat} (h : n < 2 ^ 32) {m : Int32} (k : Nat) (hm : m.toBitVec.toNat = 2 ^ k - 1) : nI n &&& m = nI (n % 2 ^ k) := by
  rw [pk_and _ k hm, pk_tn h]
theorem pk_shl (a s : Int32) (k : Nat) (hs : (s.toBitVec.smod 32).toNat = k) : (a <<< s).toBitVec.toNat = a.toBitVec.toNat * 2 ^ k % 2 ^ 32 := by
  show (a.toBitVec <<< (s.toBitVec.smod 32).toNat).toNat = _
  rw [hs, BitVec.toNat_shiftLeft, Nat.shiftLeft_eq]
theorem pk_shlN {n : Nat} (s : Int32) (k : Nat) (hs : (s.toBitVec.smod 32).toNat = k) (h : n * 2 ^ k < 2 ^ 32) : nI n <<< s = nI (n * 2 ^ k) := by
  apply Int32.toBitVec_inj.mp
  apply BitVec.eq_of_toNat_eq
  have hn : n < 2 ^ 32 := Nat.lt_of_le_of_lt (Nat.le_mul_of_pos_right n (Nat.two_pow_pos k)) h
  rw [pk_shl _ _ k hs, pk_tn hn, pk_tn h, Nat.mod_eq_of_lt h]
theorem pk_shr (a s : Int32) (k : Nat) (hs : (s.toBitVec.smod 32).toNat = k) : (a >>> s).toInt = a.toInt >>> k := by
  show (a.toBitVec.sshiftRight (s.toBitVec.smod 32).toNat).toInt = _
  rw [hs, BitVec.toInt_sshiftRight]
  rfl
theorem pk_shrN {n : Nat} (h : n < 2 ^ 31) (s : Int32) (k : Nat) (hs : (s.toBitVec.smod 32).toNat = k) : nI n >>> s = nI (n / 2 ^ k) := by
  apply Int32.toInt_inj.mp
  have h2 : n / 2 ^ k ≤ n := Nat.div_le_self _ _
  rw [pk_shr _ _ k hs, nI_toInt h, nI_toInt (by omega), Int.shiftRight_eq_div_pow]
  rfl
theorem ad_sl : ∀ n, n < 32 → ((nI n &&& 31).toBitVec.smod 32).toNat = n := by decide +kernel
/-- the shift count that both sides use -/
theorem ad_cnt {F t : Nat} (hF : F ≤ 6) (ht : t < F) : (2 : Int32) * ((nI F - 1) - nI t) = nI (2 * (F - 1 - t)) := by
  have e1 : nI F - 1 = nI (F - 1) := pk_sub (a := F) (b := 1) (by omega)
  rw [e1, pk_sub (by omega)]
  exact pk_mul 2 _
theorem ad_or {a m : Nat} (hm : m < 4) (ha : a < 2 ^ 24) : (nI a <<< ((2 : Int32) &&& 31)) ||| nI m = nI (4 * a + m) := by
  have e1 : nI a <<< ((2 : Int32) &&& 31) = nI (a * 2 ^ 2) := pk_shlN _ 2 (by decide) (by omega)
  rw [e1]
  apply Int32.toBitVec_inj.mp
  apply BitVec.eq_of_toNat_eq
  rw [Int32.toBitVec_or, BitVec.toNat_or, pk_tn (by omega), pk_tn (by omega), pk_tn (by omega)]
  have h := Nat.shiftLeft_add_eq_or_of_lt (a := a) (b := m) (i := 2) (by omega)
  rw [Nat.shiftLeft_eq] at h
  omega
theorem ad_shr2 {a : Nat} (ha : a < 2 ^ 31) : nI a >>> ((2 : Int32) &&& 31) = nI (a / 4) := pk_shrN ha _ 2 (by decide)
theorem ad_and3 {a : Nat} (ha : a < 2 ^ 31) : nI a &&& 3 = nI (a % 4) := pk_andN (by omega) 2 (by decide)
theorem ad_all {F : Nat} (hF : F ≤ 6) : (1 : Int32) <<< (((2 : Int32) * nI F) &&& 31) = nI (2 ^ (2 * F)) := by
  have e : (2 : Int32) * nI F = nI (2 * F) := pk_mul 2 F
  have hp : 2 ^ (2 * F) ≤ 2 ^ 12 := Nat.pow_le_pow_right (by omega) (by omega)
  have h := pk_shlN (n := 1) (nI (2 * F) &&& 31) (2 * F) (ad_sl _ (by omega)) (by omega)
  rw [e]
  rw [Nat.one_mul] at h
  exact h
theorem ad_big {F : Nat} (hF : F ≤ 6) : 2 ^ (2 * F) ≤ 4096 := by
  have h : 2 ^ (2 * F) ≤ 2 ^ 12 := Nat.pow_le_pow_right (by omega) (by omega)
  exact h
/-- the mark of the path c at frame t -/
def ad_mk (F c t : Nat) : Nat := c / 2 ^ (2 * (F - 1 - t)) % 4
theorem ad_mk_lt (F c t : Nat) : ad_mk F c t < 4 := Nat.mod_lt _ (by omega)
theorem ad_mkI {F c t : Nat} (hF : F ≤ 6) (ht : t < F) (hc : c < 4096) : (nI c >>> (((2 : Int32) * ((nI F - 1) - nI t)) &&& 31)) &&& 3 = nI (ad_mk F c t) := by
  rw [ad_cnt hF ht, pk_shrN (by omega) (nI (2 * (F - 1 - t)) &&& 31) (2 * (F - 1 - t)) (ad_sl _ (by omega))]
  exact ad_and3 (Nat.lt_of_le_of_lt (Nat.div_le_self _ _) (by omega))
/-- cells 0 .. 8 -/
def ad_ok (w : Nat → Int32) : Prop := ∀ j, ∃ c, c ≤ 8 ∧ w j = nI c
theorem ad_ok0 : ad_ok (fun _ => 0) := fun _ => ⟨0, by omega, rfl⟩
theorem ad_okU {w : Nat → Int32} (h : ad_ok w) {c : Nat} (hc : c ≤ 8) (k : Nat) : ad_ok (upd w k (nI c)) := by
  intro j
  by_cases e : j = k
  · rw [e, pk_us]; exact ⟨c, hc, rfl⟩
  · rw [pk_un e]; exact h j
/-- the product of the first t weights of the path c -/
def ad_wt (w : Nat → Int32) (F c : Nat) : Nat → Int32
  | 0 => 1
  | t + 1 => ad_wt w F c t * w (t * 4 + ad_mk F c t)
theorem ad_wt_le {w : Nat → Int32} (h : ad_ok w) (F c : Nat) : ∀ t, ∃ p, p ≤ 8 ^ t ∧ ad_wt w F c t = nI p
  | 0 => ⟨1, by omega, rfl⟩
  | t + 1 => by
    obtain ⟨p, hp, ep⟩ := ad_wt_le h F c t
    obtain ⟨q, hq, eq⟩ := h (t * 4 + ad_mk F c t)
    refine ⟨p * q, ?_, ?_⟩
    · rw [Nat.pow_succ]; exact Nat.mul_le_mul hp hq
    · rw [ad_wt, ep, eq, pk_mul]
theorem ad_wtF {w : Nat → Int32} (h : ad_ok w) {F : Nat} (hF : F ≤ 6) (c : Nat) : ∃ p, p ≤ 262144 ∧ ad_wt w F c F = nI p := by
  obtain ⟨p, hp, ep⟩ := ad_wt_le h F c F
  have h6 : 8 ^ F ≤ 8 ^ 6 := Nat.pow_le_pow_right (by omega) hF
  exact ⟨p, Nat.le_trans hp h6, ep⟩
/-- the mark before frame t -/
def ad_pv (F c : Nat) : Nat → Nat
  | 0 => 0
  | t + 1 => ad_mk F c t
/-- what the first t frames of the path c read -/
def ad_rn (F c : Nat) : Nat → Nat
  | 0 => 0
  | t + 1 => if ad_mk F c t = ad_pv F c t then ad_rn F c t else if ad_mk F c t = 0 then ad_rn F c t else 4 * ad_rn F c t + ad_mk F c t
theorem ad_rn_lt (F c : Nat) : ∀ t, ad_rn F c t < 4 ^ t
  | 0 => by rw [ad_rn]; omega
  | t + 1 => by
    have ih := ad_rn_lt F c t
    have hm := ad_mk_lt F c t
    rw [ad_rn, Nat.pow_succ]
    split
    · omega
    · split <;> omega
theorem ad_rnB (F c : Nat) {t : Nat} (ht : t ≤ 6) : ad_rn F c t < 4096 := by
  have h6 : 4 ^ t ≤ 4 ^ 6 := Nat.pow_le_pow_right (by omega) ht
  exact Nat.lt_of_lt_of_le (ad_rn_lt F c t) h6
/-- the first n cells of a, marks 1 .. 3, spell the number R -/
def ad_sp (a : Nat → Int32) : Nat → Nat → Prop
  | 0, R => R = 0
  | n + 1, R => ∃ m q, 1 ≤ m ∧ m ≤ 3 ∧ a n = nI m ∧ R = 4 * q + m ∧ ad_sp a n q
theorem ad_sp_c {a b : Nat → Int32} : ∀ {n R : Nat}, (∀ k, k < n → b k = a k) → ad_sp a n R → ad_sp b n R
  | 0, _, _, h => h
  | n + 1, _, e, ⟨m, q, h1, h3, ea, er, h⟩ => ⟨m, q, h1, h3, (e n (by omega)).trans ea, er, ad_sp_c (fun k hk => e k (by omega)) h⟩
theorem ad_sp_p {a : Nat → Int32} {n R m : Nat} (h : ad_sp a n R) (h1 : 1 ≤ m) (h3 : m ≤ 3) : ad_sp (upd a n (nI m)) (n + 1) (4 * R + m) :=
  ⟨m, R, h1, h3, pk_us, rfl, ad_sp_c (fun k hk => pk_un (by omega)) h⟩
theorem ad_sp_lt {a : Nat → Int32} : ∀ {n R : Nat}, ad_sp a n R → R < 4 ^ n
  | 0, R, h => by have h : R = 0 := h; omega
  | n + 1, R, ⟨m, q, h1, h3, ea, er, h⟩ => by
    have := ad_sp_lt h
    rw [Nat.pow_succ]; omega
theorem ad_sp_k {a : Nat → Int32} : ∀ {n R : Nat}, ad_sp a n R → ∀ k, k < n → ∃ m, 1 ≤ m ∧ m ≤ 3 ∧ a k = nI m
  | 0, _, _, k, hk => absurd hk (by omega)
  | n + 1, _, ⟨m, q, h1, h3, ea, er, h⟩, k, hk => by
    by_cases e : k = n
    · rw [e]; exact ⟨m, h1, h3, ea⟩
    · exact ad_sp_k h k (by omega)
/-- two spellings are the same number if and only if they are the same marks -/
theorem ad_fit {a b : Nat → Int32} : ∀ {n m R L : Nat}, ad_sp a n R → ad_sp b m L → (R = L ↔ n = m ∧ ∀ k, k < m → a k = b k)
  | 0, 0, R, L, h, g => by
    have h : R = 0 := h
    have g : L = 0 := g
    exact ⟨fun _ => ⟨rfl, fun k hk => absurd hk (by omega)⟩, fun _ => by omega⟩
  | 0, m + 1, R, L, h, ⟨x, q, h1, h3, ea, er, g⟩ => by
    have h : R = 0 := h
    exact ⟨fun e => by omega, fun e => absurd e.1 (by omega)⟩
  | n + 1, 0, R, L, ⟨x, q, h1, h3, ea, er, h⟩, g => by
    have g : L = 0 := g
    exact ⟨fun e => by omega, fun e => absurd e.1 (by omega)⟩
  | n + 1, m + 1, R, L, ⟨x, q, h1, h3, ea, er, h⟩, ⟨x', q', h1', h3', ea', er', g⟩ => by
    have ih := ad_fit h g
    constructor
    · intro e
      have ex : x = x' := by omega
      obtain ⟨e1, e2⟩ := ih.mp (by omega)
      subst e1
      refine ⟨rfl, fun k hk => ?_⟩
      by_cases ek : k = n
      · rw [ek, ea, ea', ex]
      · exact e2 k (by omega)
    · intro ⟨e1, e2⟩
      have e1 : n = m := by omega
      subst e1
      have e3 := ih.mpr ⟨rfl, fun k hk => e2 k (by omega)⟩
      have e4 := e2 n (by omega)
      rw [ea, ea', nI_eq (by omega) (by omega)] at e4
      omega
/-- cutting marks off the end of R, j times looked at: is L met? -/
def ad_bw (L : Nat) : Nat → Nat → Bool
  | 0, _ => false
  | j + 1, R => if R = L then true else ad_bw L j (R / 4)
theorem ad_bw0 {L : Nat} (h : L ≠ 0) : ∀ j, ad_bw L j 0 = false
  | 0 => rfl
  | j + 1 => by rw [ad_bw, if_neg (by omega)]; exact ad_bw0 h j
theorem ad_pre {a b : Nat → Int32} : ∀ {n m R L j : Nat}, ad_sp a n R → ad_sp b m L → n < j → (ad_bw L j R = true ↔ m ≤ n ∧ ∀ k, k < m → a k = b k)
  | _, _, _, _, 0, _, _, hj => absurd hj (by omega)
  | 0, m, R, L, j + 1, h, g, _ => by
    have f := ad_fit h g
    have h : R = 0 := h
    rw [ad_bw]
    by_cases e : R = L
    · rw [if_pos e]
      have e2 := f.mp e
      exact ⟨fun _ => ⟨by omega, e2.2⟩, fun _ => rfl⟩
    · have z : R / 4 = 0 := by omega
      rw [if_neg e, z, ad_bw0 (by omega)]
      exact ⟨fun z => (nomatch z), fun ⟨e1, e2⟩ => absurd (f.mpr ⟨by omega, e2⟩) e⟩
  | n + 1, m, R, L, j + 1, h, g, hj => by
    have f := ad_fit h g
    obtain ⟨x, q, h1, h3, ea, er, h'⟩ := h
    have ih := ad_pre (j := j) h' g (by omega)
    rw [ad_bw]
    by_cases e : R = L
    · rw [if_pos e]
      have e2 := f.mp e
      exact ⟨fun _ => ⟨by omega, e2.2⟩, fun _ => rfl⟩
    · have z : R / 4 = q := by omega
      rw [if_neg e, z, ih]
      refine ⟨fun ⟨e1, e2⟩ => ⟨by omega, e2⟩, fun ⟨e1, e2⟩ => ⟨?_, e2⟩⟩
      by_cases e3 : n + 1 = m
      · exact absurd (f.mpr ⟨e3, e2⟩) e
      · omega
