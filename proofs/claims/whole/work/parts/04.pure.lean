/-! pasted families of kit/laws/BITS.to-paste: s_l, nx_and, ts_, wb_, u_tn -/
theorem s_l : ∀ n, n < 32 → ((nI n &&& 31).toBitVec.smod 32).toNat = n := by decide +kernel
theorem nx_and (a b : Nat) : nI a &&& nI b = nI (a &&& b) := by
  apply Int32.toBitVec_inj.1
  show BitVec.ofNat 32 a &&& BitVec.ofNat 32 b = BitVec.ofNat 32 (a &&& b)
  apply BitVec.eq_of_getLsbD_eq
  intro i hi
  simp [hi]
theorem nx_or (a b : Nat) : nI a ||| nI b = nI (a ||| b) := by
  apply Int32.toBitVec_inj.1
  show BitVec.ofNat 32 a ||| BitVec.ofNat 32 b = BitVec.ofNat 32 (a ||| b)
  apply BitVec.eq_of_getLsbD_eq
  intro i hi
  simp [hi]
theorem ts_nf {x : Bool} (h : ¬ x = false) : x = true := by cases x <;> first | rfl | exact absurd rfl h
theorem ts_nt {x : Bool} (h : ¬ x = true) : x = false := by cases x <;> first | rfl | exact absurd rfl h
theorem ts_bit {w : Int64} {s : UInt64} {j : Nat} (hj : j < 64) (hs : s.toNat = j) : ((w.toUInt64 >>> s).toInt64 &&& 1) = 0 ↔ w.toBitVec.getLsbD j = false := by
  have e : (w.toUInt64 >>> s).toInt64.toBitVec = w.toBitVec >>> j := by
    apply BitVec.eq_of_toNat_eq
    show (w.toUInt64 >>> s).toNat = _
    rw [UInt64.toNat_shiftRight, hs, Nat.mod_eq_of_lt hj, BitVec.toNat_ushiftRight]
    rfl
  rw [← Int64.toBitVec_inj, Int64.toBitVec_and, e]
  show w.toBitVec >>> j &&& 1#64 = 0#64 ↔ _
  constructor
  · intro h
    have t := congrArg (fun x => x.getLsbD 0) h
    simpa using t
  · intro h
    apply BitVec.eq_of_getLsbD_eq
    intro i hi
    cases i with
    | zero => simp [h]
    | succ i => simp
theorem wb_c : ∀ k, k < 64 → ((nI k).toInt64 &&& 63) = lN k := by decide +kernel
theorem wb_cu : ∀ k, k < 64 → ((nI k).toInt64.toUInt64 &&& Int64.toUInt64 63) = UInt64.ofNat k := by decide +kernel
theorem wb_sm : ∀ k, k < 64 → (BitVec.ofNat 64 k).smod 64 = BitVec.ofNat 64 k := by decide +kernel
theorem u_tn {n : Nat} (h : n < 2 ^ 64) : (UInt64.ofNat n).toNat = n := Nat.mod_eq_of_lt h
/-! small numbers in ints -/
theorem shrN {a b : Nat} (ha : a < 2 ^ 31) (hb : b < 32) : nI a >>> (nI b &&& 31) = nI (a / 2 ^ b) := pk_shrN ha _ b (s_l b hb)
theorem shlN {a b : Nat} (hb : b < 32) (h : a * 2 ^ b < 2 ^ 32) : nI a <<< (nI b &&& 31) = nI (a * 2 ^ b) := pk_shlN _ b (s_l b hb) h
theorem n_z {a : Nat} (h : a < 2 ^ 31) : nI a = 0 ↔ a = 0 := nI_eq (b := 0) h (by decide)
theorem n_lt0 {a : Nat} (h : a < 2 ^ 31) : nI a < 0 ↔ a < 0 := nI_ltI (b := 0) h (by decide)
theorem n_ge0 {a : Nat} (h : a < 2 ^ 31) : 0 ≤ nI a ↔ 0 ≤ a := nI_leI (a := 0) (by decide) h
theorem n_gt0 {a : Nat} (h : a < 2 ^ 31) : 0 < nI a ↔ 0 < a := nI_ltI (a := 0) (by decide) h
theorem n_le0 {a : Nat} (h : a < 2 ^ 31) : nI a ≤ 0 ↔ a ≤ 0 := nI_leI (b := 0) h (by decide)
theorem lcz {x y : Int64} : lg_cmp x y = 0 ↔ x = y := lg_cmp_eq x y
theorem tb_z {n i : Nat} : nI ((n / 2 ^ i) &&& 1) = 0 ↔ n.testBit i = false := by
  have h : (n / 2 ^ i) &&& 1 = n / 2 ^ i % 2 := Nat.and_one_is_mod _
  rw [h, Nat.testBit_eq_decide_div_mod_eq, decide_eq_false_iff_not]
  generalize n / 2 ^ i = z
  rw [n_z (by omega)]
  omega
def bI (b : Bool) : Int32 := cond b (nI 1) (nI 0)
theorem bI_z {b : Bool} : bI b = 0 ↔ b = false := by cases b <;> decide
theorem bI_01 (b : Bool) : bI b = 0 ∨ bI b = 1 := by cases b <;> decide
/-! bits of longs -/
def bL (x : Int64) (t : Nat) : Bool := x.toBitVec.getLsbD t
theorem bL_and (x y : Int64) (t : Nat) : bL (x &&& y) t = (bL x t && bL y t) := by unfold bL; rw [Int64.toBitVec_and, BitVec.getLsbD_and]
theorem bL_or (x y : Int64) (t : Nat) : bL (x ||| y) t = (bL x t || bL y t) := by unfold bL; rw [Int64.toBitVec_or, BitVec.getLsbD_or]
theorem bL_m1 {t : Nat} (ht : t < 64) : bL (-1) t = true := (by decide +kernel : ∀ t, t < 64 → bL (-1) t = true) t ht
theorem bL_0 (t : Nat) : bL 0 t = false := BitVec.getLsbD_zero
theorem bL_not {x : Int64} {t : Nat} (ht : t < 64) : bL (x ^^^ (-1)) t = !(bL x t) := by
  have h := bL_m1 ht
  unfold bL at h ⊢
  rw [Int64.toBitVec_xor, BitVec.getLsbD_xor, h, Bool.xor_true]
theorem bL_ext0 {x : Int64} (h : ∀ t, t < 64 → bL x t = false) : x = 0 := Int64.toBitVec_inj.mp (BitVec.eq_of_getLsbD_eq (fun i hi => (h i hi).trans BitVec.getLsbD_zero.symm))
theorem bit_at (x : Int64) {k : Nat} (hk : k < 64) : ((x.toUInt64 >>> ((nI k).toInt64.toUInt64 &&& Int64.toUInt64 63)).toInt64 &&& 1) = 0 ↔ bL x k = false := by
  rw [wb_cu k hk]
  exact ts_bit hk (u_tn (by omega))
def RS (f : Nat → Int64) (S : Nat → Bool) : Prop := ∀ w, w < 64 → ∀ t, t < 64 → bL (f w) t = S (64 * w + t)
theorem RS.at {f : Nat → Int64} {S : Nat → Bool} (h : RS f S) {n : Nat} (hn : n < 4096) : bL (f (n / 64)) (n % 64) = S n := by
  have := h (n / 64) (by omega) (n % 64) (by omega)
  rw [this]
  congr 1
  omega
/-! digits -/
def dg (r p : Nat) : Nat := r / 4 ^ p % 4
theorem dg_lt (r p : Nat) : dg r p < 4 := Nat.mod_lt _ (by decide)
theorem dg_lt31 (r p : Nat) : dg r p < 2 ^ 31 := Nat.lt_trans (dg_lt r p) (by decide)
theorem p24 (p : Nat) : 2 ^ (2 * p) = 4 ^ p := Nat.pow_mul ..
theorem dg_eq (n q : Nat) : dg n q = (n / 2 ^ (2 * q)) &&& 3 := by
  have h : n / 2 ^ (2 * q) &&& 3 = n / 2 ^ (2 * q) % 4 := Nat.and_two_pow_sub_one_eq_mod _ 2
  rw [h, p24]
  rfl
theorem dg_0 (r : Nat) : dg r 0 = r % 4 := by unfold dg; rw [Nat.pow_zero, Nat.div_one]
theorem dg_s (r p : Nat) : dg r (p + 1) = dg (r / 4) p := by unfold dg; rw [Nat.pow_succ', ← Nat.div_div_eq_div_mul]
theorem dg_z (p : Nat) : dg 0 p = 0 := by unfold dg; rw [Nat.zero_div]
theorem dg_big {r p : Nat} (h : r < 4 ^ p) : dg r p = 0 := by unfold dg; rw [Nat.div_eq_of_lt h]
theorem p4 (k : Nat) : 0 < 4 ^ k := Nat.pow_pos (by decide)
theorem p4le {a b : Nat} (h : a ≤ b) : 4 ^ a ≤ 4 ^ b := Nat.pow_le_pow_right (by decide) h
theorem dg_add {a d k : Nat} (p : Nat) (ha : a < 4 ^ k) (hd : d < 4) : dg (a + d * 4 ^ k) p = if p < k then dg a p else if p = k then d else 0 := by
  rcases Nat.lt_trichotomy p k with h | h | h
  · rw [if_pos h]
    obtain ⟨e, rfl⟩ : ∃ e, k = p + 1 + e := ⟨k - p - 1, by omega⟩
    unfold dg
    have h1 : d * 4 ^ (p + 1 + e) = 4 ^ p * (4 * (4 ^ e * d)) := by
      rw [Nat.pow_add, Nat.pow_succ]
      ac_rfl
    rw [h1, Nat.add_mul_div_left _ _ (p4 p), Nat.add_mul_mod_self_left]
  · subst h
    rw [if_neg (Nat.lt_irrefl _), if_pos rfl]
    unfold dg
    rw [Nat.mul_comm, Nat.add_mul_div_left _ _ (p4 p), Nat.div_eq_of_lt ha, Nat.zero_add, Nat.mod_eq_of_lt hd]
  · rw [if_neg (by omega), if_neg (by omega)]
    apply dg_big
    have h1 : 4 ^ (k + 1) ≤ 4 ^ p := p4le h
    rw [Nat.pow_succ] at h1
    have h2 : d * 4 ^ k ≤ 3 * 4 ^ k := Nat.mul_le_mul_right _ (by omega)
    omega
theorem dg_ext : ∀ {k r s : Nat}, r < 4 ^ k → s < 4 ^ k → (∀ p, p < k → dg r p = dg s p) → r = s
  | 0, r, s, hr, hs, _ => by rw [Nat.pow_zero] at hr hs; omega
  | k + 1, r, s, hr, hs, h => by
    rw [Nat.pow_succ] at hr hs
    have h0 := h 0 (by omega)
    rw [dg_0, dg_0] at h0
    have h1 : r / 4 = s / 4 := dg_ext (k := k) (by omega) (by omega) (fun p hp => by
      have := h (p + 1) (by omega)
      rw [dg_s, dg_s] at this
      exact this)
    omega
theorem dg_and (r s p : Nat) : dg (r &&& s) p = dg r p &&& dg s p := by
  unfold dg
  rw [← p24, Nat.and_div_two_pow]
  exact Nat.and_mod_two_pow (n := 2)
theorem dg_or (r s p : Nat) : dg (r ||| s) p = dg r p ||| dg s p := by
  unfold dg
  rw [← p24, Nat.or_div_two_pow]
  exact Nat.or_mod_two_pow (n := 2)
theorem dg_hi {w t q : Nat} (ht : t < 64) (hq : 3 ≤ q) : dg (64 * w + t) q = dg w (q - 3) := by
  obtain ⟨k, rfl⟩ : ∃ k, q = 3 + k := ⟨q - 3, by omega⟩
  unfold dg
  rw [Nat.pow_add, ← Nat.div_div_eq_div_mul, show (64 * w + t) / 4 ^ 3 = w by omega, Nat.add_sub_cancel_left]
theorem dg_lo {w t q : Nat} (hq : q < 3) : dg (64 * w + t) q = dg t q := by
  have h : q = 0 ∨ q = 1 ∨ q = 2 := by omega
  unfold dg
  rcases h with rfl | rfl | rfl <;> omega
/-- digits f below place k -/
def sd (f : Nat → Nat) : Nat → Nat
  | 0 => 0
  | i + 1 => sd f i + f i * 4 ^ i
theorem sd_lt {f : Nat → Nat} (hf : ∀ p, f p < 4) : ∀ k, sd f k < 4 ^ k
  | 0 => by show 0 < 1; decide
  | k + 1 => by
    have h := sd_lt hf k
    have h2 : f k * 4 ^ k ≤ 3 * 4 ^ k := Nat.mul_le_mul_right _ (by have := hf k; omega)
    show sd f k + f k * 4 ^ k < 4 ^ (k + 1)
    rw [Nat.pow_succ]
    omega
theorem dg_sd {f : Nat → Nat} (hf : ∀ p, f p < 4) : ∀ k p, dg (sd f k) p = if p < k then f p else 0
  | 0, p => by rw [if_neg (Nat.not_lt_zero _)]; exact dg_z p
  | k + 1, p => by
    show dg (sd f k + f k * 4 ^ k) p = _
    rw [dg_add p (sd_lt hf k) (hf k), dg_sd hf k p]
    by_cases h : p < k
    · rw [if_pos h, if_pos h, if_pos (by omega)]
    · rw [if_neg h]
      by_cases h2 : p = k
      · subst h2; rw [if_pos rfl, if_pos (by omega)]
      · rw [if_neg h2, if_neg (by omega)]
theorem sd_dg {k r : Nat} (h : r < 4 ^ k) : sd (dg r) k = r :=
  dg_ext (sd_lt (dg_lt r) k) h (fun p hp => by rw [dg_sd (dg_lt r) k p, if_pos hp])
/-! sets of parameters: n < 64; fields, count, the j-th tuple, the place of a row's tuple -/
def cn (n : Nat) : Nat → Nat
  | 0 => 0
  | i + 1 => cn n i + cond (n.testBit i) 1 0
theorem cn_le (n : Nat) : ∀ i, cn n i ≤ i
  | 0 => Nat.le_refl _
  | i + 1 => by
    have h := cn_le n i
    show cn n i + cond (n.testBit i) 1 0 ≤ i + 1
    cases n.testBit i <;> simp only [cond_true, cond_false] <;> omega
theorem cn_mono (n : Nat) {i : Nat} : ∀ {k : Nat}, i ≤ k → cn n i ≤ cn n k
  | 0, h => by obtain rfl : i = 0 := by omega
               exact Nat.le_refl _
  | k + 1, h => by
    by_cases e : i = k + 1
    · subst e; exact Nat.le_refl _
    · have := cn_mono n (i := i) (k := k) (by omega)
      show _ ≤ cn n k + _
      omega
theorem cn_t {n i : Nat} (h : n.testBit i = true) : cn n (i + 1) = cn n i + 1 := by show cn n i + cond (n.testBit i) 1 0 = _; rw [h]; rfl
theorem cn_f {n i : Nat} (h : n.testBit i = false) : cn n (i + 1) = cn n i := by show cn n i + cond (n.testBit i) 1 0 = _; rw [h]; rfl
theorem cn_lt {n p k : Nat} (h : n.testBit p = true) (hp : p < k) : cn n p < cn n k := by
  have h1 := cn_mono n (i := p + 1) (k := k) hp
  rw [cn_t h] at h1
  omega
def fo (n : Nat) (i : Nat) : Nat := sd (fun p => cond (n.testBit p) 3 0) i
theorem fo_d4 (n p : Nat) : cond (n.testBit p) 3 0 < 4 := by cases n.testBit p <;> decide
theorem fo_lt (n i : Nat) (h : i ≤ 6) : fo n i < 4096 := Nat.lt_of_lt_of_le (sd_lt (fo_d4 n) i) (p4le (b := 6) h)
theorem fo_f {n i : Nat} (h : n.testBit i = false) : fo n (i + 1) = fo n i := by
  show sd _ i + cond (n.testBit i) 3 0 * 4 ^ i = sd _ i
  rw [h]
  show sd _ i + 0 * 4 ^ i = _
  rw [Nat.zero_mul, Nat.add_zero]
theorem fo_t {n i : Nat} (h : n.testBit i = true) : fo n (i + 1) = fo n i ||| 3 * 2 ^ (2 * i) := by
  have h1 : fo n i < 2 ^ (2 * i) := by rw [p24]; exact sd_lt (fo_d4 n) i
  have h2 := Nat.shiftLeft_add_eq_or_of_lt h1 3
  rw [Nat.shiftLeft_eq] at h2
  rw [Nat.or_comm, ← h2]
  show sd _ i + cond (n.testBit i) 3 0 * 4 ^ i = _
  rw [h, p24]
  show fo n i + 3 * 4 ^ i = 3 * 4 ^ i + fo n i
  exact Nat.add_comm _ _
theorem dg_fo (n : Nat) {p : Nat} (hp : p < 6) : dg (fo n 6) p = cond (n.testBit p) 3 0 := by unfold fo; rw [dg_sd (fo_d4 n), if_pos hp]
theorem dg_fo0 {n p : Nat} (hp : p < 6) : dg (fo n 6) p = 0 ↔ n.testBit p = false := by rw [dg_fo n hp]; cases n.testBit p <;> decide
theorem p3 {i : Nat} (h : i < 6) : 3 * 2 ^ (2 * i) < 2 ^ 32 := by
  have := Nat.pow_le_pow_right (n := 2) (by decide) (show 2 * i ≤ 10 by omega)
  omega
theorem v4q {v q : Nat} (hv : v < 4) (hq : q ≤ 6) : v * 2 ^ (2 * q) < 2 ^ 32 :=
  Nat.lt_of_le_of_lt (Nat.mul_le_mul (show v ≤ 3 by omega) (Nat.pow_le_pow_right (n := 2) (by decide) (show 2 * q ≤ 12 by omega))) (by decide)
def uxf (n j p : Nat) : Nat := cond (n.testBit p) (dg j (cn n p)) 0
theorem uxf4 (n j p : Nat) : uxf n j p < 4 := by
  unfold uxf
  cases n.testBit p
  · show 0 < 4
    decide
  · exact dg_lt _ _
/-- the j-th tuple of the set n, as bits of a number -/
def ux (n j : Nat) : Nat := sd (uxf n j) 6
theorem ux_lt (n j : Nat) : ux n j < 4096 := sd_lt (uxf4 n j) 6
theorem dg_ux (n j : Nat) {p : Nat} (hp : p < 6) : dg (ux n j) p = cond (n.testBit p) (dg j (cn n p)) 0 := by unfold ux; rw [dg_sd (uxf4 n j), if_pos hp]; rfl
theorem ux_0 (n : Nat) : ux n 0 = 0 := dg_ext (k := 6) (ux_lt n 0) (by decide) (fun p hp => by
  rw [dg_ux n 0 hp, dg_z, dg_z]
  cases n.testBit p <;> rfl)
/-- the place of r's tuple of the set n (lowest parameter lowest) -/
def tpU (n r : Nat) : Nat → Nat
  | 0 => 0
  | i + 1 => tpU n r i + cond (n.testBit i) (dg r i * 4 ^ cn n i) 0
def tp (n r : Nat) : Nat := tpU n r 6
theorem tpU_t {n r i : Nat} (h : n.testBit i = true) : tpU n r (i + 1) = tpU n r i + dg r i * 4 ^ cn n i := by show tpU n r i + cond (n.testBit i) _ 0 = _; rw [h]; rfl
theorem tpU_f {n r i : Nat} (h : n.testBit i = false) : tpU n r (i + 1) = tpU n r i := by show tpU n r i + cond (n.testBit i) _ 0 = _; rw [h]; rfl
theorem tpU_lt (n r : Nat) : ∀ i, tpU n r i < 4 ^ cn n i
  | 0 => by show 0 < 1; decide
  | i + 1 => by
    have h := tpU_lt n r i
    cases hb : n.testBit i
    · rw [tpU_f hb, cn_f hb]; exact h
    · rw [tpU_t hb, cn_t hb, Nat.pow_succ]
      have h2 : dg r i * 4 ^ cn n i ≤ 3 * 4 ^ cn n i := Nat.mul_le_mul_right _ (by have := dg_lt r i; omega)
      omega
theorem dg_tpU (n r : Nat) : ∀ i p, p < i → n.testBit p = true → dg (tpU n r i) (cn n p) = dg r p
  | 0, p, h, _ => absurd h (Nat.not_lt_zero _)
  | i + 1, p, h, hb => by
    cases hi : n.testBit i
    · rw [tpU_f hi]
      exact dg_tpU n r i p (by
        by_cases e : p = i
        · subst e; rw [hi] at hb; cases hb
        · omega) hb
    · rw [tpU_t hi, dg_add _ (tpU_lt n r i) (dg_lt r i)]
      by_cases e : p = i
      · subst e; rw [if_neg (Nat.lt_irrefl _), if_pos rfl]
      · have hp : p < i := by omega
        rw [if_pos (cn_lt hb hp)]
        exact dg_tpU n r i p hp hb
theorem dg_tp {n r p : Nat} (hp : p < 6) (hb : n.testBit p = true) : dg (tp n r) (cn n p) = dg r p := dg_tpU n r 6 p hp hb
theorem tp_lt4 (n r : Nat) : tp n r < 4 ^ cn n 6 := tpU_lt n r 6
/-- each place below the count is a parameter's -/
theorem cn_onto (n : Nat) : ∀ i k, k < cn n i → ∃ p, p < i ∧ n.testBit p = true ∧ cn n p = k
  | 0, k, h => absurd h (Nat.not_lt_zero _)
  | i + 1, k, h => by
    by_cases hk : k < cn n i
    · obtain ⟨p, h1, h2, h3⟩ := cn_onto n i k hk
      exact ⟨p, by omega, h2, h3⟩
    · cases hb : n.testBit i
      · rw [cn_f hb] at h; exact absurd h hk
      · rw [cn_t hb] at h; exact ⟨i, by omega, hb, by omega⟩
theorem tp_iff {n r j : Nat} (hj : j < 4 ^ cn n 6) : tp n r = j ↔ ∀ p, p < 6 → n.testBit p = true → dg r p = dg j (cn n p) := by
  constructor
  · intro h p hp hb
    rw [← h, dg_tp hp hb]
  · intro h
    refine dg_ext (tp_lt4 n r) hj (fun k hk => ?_)
    obtain ⟨p, h1, h2, rfl⟩ := cn_onto n 6 k hk
    rw [dg_tp h1 h2, h p h1 h2]
theorem tp_eq {n r s : Nat} : tp n r = tp n s ↔ ∀ p, p < 6 → n.testBit p = true → dg r p = dg s p := by
  rw [tp_iff (tp_lt4 n s)]
  constructor
  · intro h p hp hb; rw [h p hp hb, dg_tp hp hb]
  · intro h p hp hb; rw [h p hp hb, dg_tp hp hb]
theorem tp_ux {n j : Nat} (hj : j < 4 ^ cn n 6) : tp n (ux n j) = j := (tp_iff hj).mpr (fun p hp hb => by rw [dg_ux n j hp, hb]; rfl)
theorem and3 : ∀ a, a < 4 → a &&& 3 = a := by decide
/-- a row holds the tuple: the bits at the fields are the tuple's -/
theorem and_fo {n r j : Nat} (hr : r < 4096) (hj : j < 4 ^ cn n 6) : r &&& fo n 6 = ux n j ↔ tp n r = j := by
  have hd : ∀ p, p < 6 → dg (r &&& fo n 6) p = cond (n.testBit p) (dg r p) 0 := fun p hp => by
    rw [dg_and, dg_fo n hp]
    cases n.testBit p
    · exact Nat.and_zero _
    · exact and3 _ (dg_lt r p)
  rw [tp_iff hj]
  constructor
  · intro h p hp hb
    have h1 := hd p hp
    rw [h, dg_ux n j hp, hb] at h1
    exact h1.symm
  · intro h
    refine dg_ext (k := 6) (Nat.lt_of_le_of_lt Nat.and_le_left hr) (ux_lt n j) (fun p hp => ?_)
    rw [hd p hp, dg_ux n j hp]
    cases hb : n.testBit p
    · rfl
    · exact h p hp hb
theorem ux_and (n j : Nat) : ux n j &&& fo n 6 = ux n j := by
  refine dg_ext (k := 6) (Nat.lt_of_le_of_lt Nat.and_le_left (ux_lt n j)) (ux_lt n j) (fun p hp => ?_)
  rw [dg_and, dg_fo n hp, dg_ux n j hp]
  cases n.testBit p
  · exact Nat.and_zero 0
  · exact and3 _ (dg_lt _ _)
/-- the next tuple: the class's step over the bits of a mask -/
theorem ux_step : ∀ n, n < 64 → ∀ a, a < (4 ^ cn n 6 + 63) / 64 → ∀ c, c < 64 → 64 * a + c < 4 ^ cn n 6 → (nI (ux n (64 * a + c)) - nI (fo n 6)) &&& nI (fo n 6) = nI (ux n (64 * a + c + 1)) := by decide +kernel
theorem ux_next {n j : Nat} (hn : n < 64) (hj : j < 4 ^ cn n 6) : (nI (ux n j) - nI (fo n 6)) &&& nI (fo n 6) = nI (ux n (j + 1)) := by
  have h := ux_step n hn (j / 64) (by omega) (j % 64) (by omega) (by omega)
  rwa [show 64 * (j / 64) + j % 64 = j by omega] at h
