/-! the space: values vl, invalid values iv (bits), rows that meet the rules M -/
def ia (v : Nat → Nat) : Nat → Int32 := fun j => nI (v j)
def gdB (vl iv : Nat → Nat) (r k : Nat) : Bool := decide (dg r k < vl k) && !((iv k).testBit (dg r k))
def bdB (vl iv : Nat → Nat) (r k : Nat) : Bool := decide (dg r k < vl k) && (iv k).testBit (dg r k)
def vK (vl iv : Nat → Nat) (M : Nat → Bool) (r : Nat) : Nat → Bool
  | 0 => M r
  | k + 1 => vK vl iv M r k && gdB vl iv r k
def nK (vl iv : Nat → Nat) (M : Nat → Bool) (r : Nat) : Nat → Bool
  | 0 => false
  | k + 1 => (nK vl iv M r k && gdB vl iv r k) || (vK vl iv M r k && bdB vl iv r k)
theorem lt_sB (d v : Nat) : decide (d < v + 1) = (decide (d < v) || d == v) := by
  rw [Bool.eq_iff_iff, decide_eq_true_iff, Bool.or_eq_true, decide_eq_true_iff, beq_iff_eq]
  omega
theorem wwS {g : Nat} {c : Bool} (t : Nat) : bL 0 t = (decide (g < 0) && c) := by
  rw [bL_0, decide_eq_false (Nat.not_lt_zero _)]
  rfl
theorem wwF {a : Int64} {w q v : Nat} {cb : Nat → Bool} (ha : ∀ t, t < 64 → bL a t = (decide (dg (64 * w + t) q < v) && cb (dg (64 * w + t) q))) (hc : cb v = false) : ∀ t, t < 64 → bL a t = (decide (dg (64 * w + t) q < v + 1) && cb (dg (64 * w + t) q)) := fun t ht => by
  rw [ha t ht, lt_sB]
  by_cases e : dg (64 * w + t) q = v
  · rw [e, hc, Bool.and_false, Bool.and_false]
  · rw [beq_false_of_ne e, Bool.or_false]
theorem wwT {a x : Int64} {w q v : Nat} {cb : Nat → Bool} (ha : ∀ t, t < 64 → bL a t = (decide (dg (64 * w + t) q < v) && cb (dg (64 * w + t) q))) (hc : cb v = true) (hx : ∀ t, t < 64 → bL x t = (dg (64 * w + t) q == v)) : ∀ t, t < 64 → bL (a ||| x) t = (decide (dg (64 * w + t) q < v + 1) && cb (dg (64 * w + t) q)) := fun t ht => by
  rw [bL_or, ha t ht, hx t ht, lt_sB]
  by_cases e : dg (64 * w + t) q = v
  · rw [e, hc, beq_self_eq_true, Bool.or_true, Bool.or_true, Bool.and_true]
  · rw [beq_false_of_ne e, Bool.or_false, Bool.or_false]
theorem cbN_all : ∀ i, i < 16 → ∀ v, v < 4 → (((nI i ^^^ (-1)) >>> (nI v &&& 31)) &&& nI 1 = 0 ↔ (!(i.testBit v)) = false) := by decide +kernel
theorem cbN {i : Nat} (h : i < 16) : ∀ v, v < 4 → (((nI i ^^^ (-1)) >>> (nI v &&& 31)) &&& nI 1 = 0 ↔ (!(i.testBit v)) = false) := cbN_all i h
theorem cbP_all : ∀ i, i < 16 → ∀ v, v < 4 → ((nI i >>> (nI v &&& 31)) &&& nI 1 = 0 ↔ i.testBit v = false) := by decide +kernel
theorem cbP {i : Nat} (h : i < 16) : ∀ v, v < 4 → ((nI i >>> (nI v &&& 31)) &&& nI 1 = 0 ↔ i.testBit v = false) := cbP_all i h
theorem sortJ {vl iv : Nat → Nat} {M : Nat → Bool} {i k : Nat} {a b x y : Int64} (hab : ∀ t, t < 64 → bL a t = vK vl iv M (64 * i + t) k ∧ bL b t = nK vl iv M (64 * i + t) k) (hG : ∀ t, t < 64 → bL x t = gdB vl iv (64 * i + t) k) (hB : ∀ t, t < 64 → bL y t = bdB vl iv (64 * i + t) k) : ∀ t, t < 64 → bL (a &&& x) t = vK vl iv M (64 * i + t) (k + 1) ∧ bL ((b &&& x) ||| (a &&& y)) t = nK vl iv M (64 * i + t) (k + 1) := fun t ht => by
  rw [bL_and, bL_or, bL_and, bL_and, (hab t ht).1, (hab t ht).2, hG t ht, hB t ht]
  exact ⟨rfl, rfl⟩
theorem sortK {vl iv : Nat → Nat} {M : Nat → Bool} {i : Nat} {g h g2 h2 : Nat → Int64} {a b : Int64} (hgh : ∀ w, w < i → ∀ t, t < 64 → bL (g w) t = vK vl iv M (64 * w + t) 6 ∧ bL (h w) t = nK vl iv M (64 * w + t) 6) (hab : ∀ t, t < 64 → bL a t = vK vl iv M (64 * i + t) 6 ∧ bL b t = nK vl iv M (64 * i + t) 6) (hg2 : vp_updL g i a = g2) (hh2 : vp_updL h i b = h2) : ∀ w, w < i + 1 → ∀ t, t < 64 → bL (g2 w) t = vK vl iv M (64 * w + t) 6 ∧ bL (h2 w) t = nK vl iv M (64 * w + t) 6 := by
  intro w hw t ht
  rw [← hg2, ← hh2]
  by_cases e : w = i
  · subst e; rw [pk_uLs, pk_uLs]; exact hab t ht
  · rw [pk_uLn e, pk_uLn e]; exact hgh w (by omega) t ht
theorem nI_below {P : Nat} {x : Int32} (hP : P ≤ 6) (h0 : ¬ x < 0) (h1 : ¬ nI P ≤ x) : ∃ q, q < P ∧ x = nI q := by
  rcases pk_ix x (n := P) (by omega) with h | h | h
  · exact absurd h h0
  · exact absurd h h1
  · exact h
def hvB (P : Nat) (vl : Nat → Nat) (x y : Int32) : Bool := decide (¬ x < 0 ∧ ¬ nI P ≤ x ∧ ¬ y < 0 ∧ ¬ nI (vl x.toNatClampNeg) ≤ y)
theorem hvB_1 {P q : Nat} {vl : Nat → Nat} {y : Int32} (hq : q < 2 ^ 31) (h1 : ¬ nI q < 0) (h2 : ¬ nI P ≤ nI q) (h3 : ¬ y < 0) (h4 : ¬ nI (vl q) ≤ y) : nI 1 = bI (hvB P vl (nI q) y) := by
  unfold hvB
  rw [nI_clamp hq, decide_eq_true ⟨h1, h2, h3, h4⟩]
  rfl
theorem hvB_0a {P : Nat} {vl : Nat → Nat} {x y : Int32} (h : x < 0) : nI 0 = bI (hvB P vl x y) := by
  unfold hvB
  rw [decide_eq_false (fun z => z.1 h)]
  rfl
theorem hvB_0b {P : Nat} {vl : Nat → Nat} {x y : Int32} (h : nI P ≤ x) : nI 0 = bI (hvB P vl x y) := by
  unfold hvB
  rw [decide_eq_false (fun z => z.2.1 h)]
  rfl
theorem hvB_0c {P : Nat} {vl : Nat → Nat} {x y : Int32} (h : y < 0) : nI 0 = bI (hvB P vl x y) := by
  unfold hvB
  rw [decide_eq_false (fun z => z.2.2.1 h)]
  rfl
theorem hvB_0d {P q : Nat} {vl : Nat → Nat} {y : Int32} (hq : q < 2 ^ 31) (h : nI (vl q) ≤ y) : nI 0 = bI (hvB P vl (nI q) y) := by
  unfold hvB
  rw [nI_clamp hq, decide_eq_false (fun z => z.2.2.2 h)]
  rfl
theorem pwE (P : Nat) : 1 * 2 ^ (2 * P) = 4 ^ P := by rw [Nat.one_mul, p24]
theorem pw4 {P : Nat} (h : P ≤ 6) : 1 * 2 ^ (2 * P) < 2 ^ 32 := by
  rw [pwE]
  exact Nat.lt_of_le_of_lt (p4le h) (by decide)
theorem pw4le {P : Nat} (h : P ≤ 6) : 4 ^ P ≤ 4096 := p4le (b := 6) h
theorem pw4lt {P : Nat} (h : P ≤ 6) : 4 ^ P < 2 ^ 31 := Nat.lt_of_le_of_lt (pw4le h) (by decide)
theorem pw2le {P : Nat} (h : P ≤ 6) : 2 ^ P ≤ 64 := show 2 ^ P ≤ 2 ^ 6 from Nat.pow_le_pow_right (by decide) h
theorem pw2 {P : Nat} (h : P ≤ 6) : 1 * 2 ^ P < 2 ^ 32 := by
  rw [Nat.one_mul]
  exact Nat.lt_of_le_of_lt (pw2le h) (by decide)
theorem pw1 {i : Nat} (h : i < 6) : 1 * 2 ^ i < 2 ^ 32 := pw2 (by omega)
def isS (P : Nat) (x : Int32) : Bool := decide (¬ x ≤ 0 ∧ ¬ nI (2 ^ P) ≤ x)
theorem isS_1 {P : Nat} {x : Int32} (h1 : ¬ x ≤ 0) (h2 : ¬ nI (1 * 2 ^ P) ≤ x) : nI 1 = bI (isS P x) := by
  rw [Nat.one_mul] at h2
  unfold isS
  rw [decide_eq_true ⟨h1, h2⟩]
  rfl
theorem isS_0a {P : Nat} {x : Int32} (h : x ≤ 0) : nI 0 = bI (isS P x) := by
  unfold isS
  rw [decide_eq_false (fun z => z.1 h)]
  rfl
theorem isS_0b {P : Nat} {x : Int32} (h : nI (1 * 2 ^ P) ≤ x) : nI 0 = bI (isS P x) := by
  rw [Nat.one_mul] at h
  unfold isS
  rw [decide_eq_false (fun z => z.2 h)]
  rfl
def all6 (vl : Nat → Nat) (n : Nat) : Nat → Bool
  | 0 => true
  | i + 1 => all6 vl n i && decide (dg n i < vl i)
theorem all6_iff {vl : Nat → Nat} {n : Nat} : ∀ {i : Nat}, all6 vl n i = true ↔ ∀ p, p < i → dg n p < vl p
  | 0 => ⟨fun _ p hp => absurd hp (Nat.not_lt_zero _), fun _ => rfl⟩
  | i + 1 => by
    show (all6 vl n i && decide (dg n i < vl i)) = true ↔ _
    rw [Bool.and_eq_true, all6_iff, decide_eq_true_iff]
    constructor
    · rintro ⟨h1, h2⟩ p hp
      by_cases e : p = i
      · subst e; exact h2
      · exact h1 p (by omega)
    · intro h
      exact ⟨fun p hp => h p (by omega), h i (by omega)⟩
theorem all6_s {vl : Nat → Nat} {n i : Nat} (h : all6 vl n i = true) (hc : dg n i < vl i) : all6 vl n (i + 1) = true := by
  show (all6 vl n i && decide (dg n i < vl i)) = true
  rw [h, decide_eq_true hc]
  rfl
theorem all6_no {vl : Nat → Nat} {n i : Nat} (hi : i < 6) (hc : ¬ dg n i < vl i) : all6 vl n 6 = false := ts_nt (fun h => hc (all6_iff.mp h i hi))
def rkN (vl : Nat → Nat) (V N : Nat → Bool) (n : Nat) : Int32 := if n < 4096 ∧ all6 vl n 6 = true then (if V n = true then nI 2 else if N n = true then nI 1 else nI 0) else -1
def rkF (vl : Nat → Nat) (V N : Nat → Bool) (x : Int32) : Int32 := if x < 0 then -1 else rkN vl V N x.toNatClampNeg
theorem rkF_n {vl : Nat → Nat} {V N : Nat → Bool} {n : Nat} (hn : n < 2 ^ 31) : rkF vl V N (nI n) = rkN vl V N n := by
  unfold rkF
  rw [if_neg (nI_pos hn), nI_clamp hn]
theorem rk_a {vl : Nat → Nat} {V N : Nat → Bool} {x : Int32} (h : x < 0) : -1 = rkF vl V N x := by unfold rkF; rw [if_pos h]
theorem rk_c {vl : Nat → Nat} {V N : Nat → Bool} {n : Nat} (hn : n < 2 ^ 31) (h : all6 vl n 6 = false) : -1 = rkF vl V N (nI n) := by
  rw [rkF_n hn]
  unfold rkN
  rw [if_neg (fun z => by rw [h] at z; exact Bool.noConfusion z.2)]
theorem dg_top {n P : Nat} (h : 4 ^ P ≤ n) (h2 : n < 4096) (hP : P ≤ 6) : ∃ p, P ≤ p ∧ p < 6 ∧ ¬ dg n p = 0 := by
  apply Classical.byContradiction
  intro hno
  have hz : ∀ p, P ≤ p → p < 6 → dg n p = 0 := fun p h1 h2 => Classical.byContradiction (fun h3 => hno ⟨p, h1, h2, h3⟩)
  have e : n = n % 4 ^ P := by
    refine dg_ext (k := 6) h2 (Nat.lt_of_le_of_lt (Nat.mod_le _ _) h2) (fun p hp => ?_)
    by_cases hpP : p < P
    · unfold dg
      obtain ⟨c, rfl⟩ : ∃ c, P = p + (c + 1) := ⟨P - p - 1, by omega⟩
      rw [Nat.pow_add, Nat.mod_mul_right_div_self, Nat.pow_succ', Nat.mod_mul_right_mod]
    · rw [hz p (by omega) hp]
      exact (dg_big (Nat.lt_of_lt_of_le (Nat.mod_lt _ (p4 P)) (p4le (by omega)))).symm
  have := Nat.mod_lt n (p4 P)
  omega
theorem rk_b {vl : Nat → Nat} {V N : Nat → Bool} {n P : Nat} (hP : P ≤ 6) (hv1 : ∀ p, P ≤ p → p < 6 → vl p = 1) (hn : n < 2 ^ 31) (h : 4 ^ P ≤ n) : -1 = rkF vl V N (nI n) := by
  rw [rkF_n hn]
  unfold rkN
  rw [if_neg]
  rintro ⟨h4, ha⟩
  obtain ⟨p, h1, h2, h3⟩ := dg_top h h4 hP
  have := all6_iff.mp ha p h2
  rw [hv1 p h1 h2] at this
  omega
theorem rk_2 {vl : Nat → Nat} {V N : Nat → Bool} {n : Nat} (hn : n < 4096) (ha : all6 vl n 6 = true) (hV : V n = true) : nI 2 = rkF vl V N (nI n) := by
  rw [rkF_n (by omega)]
  unfold rkN
  rw [if_pos ⟨hn, ha⟩, if_pos hV]
theorem rk_1 {vl : Nat → Nat} {V N : Nat → Bool} {n : Nat} (hn : n < 4096) (ha : all6 vl n 6 = true) (hV : V n = false) (hN : N n = true) : nI 1 = rkF vl V N (nI n) := by
  rw [rkF_n (by omega)]
  unfold rkN
  rw [if_pos ⟨hn, ha⟩, if_neg (by rw [hV]; decide), if_pos hN]
theorem rk_0 {vl : Nat → Nat} {V N : Nat → Bool} {n : Nat} (hn : n < 4096) (ha : all6 vl n 6 = true) (hV : V n = false) (hN : N n = false) : nI 0 = rkF vl V N (nI n) := by
  rw [rkF_n (by omega)]
  unfold rkN
  rw [if_pos ⟨hn, ha⟩, if_neg (by rw [hV]; decide), if_neg (by rw [hN]; decide)]
/-- the parameters of n with an invalid value in b -/
def ivs (iv : Nat → Nat) (n b : Nat) : Nat → Nat
  | 0 => 0
  | i + 1 => ivs iv n b i + cond (n.testBit i && (iv i).testBit (dg b i)) (2 ^ i) 0
theorem ivs_lt (iv : Nat → Nat) (n b : Nat) : ∀ i, ivs iv n b i < 2 ^ i
  | 0 => by show 0 < 1; decide
  | i + 1 => by
    have h := ivs_lt iv n b i
    show ivs iv n b i + cond (n.testBit i && (iv i).testBit (dg b i)) (2 ^ i) 0 < 2 ^ (i + 1)
    rw [Nat.pow_succ]
    cases (n.testBit i && (iv i).testBit (dg b i)) <;> simp only [cond_true, cond_false] <;> omega
theorem ivs_64 (iv : Nat → Nat) (n b i : Nat) (h : i ≤ 6) : ivs iv n b i < 64 := Nat.lt_of_lt_of_le (ivs_lt iv n b i) (pw2le h)
theorem ivs_a {iv : Nat → Nat} {n b i : Nat} (hi : i < 6) (h : dg (fo n 6) i = 0) : ivs iv n b (i + 1) = ivs iv n b i := by
  show ivs iv n b i + cond (n.testBit i && (iv i).testBit (dg b i)) (2 ^ i) 0 = _
  rw [(dg_fo0 hi).mp h]
  rfl
theorem ivs_b {iv : Nat → Nat} {n b i : Nat} (h : (iv i).testBit (dg b i) = false) : ivs iv n b (i + 1) = ivs iv n b i := by
  show ivs iv n b i + cond (n.testBit i && (iv i).testBit (dg b i)) (2 ^ i) 0 = _
  rw [h, Bool.and_false]
  rfl
theorem ivs_c {iv : Nat → Nat} {n b i : Nat} (hi : i < 6) (h1 : ¬ dg (fo n 6) i = 0) (h : (iv i).testBit (dg b i) = true) : ivs iv n b (i + 1) = ivs iv n b i ||| 1 * 2 ^ i := by
  rw [dg_fo0 hi] at h1
  have h2 := Nat.shiftLeft_add_eq_or_of_lt (ivs_lt iv n b i) 1
  rw [Nat.shiftLeft_eq] at h2
  rw [Nat.or_comm, ← h2]
  show ivs iv n b i + cond (n.testBit i && (iv i).testBit (dg b i)) (2 ^ i) 0 = _
  rw [h, ts_nf h1, Nat.one_mul]
  show ivs iv n b i + 2 ^ i = 2 ^ i + ivs iv n b i
  exact Nat.add_comm _ _
/-! sets asked for -/
def sub6 (n s : Nat) : Nat → Bool
  | 0 => true
  | i + 1 => sub6 n s i && (!(n.testBit i) || s.testBit i)
theorem sw_all : ∀ i, i < 6 → ∀ s, s < 64 → bL (sw i) s = s.testBit i := by decide +kernel
theorem awF {a ak : Int64} {n i : Nat} (ha : ∀ s, s < 64 → bL a s = (bL ak s && sub6 n s i)) (h : n.testBit i = false) : ∀ s, s < 64 → bL a s = (bL ak s && sub6 n s (i + 1)) := fun s hs => by
  rw [ha s hs]
  show _ = (bL ak s && (sub6 n s i && (!(n.testBit i) || s.testBit i)))
  rw [h, Bool.not_false, Bool.true_or, Bool.and_true]
theorem awT {a ak : Int64} {n i : Nat} (ha : ∀ s, s < 64 → bL a s = (bL ak s && sub6 n s i)) (hi : i < 6) (h : n.testBit i = true) : ∀ s, s < 64 → bL (a &&& sw i) s = (bL ak s && sub6 n s (i + 1)) := fun s hs => by
  rw [bL_and, ha s hs, sw_all i hi s hs]
  show _ = (bL ak s && (sub6 n s i && (!(n.testBit i) || s.testBit i)))
  rw [h, Bool.not_true, Bool.false_or, Bool.and_assoc]
theorem sb13_all : ∀ i, i < 64 → ∀ n, n < 64 → (nI i &&& (nI n ^^^ (-1)) = 0 ↔ i &&& n = i) := by decide +kernel
theorem sb13 {i n : Nat} (hi : i < 64) (hn : n < 64) : nI i &&& (nI n ^^^ (-1)) = 0 ↔ i &&& n = i := sb13_all i hi n hn
theorem sh1_all : ∀ i, i < 64 → ∀ s, s < 64 → bL ((1 : Int64) <<< ((nI i).toInt64 &&& 63)) s = (s == i) := by decide +kernel
theorem cn31 (n : Nat) : cn n 6 < 2 ^ 31 := Nat.lt_of_le_of_lt (cn_le n 6) (by decide)
def adB (n k s : Nat) : Bool := decide (0 < s) && (decide (s &&& n = s) && (cn s 6 == k))
theorem addS {ak : Int64} {n k : Nat} (s : Nat) : bL ak s = (bL ak s || (decide (s < 1) && adB n k s)) := by
  unfold adB
  cases s with
  | zero => simp
  | succ s => rw [decide_eq_false (by omega : ¬ s + 1 < 1), Bool.false_and, Bool.or_false]
theorem addF {d ak : Int64} {n k i : Nat} (hd : ∀ s, s < 64 → bL d s = (bL ak s || (decide (s < i) && adB n k s))) (h : adB n k i = false) : ∀ s, s < 64 → bL d s = (bL ak s || (decide (s < i + 1) && adB n k s)) := fun s hs => by
  rw [hd s hs, lt_sB]
  by_cases e : s = i
  · rw [e, h, Bool.and_false, Bool.and_false]
  · rw [beq_false_of_ne e, Bool.or_false]
theorem addF1 {d ak : Int64} {n k i : Nat} (hd : ∀ s, s < 64 → bL d s = (bL ak s || (decide (s < i) && adB n k s))) (h : ¬ i &&& n = i) : ∀ s, s < 64 → bL d s = (bL ak s || (decide (s < i + 1) && adB n k s)) :=
  addF hd (by unfold adB; rw [decide_eq_false h, Bool.false_and, Bool.and_false])
theorem addF2 {d ak : Int64} {n k i : Nat} (hd : ∀ s, s < 64 → bL d s = (bL ak s || (decide (s < i) && adB n k s))) (h : ¬ cn i 6 = k) : ∀ s, s < 64 → bL d s = (bL ak s || (decide (s < i + 1) && adB n k s)) :=
  addF hd (by unfold adB; rw [beq_false_of_ne h, Bool.and_false, Bool.and_false])
theorem addT {d ak : Int64} {n k i : Nat} (hd : ∀ s, s < 64 → bL d s = (bL ak s || (decide (s < i) && adB n k s))) (h0 : 0 < i) (hi : i < 64) (h1 : i &&& n = i) (h2 : cn i 6 = k) : ∀ s, s < 64 → bL (d ||| ((1 : Int64) <<< ((nI i).toInt64 &&& 63))) s = (bL ak s || (decide (s < i + 1) && adB n k s)) := fun s hs => by
  have ha : adB n k i = true := by unfold adB; rw [decide_eq_true h0, decide_eq_true h1, h2, beq_self_eq_true]; rfl
  rw [bL_or, hd s hs, sh1_all i hi s hs, lt_sB]
  by_cases e : s = i
  · rw [e, ha, beq_self_eq_true, Bool.or_true, Bool.or_true]; simp
  · rw [beq_false_of_ne e, Bool.or_false, Bool.or_false]
theorem addDone {d ak : Int64} {n k i : Nat} (hd : ∀ s, s < 64 → bL d s = (bL ak s || (decide (s < i) && adB n k s))) (hi : 64 ≤ i) : ∀ s, s < 64 → bL d s = (bL ak s || adB n k s) := fun s hs => by
  rw [hd s hs, decide_eq_true (by omega), Bool.true_and]
