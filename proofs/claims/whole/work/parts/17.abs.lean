/-! what the calls answer, and what they do, in the words of an abstract state -/
def itB (on : Bool) (tk : Nat) (x : Int32) : Bool := on && decide (¬ x < 0 ∧ ¬ nI tk ≤ x)
theorem it_1 {on : Bool} {tk : Nat} {x : Int32} (h : ¬ on = false) (h1 : ¬ x < 0) (h2 : ¬ nI tk ≤ x) : nI 1 = bI (itB on tk x) := by unfold itB; rw [ts_nf h, decide_eq_true ⟨h1, h2⟩]; rfl
theorem it_a {on : Bool} {tk : Nat} {x : Int32} (h : on = false) : nI 0 = bI (itB on tk x) := by unfold itB; rw [h]; rfl
theorem it_b {on : Bool} {tk : Nat} {x : Int32} (h : x < 0) : nI 0 = bI (itB on tk x) := by unfold itB; rw [decide_eq_false (fun z => z.1 h), Bool.and_false]; rfl
theorem it_c {on : Bool} {tk : Nat} {x : Int32} (h : nI tk ≤ x) : nI 0 = bI (itB on tk x) := by unfold itB; rw [decide_eq_false (fun z => z.2 h), Bool.and_false]; rfl
theorem it_of {on : Bool} {tk : Nat} {x : Int32} (hk : tk < 2 ^ 31) (h : ¬ itB on tk x = false) : ∃ i, i < tk ∧ x = nI i := by
  have h := ts_nf h
  unfold itB at h
  rw [Bool.and_eq_true, decide_eq_true_iff] at h
  rcases pk_ix x (n := tk) hk with z | z | z
  · exact absurd z h.2.1
  · exact absurd z h.2.2
  · exact z
def pmC (P : Nat) (x : Int32) : Bool := decide (¬ x < nI 2 ∧ ¬ nI 4 < x ∧ ¬ P = 6)
def pmO (on : Bool) (P : Nat) (x : Int32) : Bool := !on && pmC P x
def pmA (on : Bool) (P : Nat) (x : Int32) : Int32 := bif on then -1 else bif pmC P x then nI P else -2
theorem x_mid {x : Int32} {a b : Nat} (ha : a < 2 ^ 31) (hb : b < 2 ^ 31) (h1 : ¬ x < nI a) (h2 : ¬ nI b < x) : ∃ v, a ≤ v ∧ v ≤ b ∧ x = nI v := by
  have h0 : ¬ x < 0 := fun z => h1 (by
    rw [Int32.lt_iff_toInt_lt] at z ⊢
    rw [nI_toInt ha]
    have e : (0 : Int32).toInt = 0 := by decide
    omega)
  obtain ⟨v, hv, rfl⟩ := nI_of h0
  rw [nI_ltI hv ha] at h1
  rw [nI_ltI hb hv] at h2
  exact ⟨v, by omega, by omega, rfl⟩
theorem pm_a {on : Bool} {P : Nat} {x : Int32} (h : ¬ on = false) : -1 = pmA on P x := by unfold pmA; rw [ts_nf h]; rfl
theorem pm_no {on : Bool} {P : Nat} {x : Int32} (h : on = false) (hc : pmC P x = false) : -2 = pmA on P x := by unfold pmA; rw [h, hc]; rfl
theorem pm_yes {on : Bool} {P : Nat} {x : Int32} (h : on = false) (hc : pmC P x = true) : nI P = pmA on P x := by unfold pmA; rw [h, hc]; rfl
theorem pmC_a {P : Nat} {x : Int32} (h : x < nI 2) : pmC P x = false := decide_eq_false (fun z => z.1 h)
theorem pmC_b {P : Nat} {x : Int32} (h : nI 4 < x) : pmC P x = false := decide_eq_false (fun z => z.2.1 h)
theorem pmC_c {P : Nat} {x : Int32} (h : P = 6) : pmC P x = false := decide_eq_false (fun z => z.2.2 h)
theorem pmC_1 {P : Nat} {x : Int32} (h1 : ¬ x < nI 2) (h2 : ¬ nI 4 < x) (h3 : ¬ P = 6) : pmC P x = true := decide_eq_true ⟨h1, h2, h3⟩
theorem pmO_on {on : Bool} {P : Nat} {x : Int32} (h : ¬ on = false) : pmO on P x = false := by unfold pmO; rw [ts_nf h]; rfl
theorem pmO_c {on : Bool} {P : Nat} {x : Int32} (h : pmC P x = false) : pmO on P x = false := by unfold pmO; rw [h, Bool.and_false]
theorem pmO_1 {on : Bool} {P : Nat} {x : Int32} (h : on = false) (hc : pmC P x = true) : pmO on P x = true := by unfold pmO; rw [h, hc]; rfl
theorem hv_of {P : Nat} {vl : Nat → Nat} {x y : Int32} (hP : P ≤ 6) (hvl : ∀ p, p < 6 → 1 ≤ vl p ∧ vl p ≤ 4) (h : ¬ hvB P vl x y = false) : ∃ q v, q < P ∧ v < vl q ∧ v < 4 ∧ x = nI q ∧ y = nI v := by
  have h := ts_nf h
  unfold hvB at h
  rw [decide_eq_true_iff] at h
  obtain ⟨q, hq, rfl⟩ := nI_below hP h.1 h.2.1
  have hv := hvl q (by omega)
  rw [nI_clamp (by omega)] at h
  rcases pk_ix y (n := vl q) (by omega) with z | z | z
  · exact absurd z h.2.2.1
  · exact absurd z h.2.2.2
  · obtain ⟨v, hv1, rfl⟩ := z
    exact ⟨q, v, hq, hv1, by omega, rfl, rfl⟩
def ivO (on : Bool) (P : Nat) (vl iv : Nat → Nat) (x y : Int32) : Bool := !on && (hvB P vl x y && !((iv x.toNatClampNeg).testBit y.toNatClampNeg))
def ivN (iv : Nat → Nat) (x y : Int32) : Nat → Nat := upN iv x.toNatClampNeg (iv x.toNatClampNeg ||| 1 * 2 ^ y.toNatClampNeg)
theorem iv_on {on : Bool} {P : Nat} {vl iv : Nat → Nat} {x y : Int32} (h : ¬ on = false) : ivO on P vl iv x y = false := by unfold ivO; rw [ts_nf h]; rfl
theorem iv_hv {on : Bool} {P : Nat} {vl iv : Nat → Nat} {x y : Int32} (h : hvB P vl x y = false) : ivO on P vl iv x y = false := by unfold ivO; rw [h, Bool.false_and, Bool.and_false]
theorem iv_in {on : Bool} {P q v : Nat} {vl iv : Nat → Nat} (hq : q < 2 ^ 31) (hv : v < 2 ^ 31) (h : ¬ (iv q).testBit v = false) : ivO on P vl iv (nI q) (nI v) = false := by unfold ivO; rw [nI_clamp hq, nI_clamp hv, ts_nf h, Bool.not_true, Bool.and_false, Bool.and_false]
theorem iv_1 {on : Bool} {P q v : Nat} {vl iv : Nat → Nat} (hq : q < 2 ^ 31) (hv : v < 2 ^ 31) (h0 : on = false) (h1 : ¬ hvB P vl (nI q) (nI v) = false) (h : (iv q).testBit v = false) : ivO on P vl iv (nI q) (nI v) = true := by unfold ivO; rw [nI_clamp hq, nI_clamp hv, h0, ts_nf h1, h]; rfl
theorem ivN_n {iv : Nat → Nat} {q v : Nat} (hq : q < 2 ^ 31) (hv : v < 2 ^ 31) : ivN iv (nI q) (nI v) = upN iv q (iv q ||| 1 * 2 ^ v) := by unfold ivN; rw [nI_clamp hq, nI_clamp hv]
def rlC (P : Nat) (x y : Int32) : Bool := isS P x && decide (¬ y < nI 1 ∧ ¬ nI 3 < y ∧ y ≤ nI (cn x.toNatClampNeg 6))
def rlO (on : Bool) (P nk : Nat) (x y : Int32) : Bool := !on && (rlC P x y && !(nk == 8))
def rlA (on : Bool) (P nk : Nat) (x y : Int32) : Int32 := bif on then -1 else bif rlC P x y then (bif nk == 8 then -3 else nI (nk + 1)) else -2
theorem isS_of {P : Nat} {x : Int32} (hP : P ≤ 6) (h : ¬ isS P x = false) : ∃ n, 0 < n ∧ n < 2 ^ P ∧ x = nI n := by
  have h := ts_nf h
  unfold isS at h
  rw [decide_eq_true_iff] at h
  have h2 := pw2le hP
  rcases pk_ix x (n := 2 ^ P) (by omega) with z | z | z
  · exact absurd (by rw [Int32.lt_iff_toInt_lt] at z; rw [Int32.le_iff_toInt_le]; omega) h.1
  · exact absurd z h.2
  · obtain ⟨n, hn, rfl⟩ := z
    refine ⟨n, ?_, hn, rfl⟩
    have := h.1
    rw [n_le0 (by omega)] at this
    omega
theorem rl_a {P : Nat} {x y : Int32} (h : isS P x = false) : rlC P x y = false := by unfold rlC; rw [h]; rfl
theorem rl_b {P : Nat} {x y : Int32} (h : y < nI 1) : rlC P x y = false := by unfold rlC; rw [decide_eq_false (fun z => z.1 h), Bool.and_false]
theorem rl_c {P : Nat} {x y : Int32} (h : nI 3 < y) : rlC P x y = false := by unfold rlC; rw [decide_eq_false (fun z => z.2.1 h), Bool.and_false]
theorem rl_d {P n : Nat} {y : Int32} (hn : n < 2 ^ 31) (h : ¬ y ≤ nI (cn n 6)) : rlC P (nI n) y = false := by unfold rlC; rw [nI_clamp hn, decide_eq_false (fun z => h z.2.2), Bool.and_false]
theorem rl_1 {P n : Nat} {y : Int32} (hn : n < 2 ^ 31) (h0 : ¬ isS P (nI n) = false) (h1 : ¬ y < nI 1) (h2 : ¬ nI 3 < y) (h : y ≤ nI (cn n 6)) : rlC P (nI n) y = true := by unfold rlC; rw [nI_clamp hn, ts_nf h0, decide_eq_true ⟨h1, h2, h⟩]; rfl
theorem rlA_on {on : Bool} {P nk : Nat} {x y : Int32} (h : ¬ on = false) : -1 = rlA on P nk x y := by unfold rlA; rw [ts_nf h]; rfl
theorem rlA_2 {on : Bool} {P nk : Nat} {x y : Int32} (h : on = false) (hc : rlC P x y = false) : -2 = rlA on P nk x y := by unfold rlA; rw [h, hc]; rfl
theorem rlA_3 {on : Bool} {P nk : Nat} {x y : Int32} (h : on = false) (hc : rlC P x y = true) (hk : nk = 8) : -3 = rlA on P nk x y := by unfold rlA; rw [h, hc, hk]; rfl
theorem rlA_1 {on : Bool} {P nk : Nat} {x y : Int32} (h : on = false) (hc : rlC P x y = true) (hk : ¬ nk = 8) : nI (nk + 1) = rlA on P nk x y := by unfold rlA; rw [h, hc, beq_false_of_ne hk]; rfl
theorem rlO_on {on : Bool} {P nk : Nat} {x y : Int32} (h : ¬ on = false) : rlO on P nk x y = false := by unfold rlO; rw [ts_nf h]; rfl
theorem rlO_2 {on : Bool} {P nk : Nat} {x y : Int32} (hc : rlC P x y = false) : rlO on P nk x y = false := by unfold rlO; rw [hc, Bool.false_and, Bool.and_false]
theorem rlO_3 {on : Bool} {P nk : Nat} {x y : Int32} (hk : nk = 8) : rlO on P nk x y = false := by unfold rlO; rw [hk, beq_self_eq_true, Bool.not_true, Bool.and_false, Bool.and_false]
theorem rlO_1 {on : Bool} {P nk : Nat} {x y : Int32} (h : on = false) (hc : rlC P x y = true) (hk : ¬ nk = 8) : rlO on P nk x y = true := by unfold rlO; rw [h, hc, beq_false_of_ne hk]; rfl
theorem or_f {a b c : Bool} (h : c = false) : a = (a || (c && b)) := by rw [h]; cases a <;> rfl
theorem or_t {a b c : Bool} (h : c = true) : (a || b) = (a || (c && b)) := by rw [h]; rfl
def isO (on : Bool) (P : Nat) (vl : Nat → Nat) (tc : Nat) (x y : Int32) : Bool := !on && (hvB P vl x y && !(tc == 8))
theorem is_on {on : Bool} {P tc : Nat} {vl : Nat → Nat} {x y : Int32} (h : ¬ on = false) : isO on P vl tc x y = false := by unfold isO; rw [ts_nf h]; rfl
theorem is_hv {on : Bool} {P tc : Nat} {vl : Nat → Nat} {x y : Int32} (h : hvB P vl x y = false) : isO on P vl tc x y = false := by unfold isO; rw [h, Bool.false_and, Bool.and_false]
theorem is_in {on : Bool} {P tc : Nat} {vl : Nat → Nat} {x y : Int32} (h0 : on = false) (h : ¬ hvB P vl x y = false) : isO on P vl tc x y = !(tc == 8) := by unfold isO; rw [h0, ts_nf h]; rfl
def jnC (on : Bool) (tc : Nat) (dp : Nat → Nat) (x : Int32) : Bool := !on && (decide (¬ x < 0 ∧ ¬ nI 2 < x) && jnO tc dp)
theorem jc_on {on : Bool} {tc : Nat} {dp : Nat → Nat} {x : Int32} (h : ¬ on = false) : jnC on tc dp x = false := by unfold jnC; rw [ts_nf h]; rfl
theorem jc_a {on : Bool} {tc : Nat} {dp : Nat → Nat} {x : Int32} (h : x < 0) : jnC on tc dp x = false := by unfold jnC; rw [decide_eq_false (fun z => z.1 h), Bool.false_and, Bool.and_false]
theorem jc_b {on : Bool} {tc : Nat} {dp : Nat → Nat} {x : Int32} (h : nI 2 < x) : jnC on tc dp x = false := by unfold jnC; rw [decide_eq_false (fun z => z.2 h), Bool.false_and, Bool.and_false]
theorem jc_1 {on : Bool} {tc : Nat} {dp : Nat → Nat} {x : Int32} (h : on = false) (h1 : ¬ x < 0) (h2 : ¬ nI 2 < x) : jnC on tc dp x = jnO tc dp := by unfold jnC; rw [h, decide_eq_true ⟨h1, h2⟩]; rfl
def rqO (on : Bool) (tc nr : Nat) : Bool := !on && (!(tc == 0) && !(nr == 8))
def rqA (on : Bool) (tc nr : Nat) : Int32 := bif on then -1 else bif tc == 0 then -2 else bif nr == 8 then -3 else nI (nr + 1)
def sdO (on : Bool) (ns : Nat) : Bool := !on && !(ns == 8)
def sdA (on : Bool) (ns : Nat) : Int32 := bif on then -1 else bif ns == 8 then -2 else nI (ns + 1)
def knA (P : Nat) (vl : Nat → Nat) (V N : Nat → Bool) (x : Int32) : Int32 := bif P == 0 then -1 else rkF vl V N x
def gaA (on : Bool) (vl : Nat → Nat) (V N : Nat → Bool) (gs : Nat → Nat) (x : Int32) : Int32 := bif on then (bif decide (rkF vl V N x < nI 1) then -2 else nI (gs x.toNatClampNeg)) else -1
theorem rk_ge {vl : Nat → Nat} {V N : Nat → Bool} {x : Int32} (h : ¬ rkF vl V N x < nI 1) : ∃ n, n < 4096 ∧ x = nI n ∧ (V n || N n) = true ∧ all6 vl n 6 = true := by
  have hm : (-1 : Int32) < nI 1 := by decide
  have h0 : nI 0 < nI 1 := by decide
  unfold rkF at h
  by_cases hx : x < 0
  · rw [if_pos hx] at h; exact absurd hm h
  · rw [if_neg hx] at h
    obtain ⟨n, hn, rfl⟩ := nI_of hx
    rw [nI_clamp hn] at h
    unfold rkN at h
    by_cases hc : n < 4096 ∧ all6 vl n 6 = true
    · rw [if_pos hc] at h
      refine ⟨n, hc.1, rfl, ?_, hc.2⟩
      cases hV : V n
      · rw [if_neg (by rw [hV]; decide)] at h
        cases hN : N n
        · rw [if_neg (by rw [hN]; decide)] at h; exact absurd h0 h
        · rfl
      · rfl
    · rw [if_neg hc] at h; exact absurd hm h
theorem all_P {vl : Nat → Nat} {n P : Nat} (hn : n < 4096) (hv1 : ∀ p, P ≤ p → p < 6 → vl p = 1) (h : all6 vl n 6 = true) : n < 4 ^ P := lt_P hn (fun p h1 h2 => by
  have := all6_iff.mp h p h2
  rw [hv1 p h1 h2] at this
  omega)
