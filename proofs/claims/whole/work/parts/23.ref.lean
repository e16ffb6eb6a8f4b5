/-! the reference: numbers in bytes and shorts, the arrays' words -/
theorem nar_z (b : Bool) : vp_nar .boolean (bI b) = bI b := by cases b <;> decide
theorem nar_b : ∀ n, n < 128 → vp_nar .byte (nI n) = nI n := by decide +kernel
theorem i8N : ∀ n, n < 128 → (nI n).toInt8.toInt32 = nI n := by decide +kernel
theorem i16A : ∀ a, a < 64 → ∀ b, b < 64 → (nI (64 * a + b)).toInt16.toInt32 = nI (64 * a + b) := by decide +kernel
theorem i16N {n : Nat} (h : n < 4096) : (nI n).toInt16.toInt32 = nI n := by
  have := i16A (n / 64) (by omega) (n % 64) (by omega)
  rwa [show 64 * (n / 64) + n % 64 = n by omega] at this
theorem nar_s {n : Nat} (h : n < 4096) : vp_nar .short (nI n) = nI n := by rw [vp_nar_short]; exact i16N h
def upB (f : Nat → Bool) (k : Nat) (b : Bool) : Nat → Bool := fun j => if j = k then b else f j
theorem upB_s {f : Nat → Bool} {k : Nat} {b : Bool} : upB f k b k = b := if_pos rfl
theorem upB_n {f : Nat → Bool} {k j : Nat} {b : Bool} (h : ¬ j = k) : upB f k b j = f j := if_neg h
theorem upd_ba (f : Nat → Bool) (k : Nat) (b : Bool) : upd (ba f) k (vp_nar .boolean (bI b)) = ba (upB f k b) := by
  rw [nar_z]
  funext j
  unfold upd ba upB
  by_cases h : j = k
  · rw [if_pos h, if_pos h]
  · rw [if_neg h, if_neg h]
theorem upd_b1 (f : Nat → Bool) (k : Nat) : upd (ba f) k (vp_nar .boolean (nI 1)) = ba (upB f k true) := upd_ba f k true
theorem upd_b0 (f : Nat → Bool) (k : Nat) : upd (ba f) k (vp_nar .boolean (nI 0)) = ba (upB f k false) := upd_ba f k false
theorem upd_by {v : Nat → Nat} {k x : Nat} (hx : x < 128) : upd (ia v) k (vp_nar .byte (nI x)) = ia (upN v k x) := by rw [nar_b x hx, upd_ia]
theorem upd_sh {v : Nat → Nat} {k x : Nat} (hx : x < 4096) : upd (ia v) k (vp_nar .short (nI x)) = ia (upN v k x) := by rw [nar_s hx, upd_ia]
def bdF (iv : Nat → Nat) (j : Nat) : Bool := (iv (j / 4)).testBit (j % 4)
theorem bd_at {iv : Nat → Nat} {i v : Nat} (hv : v < 4) : bdF iv (4 * i + v) = (iv i).testBit v := by
  unfold bdF
  rw [show (4 * i + v) / 4 = i by omega, show (4 * i + v) % 4 = v by omega]
theorem tb_P {n P i : Nat} (hn : n < 2 ^ P) (h : n.testBit i = true) : i < P := by
  apply Classical.byContradiction
  intro hc
  rw [Nat.testBit_lt_two_pow (Nat.lt_of_lt_of_le hn (Nat.pow_le_pow_right (by decide) (by omega)))] at h
  cases h
theorem rv_i {P i : Nat} {vl : Nat → Nat} (h : i < P) : rv P vl i = vl i := if_pos h
theorem dgA (t k : Nat) : nI (t / 4 ^ k) &&& nI 3 = nI (dg t k) := by
  have h : t / 4 ^ k &&& 3 = t / 4 ^ k % 4 := Nat.and_two_pow_sub_one_eq_mod _ 2
  rw [nx_and, h]; rfl
theorem dvA {t k : Nat} (ht : t < 4096) : nI (t / 4 ^ k) >>> (nI 2 &&& 31) = nI (t / 4 ^ (k + 1)) := by
  have h : t / 4 ^ k ≤ t := Nat.div_le_self _ _
  have e : t / 4 ^ (k + 1) = t / 4 ^ k / 4 := by rw [Nat.pow_succ, Nat.div_div_eq_div_mul]
  exact (shrN (by omega) (by decide)).trans (congrArg nI e.symm)
theorem wT_f {iv : Nat → Nat} {n t i : Nat} (h : n.testBit i = false) : wT iv n t (i + 1) = wT iv n t i := cB_f (by show (n.testBit i && _) = false; rw [h]; rfl)
theorem wT_0 {iv : Nat → Nat} {n t i : Nat} (h : (iv i).testBit (dg t (cn n i)) = false) : nI (wT iv n t i) + nI 0 = nI (wT iv n t (i + 1)) := by
  have e : wT iv n t (i + 1) = wT iv n t i := cB_f (by show (n.testBit i && (iv i).testBit (dg t (cn n i))) = false; rw [h, Bool.and_false])
  rw [nI_add, e]; rfl
theorem wT_1 {iv : Nat → Nat} {n t i : Nat} (hb : n.testBit i = true) (h : ¬ (iv i).testBit (dg t (cn n i)) = false) : nI (wT iv n t i) + nI 1 = nI (wT iv n t (i + 1)) := by
  have e : wT iv n t (i + 1) = wT iv n t i + 1 := cB_t (by show (n.testBit i && (iv i).testBit (dg t (cn n i))) = true; rw [hb, ts_nf h]; rfl)
  rw [nI_add, e]
theorem okT_f {vl : Nat → Nat} {n t i : Nat} (hk : okT vl n t i = true) (h : n.testBit i = false) : okT vl n t (i + 1) = true := by
  show (okT vl n t i && (!(n.testBit i) || decide (dg t (cn n i) < vl i))) = true
  rw [hk, h]; rfl
theorem okT_t {vl : Nat → Nat} {n t i : Nat} (hk : okT vl n t i = true) (h : dg t (cn n i) < vl i) : okT vl n t (i + 1) = true := by
  show (okT vl n t i && (!(n.testBit i) || decide (dg t (cn n i) < vl i))) = true
  rw [hk, decide_eq_true h, Bool.or_true]; rfl
theorem wg_no {vl iv : Nat → Nat} {n t i : Nat} (hi : i < 6) (hb : n.testBit i = true) (h : ¬ dg t (cn n i) < vl i) : -1 = wgI vl iv n t := by
  unfold wgI
  rw [if_neg (fun z => h (okT_iff.mp z.2 i hi hb))]
theorem wg_hi {vl iv : Nat → Nat} {n t : Nat} (h : ¬ t / 4 ^ cn n 6 ≤ 0) : -1 = wgI vl iv n t := by
  unfold wgI
  rw [if_neg (fun z => h (by rw [Nat.div_eq_of_lt z.1]; exact Nat.le_refl _))]
theorem wg_1 {vl iv : Nat → Nat} {n t : Nat} (hk : okT vl n t 6 = true) (h : t / 4 ^ cn n 6 ≤ 0) : nI (wT iv n t 6) = wgI vl iv n t := by
  unfold wgI
  rw [if_pos ⟨(Nat.div_eq_zero_iff.mp (Nat.le_zero.mp h)).resolve_left (Nat.ne_of_gt (p4 _)), hk⟩]
theorem exB_s (f : Nat → Bool) (k : Nat) : exB (k + 1) f = (exB k f || f k) := by
  unfold exB
  rw [List.range_succ, List.any_append]
  simp
/-- what relations ask for -/
def akB (rs rt : Nat → Nat) (n k : Nat) : Bool := decide (n &&& rs k = n) && (cn n 6 == rt k)
theorem ak_t {rs rt : Nat → Nat} {n k : Nat} (h : ¬ exB k (akB rs rt n) = false) : exB (k + 1) (akB rs rt n) = true := by rw [exB_s, ts_nf h]; rfl
theorem ak_a {rs rt : Nat → Nat} {n k : Nat} (h : exB k (akB rs rt n) = false) (h1 : ¬ n &&& rs k = n) : exB (k + 1) (akB rs rt n) = false := by rw [exB_s, h]; unfold akB; rw [decide_eq_false h1]; rfl
theorem ak_b {rs rt : Nat → Nat} {n k : Nat} (h : exB k (akB rs rt n) = false) (h1 : ¬ cn n 6 = rt k) : exB (k + 1) (akB rs rt n) = false := by rw [exB_s, h]; unfold akB; rw [beq_false_of_ne h1, Bool.and_false]; rfl
theorem ak_c {rs rt : Nat → Nat} {n k : Nat} (h1 : n &&& rs k = n) (h2 : cn n 6 = rt k) : exB (k + 1) (akB rs rt n) = true := by rw [exB_s]; unfold akB; rw [decide_eq_true h1, h2, beq_self_eq_true, Bool.and_true, Bool.or_true]
/-! the reference's terms: op, a, b, depth, the stack, its size, the number of terms -/
abbrev TS : Type := (Nat → Nat) × (Nat → Nat) × (Nat → Nat) × (Nat → Nat) × (Nat → Nat) × Nat × Nat
def psh (op a b d : Nat) (T : TS) (tc : Nat) : TS := (upN T.1 T.2.2.2.2.2.2 op, upN T.2.1 T.2.2.2.2.2.2 a, upN T.2.2.1 T.2.2.2.2.2.2 b, upN T.2.2.2.1 T.2.2.2.2.2.2 d, upN T.2.2.2.2.1 tc T.2.2.2.2.2.2, tc + 1, T.2.2.2.2.2.2 + 1)
def noB (P : Nat) (vl : Nat → Nat) (x y : Int32) : Bool := !(hvB P vl x y)
theorem no_a {P : Nat} {vl : Nat → Nat} {x y : Int32} (h : x < 0) : nI 1 = bI (noB P vl x y) := by unfold noB hvB; rw [decide_eq_false (fun z => z.1 h)]; rfl
theorem no_b {P : Nat} {vl : Nat → Nat} {x y : Int32} (h : nI P ≤ x) : nI 1 = bI (noB P vl x y) := by unfold noB hvB; rw [decide_eq_false (fun z => z.2.1 h)]; rfl
theorem no_c {P : Nat} {vl : Nat → Nat} {x y : Int32} (h : y < 0) : nI 1 = bI (noB P vl x y) := by unfold noB hvB; rw [decide_eq_false (fun z => z.2.2.1 h)]; rfl
theorem no_d {P q : Nat} {vl : Nat → Nat} {y : Int32} (hq : q < 2 ^ 31) (h : ¬ y < nI (vl q)) : nI 1 = bI (noB P vl (nI q) y) := by
  unfold noB hvB
  rw [nI_clamp hq, decide_eq_false (fun z => z.2.2.2 (by rw [Int32.lt_iff_toInt_lt] at h; rw [Int32.le_iff_toInt_le]; omega))]; rfl
theorem no_1 {P q : Nat} {vl : Nat → Nat} {y : Int32} (hq : q < 2 ^ 31) (h1 : ¬ nI q < 0) (h2 : ¬ nI P ≤ nI q) (h3 : ¬ y < 0) (h4 : y < nI (vl q)) : nI 0 = bI (noB P vl (nI q) y) := by
  unfold noB hvB
  rw [nI_clamp hq, decide_eq_true ⟨h1, h2, h3, fun z => by rw [Int32.lt_iff_toInt_lt] at h4; rw [Int32.le_iff_toInt_le] at z; omega⟩]; rfl
theorem no_f {P : Nat} {vl : Nat → Nat} {x y : Int32} (h : noB P vl x y = false) : ¬ hvB P vl x y = false := fun z => by unfold noB at h; rw [z] at h; cases h
theorem no_t {P : Nat} {vl : Nat → Nat} {x y : Int32} (h : ¬ noB P vl x y = false) : hvB P vl x y = false := by unfold noB at h; exact nt_t h
theorem lt1 {x : Int32} : x < nI 1 ↔ x ≤ 0 := by
  rw [Int32.lt_iff_toInt_lt, Int32.le_iff_toInt_le, nI_toInt (by decide)]
  have e : (0 : Int32).toInt = 0 := by decide
  omega
theorem rv_up {P v : Nat} {vl : Nat → Nat} : upN (rv P vl) P v = rv (P + 1) (upN vl P v) := by
  funext j
  by_cases e : j = P
  · subst e
    rw [upN_s]
    unfold rv
    rw [if_pos (by omega), upN_s]
  · rw [upN_n e]
    unfold rv
    by_cases h : j < P
    · rw [if_pos h, if_pos (by omega), upN_n e]
    · rw [if_neg h, if_neg (by omega)]
theorem or_tb {a v : Nat} (w : Nat) : (a ||| 1 * 2 ^ v).testBit w = (a.testBit w || decide (v = w)) := by rw [Nat.one_mul, Nat.testBit_or, Nat.testBit_two_pow]
theorem bd_up {iv : Nat → Nat} {q v : Nat} (hv : v < 4) : upB (bdF iv) (4 * q + v) true = bdF (upN iv q (iv q ||| 1 * 2 ^ v)) := by
  funext j
  unfold upB bdF upN
  by_cases e : j = 4 * q + v
  · rw [if_pos e, if_pos (by omega), or_tb, show j % 4 = v by omega, decide_eq_true rfl, Bool.or_true]
  · rw [if_neg e]
    by_cases h : j / 4 = q
    · rw [if_pos h, or_tb, decide_eq_false (by omega), Bool.or_false, h]
    · rw [if_neg h]
theorem upN_0 {x : Nat} : upN (fun _ => 0) x 0 = (fun _ => 0) := by
  funext j
  unfold upN
  by_cases e : j = x
  · rw [if_pos e]
  · rw [if_neg e]
theorem isS_y {P : Nat} {x : Int32} (h1 : ¬ x ≤ 0) (h2 : ¬ nI (1 * 2 ^ P) ≤ x) : ¬ isS P x = false := fun z => by
  rw [Nat.one_mul] at h2
  unfold isS at z
  rw [decide_eq_true ⟨h1, h2⟩] at z
  cases z
theorem isS_n1 {P : Nat} {x : Int32} (h : x ≤ 0) : isS P x = false := decide_eq_false (fun z => z.1 h)
theorem isS_n2 {P : Nat} {x : Int32} (h : nI (1 * 2 ^ P) ≤ x) : isS P x = false := by rw [Nat.one_mul] at h; exact decide_eq_false (fun z => z.2 h)
theorem nr_1 {on : Bool} {tk : Nat} {x : Int32} (h : ¬ on = false) (h1 : ¬ x < 0) (h2 : x < nI tk) : nI 0 = bI (!(itB on tk x)) := by
  unfold itB
  rw [ts_nf h, decide_eq_true ⟨h1, fun z => by rw [Int32.lt_iff_toInt_lt] at h2; rw [Int32.le_iff_toInt_le] at z; omega⟩]; rfl
theorem nr_a {on : Bool} {tk : Nat} {x : Int32} (h : on = false) : nI 1 = bI (!(itB on tk x)) := by unfold itB; rw [h]; rfl
theorem nr_b {on : Bool} {tk : Nat} {x : Int32} (h : x < 0) : nI 1 = bI (!(itB on tk x)) := by unfold itB; rw [decide_eq_false (fun z => z.1 h), Bool.and_false]; rfl
theorem nr_c {on : Bool} {tk : Nat} {x : Int32} (h : ¬ x < nI tk) : nI 1 = bI (!(itB on tk x)) := by
  unfold itB
  rw [decide_eq_false (fun z => z.2 (by rw [Int32.lt_iff_toInt_lt] at h; rw [Int32.le_iff_toInt_le]; omega)), Bool.and_false]; rfl
