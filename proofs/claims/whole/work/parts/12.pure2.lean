def upN (v : Nat → Nat) (k x : Nat) : Nat → Nat := fun j => if j = k then x else v j
theorem upN_s {v : Nat → Nat} {k x : Nat} : upN v k x k = x := if_pos rfl
theorem upN_n {v : Nat → Nat} {k j x : Nat} (h : j ≠ k) : upN v k x j = v j := if_neg h
theorem upd_ia (v : Nat → Nat) (k x : Nat) : upd (ia v) k (nI x) = ia (upN v k x) := by
  funext j
  unfold upd ia upN
  by_cases h : j = k
  · rw [if_pos h, if_pos h]
  · rw [if_neg h, if_neg h]
theorem or16 {a v : Nat} (ha : a < 16) (hv : v < 4) : a ||| 1 * 2 ^ v < 16 := Nat.or_lt_two_pow (n := 4) ha (by
  rw [Nat.one_mul]
  exact Nat.pow_lt_pow_right (by decide) hv)
theorem upV {vl : Nat → Nat} (h : ∀ p, p < 6 → 1 ≤ vl p ∧ vl p ≤ 4) {k v : Nat} (h1 : 2 ≤ v) (h2 : v ≤ 4) : ∀ p, p < 6 → 1 ≤ upN vl k v p ∧ upN vl k v p ≤ 4 := fun p hp => by
  by_cases e : p = k
  · subst e; rw [upN_s]; omega
  · rw [upN_n e]; exact h p hp
theorem upI {iv : Nat → Nat} (h : ∀ p, p < 6 → iv p < 16) {k x : Nat} (hx : x < 16) : ∀ p, p < 6 → upN iv k x p < 16 := fun p hp => by
  by_cases e : p = k
  · subst e; rw [upN_s]; exact hx
  · rw [upN_n e]; exact h p hp
/-! minimal forbidden tuples -/
def rmS (n i : Nat) : Nat := n &&& (63 - 2 ^ i)
theorem rm_fo : ∀ n, n < 64 → ∀ i, i < 6 → nI (fo n 6) &&& (nI (3 * 2 ^ (2 * i)) ^^^ (-1)) = nI (fo (rmS n i) 6) := by decide +kernel
theorem rm_eq : ∀ n, n < 64 → ∀ i, i < 6 → (nI (fo (rmS n i) 6) = nI (fo n 6) ↔ n.testBit i = false) := by decide +kernel
theorem rm_lt {n : Nat} (hn : n < 64) (i : Nat) : rmS n i < 64 := Nat.lt_of_le_of_lt Nat.and_le_left hn
theorem and_and (a b : Nat) : (a &&& b) &&& b = a &&& b := by rw [Nat.and_assoc, Nat.and_self]
theorem and_lt {a : Nat} (b : Nat) (h : a < 4096) : a &&& b < 4096 := Nat.lt_of_le_of_lt Nat.and_le_left h
def mfL (V : Nat → Bool) (n b : Nat) : Nat → Bool
  | 0 => true
  | i + 1 => mfL V n b i && (!(n.testBit i) || anyR V (rmS n i) (b &&& fo (rmS n i) 6))
def mfB (vl iv : Nat → Nat) (V : Nat → Bool) (n b : Nat) : Bool := all6 vl b 6 && ((ivs iv n b 6 == 0) && (!(anyR V n b) && mfL V n b 6))
def mfF (vl iv : Nat → Nat) (V : Nat → Bool) (n j : Nat) : Bool := mfB vl iv V n (ux n j)
theorem mf_a {vl iv : Nat → Nat} {V : Nat → Bool} {n b : Nat} (h : all6 vl b 6 = false) : nI 0 = bI (mfB vl iv V n b) := by unfold mfB; rw [h]; rfl
theorem mf_b {vl iv : Nat → Nat} {V : Nat → Bool} {n b : Nat} (h : ¬ ivs iv n b 6 = 0) : nI 0 = bI (mfB vl iv V n b) := by unfold mfB; rw [beq_false_of_ne h, Bool.false_and, Bool.and_false]; rfl
theorem mf_c {vl iv : Nat → Nat} {V : Nat → Bool} {n b : Nat} (h : ¬ anyR V n b = false) : nI 0 = bI (mfB vl iv V n b) := by unfold mfB; rw [ts_nf h, Bool.not_true, Bool.false_and, Bool.and_false, Bool.and_false]; rfl
theorem mfL_f {V : Nat → Bool} {n b i : Nat} (h : mfL V n b i = true) (hb : n.testBit i = false) : mfL V n b (i + 1) = true := by
  show (mfL V n b i && (!(n.testBit i) || anyR V (rmS n i) (b &&& fo (rmS n i) 6))) = true
  rw [h, hb]; rfl
theorem mfL_t {V : Nat → Bool} {n b i : Nat} (h : mfL V n b i = true) (ha : ¬ anyR V (rmS n i) (b &&& fo (rmS n i) 6) = false) : mfL V n b (i + 1) = true := by
  show (mfL V n b i && (!(n.testBit i) || anyR V (rmS n i) (b &&& fo (rmS n i) 6))) = true
  rw [h, ts_nf ha, Bool.or_true]; rfl
theorem mfL_no {V : Nat → Bool} {n b i : Nat} (hb : ¬ n.testBit i = false) (ha : anyR V (rmS n i) (b &&& fo (rmS n i) 6) = false) : ∀ {k : Nat}, i < k → mfL V n b k = false
  | 0, h => absurd h (Nat.not_lt_zero _)
  | k + 1, h => by
    show (mfL V n b k && (!(n.testBit k) || anyR V (rmS n k) (b &&& fo (rmS n k) 6))) = false
    by_cases e : i = k
    · subst e; rw [ts_nf hb, ha, Bool.not_true, Bool.or_false, Bool.and_false]
    · rw [mfL_no hb ha (show i < k by omega), Bool.false_and]
theorem mf_d {vl iv : Nat → Nat} {V : Nat → Bool} {n b i : Nat} (hi : i < 6) (hb : ¬ n.testBit i = false) (ha : anyR V (rmS n i) (b &&& fo (rmS n i) 6) = false) : nI 0 = bI (mfB vl iv V n b) := by
  unfold mfB
  rw [mfL_no hb ha hi, Bool.and_false, Bool.and_false, Bool.and_false]; rfl
theorem mf_1 {vl iv : Nat → Nat} {V : Nat → Bool} {n b : Nat} (h1 : ¬ all6 vl b 6 = false) (h2 : ivs iv n b 6 = 0) (h3 : anyR V n b = false) (h4 : mfL V n b 6 = true) : nI 1 = bI (mfB vl iv V n b) := by
  unfold mfB
  rw [ts_nf h1, h2, h3, h4]; rfl
theorem ivs31 (iv : Nat → Nat) (n b : Nat) : ivs iv n b 6 < 2 ^ 31 := Nat.lt_trans (ivs_64 iv n b 6 (by decide)) (by decide)
theorem cB_it {f : Nat → Bool} {k : Nat} (h : ¬ f k = false) : nI (cB f k) + 1 = nI (cB f (k + 1)) := by rw [cB_t (ts_nf h), nI_1]
/-! goals -/
def glB (iv : Nat → Nat) (V N : Nat → Bool) (n b : Nat) : Bool := bif (ivs iv n b 6 == 0) then anyR V n b else (cn (ivs iv n b 6) 6 == 1) && anyR N n b
def glF (iv : Nat → Nat) (V N : Nat → Bool) (n j : Nat) : Bool := glB iv V N n (ux n j)
theorem gl_0 {iv : Nat → Nat} {V N : Nat → Bool} {n b : Nat} (h : ivs iv n b 6 = 0) : glB iv V N n b = anyR V n b := by unfold glB; rw [h, beq_self_eq_true, cond_true]
theorem gl_n {iv : Nat → Nat} {V N : Nat → Bool} {n b : Nat} (h : ¬ ivs iv n b 6 = 0) : glB iv V N n b = ((cn (ivs iv n b 6) 6 == 1) && anyR N n b) := by unfold glB; rw [beq_false_of_ne h]; rfl
theorem gl_a {iv : Nat → Nat} {V N : Nat → Bool} {n b : Nat} (h : ¬ ivs iv n b 6 = 0) (h1 : ¬ cn (ivs iv n b 6) 6 = 1) : nI 0 = bI (glB iv V N n b) := by rw [gl_n h, beq_false_of_ne h1]; rfl
theorem gl_b {iv : Nat → Nat} {V N : Nat → Bool} {n b : Nat} (h : ¬ ivs iv n b 6 = 0) (h1 : anyR N n b = false) : nI 0 = bI (glB iv V N n b) := by rw [gl_n h, h1, Bool.and_false]; rfl
theorem gl_c {iv : Nat → Nat} {V N : Nat → Bool} {n b : Nat} (h : ¬ ivs iv n b 6 = 0) (h1 : cn (ivs iv n b 6) 6 = 1) (h2 : ¬ anyR N n b = false) : nI 1 = bI (glB iv V N n b) := by rw [gl_n h, h1, ts_nf h2]; rfl
def sumN (f : Nat → Nat) : Nat → Nat
  | 0 => 0
  | k + 1 => sumN f k + f k
theorem sumN_le {f : Nat → Nat} {c : Nat} (h : ∀ i, f i ≤ c) : ∀ k, sumN f k ≤ k * c
  | 0 => by rw [Nat.zero_mul]; exact Nat.le_refl _
  | k + 1 => by
    have h1 := sumN_le h k
    have h2 := h k
    show sumN f k + f k ≤ (k + 1) * c
    rw [Nat.succ_mul]
    omega
/-- the number of goals of the set n -/
def gsF (iv : Nat → Nat) (V N ak : Nat → Bool) (n : Nat) : Nat := bif ak n then cB (glF iv V N n) (4 ^ cn n 6) else 0
theorem gsF_le (iv : Nat → Nat) (V N ak : Nat → Bool) (n : Nat) : gsF iv V N ak n ≤ 4096 := by
  unfold gsF
  cases ak n
  · exact Nat.zero_le _
  · exact Nat.le_trans (cB_le _ _) (p4cn n)
theorem gs_f {iv : Nat → Nat} {V N ak : Nat → Bool} {n : Nat} (h : ak n = false) : sumN (gsF iv V N ak) (n + 1) = sumN (gsF iv V N ak) n := by
  show sumN (gsF iv V N ak) n + gsF iv V N ak n = _
  unfold gsF; rw [h]; rfl
theorem gs_t {iv : Nat → Nat} {V N ak : Nat → Bool} {n : Nat} (h : ¬ ak n = false) : nI (sumN (gsF iv V N ak) n + cB (glF iv V N n) (4 ^ cn n 6)) = nI (sumN (gsF iv V N ak) (n + 1)) := by
  show _ = nI (sumN (gsF iv V N ak) n + gsF iv V N ak n)
  congr 2
  unfold gsF; rw [ts_nf h]; rfl
/-! what a row covers, out of the class's words -/
theorem ivs_bit (iv : Nat → Nat) (n b : Nat) : ∀ k p, (ivs iv n b k).testBit p = (decide (p < k) && (n.testBit p && (iv p).testBit (dg b p)))
  | 0, p => by rw [decide_eq_false (Nat.not_lt_zero _)]; exact Nat.zero_testBit p
  | k + 1, p => by
    have ih := ivs_bit iv n b k p
    have hlt := ivs_lt iv n b k
    show (ivs iv n b k + cond (n.testBit k && (iv k).testBit (dg b k)) (2 ^ k) 0).testBit p = _
    cases hc : (n.testBit k && (iv k).testBit (dg b k))
    · show (ivs iv n b k + 0).testBit p = _
      rw [Nat.add_zero, ih, lt_sB]
      by_cases e : p = k
      · rw [e, hc, Bool.and_false, Bool.and_false]
      · rw [beq_false_of_ne e, Bool.or_false]
    · show (ivs iv n b k + 2 ^ k).testBit p = _
      rw [Nat.add_comm, lt_sB]
      rcases Nat.lt_trichotomy p k with h | h | h
      · rw [Nat.testBit_two_pow_add_gt h, ih, beq_false_of_ne (by omega), Bool.or_false]
      · subst h
        rw [Nat.testBit_two_pow_add_eq, ih, decide_eq_false (Nat.lt_irrefl _), Bool.false_and, beq_self_eq_true, hc]
        rfl
      · have h2 : 2 ^ (k + 1) ≤ 2 ^ p := Nat.pow_le_pow_right (by decide) h
        rw [Nat.pow_succ] at h2
        rw [Nat.testBit_lt_two_pow (show 2 ^ k + ivs iv n b k < 2 ^ p by omega), decide_eq_false (by omega), beq_false_of_ne (by omega)]
        rfl
theorem sub6_iff {n s : Nat} : ∀ {k : Nat}, sub6 n s k = true ↔ ∀ p, p < k → n.testBit p = true → s.testBit p = true
  | 0 => ⟨fun _ p hp => absurd hp (Nat.not_lt_zero _), fun _ => rfl⟩
  | k + 1 => by
    show (sub6 n s k && (!(n.testBit k) || s.testBit k)) = true ↔ _
    rw [Bool.and_eq_true, sub6_iff, Bool.or_eq_true, Bool.not_eq_true']
    constructor
    · rintro ⟨h1, h2⟩ p hp hb
      by_cases e : p = k
      · subst e
        rcases h2 with h2 | h2
        · rw [h2] at hb; cases hb
        · exact h2
      · exact h1 p (by omega) hb
    · intro h
      refine ⟨fun p hp hb => h p (by omega) hb, ?_⟩
      cases hb : n.testBit k
      · exact Or.inl rfl
      · exact Or.inr (h k (by omega) hb)
theorem sub_0 (s : Nat) : sub6 0 s 6 = true := sub6_iff.mpr (fun p _ h => by rw [Nat.zero_testBit] at h; cases h)
theorem sub_iv {iv : Nat → Nat} {P r s : Nat} (hi0 : ∀ p, P ≤ p → p < 6 → iv p = 0) : sub6 (ivs iv (2 ^ P - 1) r 6) s 6 = inb iv r s 6 := by
  rw [Bool.eq_iff_iff, sub6_iff, inb_iff]
  constructor
  · intro h p hp hb
    apply h p hp
    rw [ivs_bit, hb, Bool.and_true, Nat.testBit_two_pow_sub_one, decide_eq_true hp, Bool.true_and, decide_eq_true_iff]
    apply Classical.byContradiction
    intro hP
    rw [hi0 p (by omega) hp, Nat.zero_testBit] at hb
    cases hb
  · intro h p hp hb
    rw [ivs_bit, Bool.and_eq_true, Bool.and_eq_true] at hb
    exact h p hp hb.2.2
theorem sc_V {iv : Nat → Nat} {V N : Nat → Bool} (hVN : VN iv V N) {ak : Nat → Bool} {r : Nat} (h : ¬ V r = false) (s : Nat) : (ak s && sub6 0 s 6) = csB iv V N ak r s := by
  unfold csB
  rw [sub_0, ts_nf h, Bool.true_or, Bool.true_and, Bool.and_true, inb_iff.mpr (fun p hp hb => by rw [cB_zero.mp ((hVN r).1 (ts_nf h)) p hp] at hb; cases hb), Bool.and_true]
theorem sc_N {iv : Nat → Nat} {V N : Nat → Bool} {ak : Nat → Bool} {P r : Nat} (hi0 : ∀ p, P ≤ p → p < 6 → iv p = 0) (h : ¬ N r = false) (s : Nat) : (ak s && sub6 (ivs iv (2 ^ P - 1) r 6) s 6) = csB iv V N ak r s := by
  unfold csB
  rw [sub_iv hi0, ts_nf h, Bool.or_true, Bool.true_and]
theorem sc_0 {iv : Nat → Nat} {V N : Nat → Bool} {ak : Nat → Bool} {r : Nat} (h : V r = false) (h2 : N r = false) (s : Nat) : false = csB iv V N ak r s := by
  unfold csB
  rw [h, h2, Bool.or_false, Bool.false_and, Bool.and_false]
/-! cover, lower -/
theorem pc6_or {n r i : Nat} (h : ¬ n.testBit i = false) : nI (pc6 n r i * 2 ^ 2) ||| nI (dg r i) = nI (pc6 n r (i + 1)) := by
  have h2 := Nat.shiftLeft_add_eq_or_of_lt (show dg r i < 2 ^ 2 from dg_lt r i) (pc6 n r i)
  rw [Nat.shiftLeft_eq] at h2
  rw [nx_or, ← h2, pc6_t (ts_nf h)]
theorem pc6_4096 (n r : Nat) {i : Nat} (h : i ≤ 6) : pc6 n r i < 4096 := Nat.lt_of_lt_of_le (pc6_lt n r i) (p4le (b := 6) (Nat.le_trans (cn_le n i) h))
theorem pc6_64 {n : Nat} (r : Nat) (h : cn n 6 ≤ 3) : pc6 n r 6 < 64 := Nat.lt_of_lt_of_le (pc6_lt n r 6) (p4le (b := 3) h)
theorem cv_bit {x : Int64} {k : Nat} (hk : k < 64) : x &&& ((1 : Int64) <<< ((nI k).toInt64 &&& 63)) = 0 ↔ bL x k = false := by
  constructor
  · intro h
    have h1 := congrArg (fun y => bL y k) h
    simp only [bL_and] at h1
    rw [sh1_all k hk k hk, beq_self_eq_true, Bool.and_true, bL_0] at h1
    exact h1
  · intro h
    apply bL_ext0
    intro t ht
    rw [bL_and, sh1_all k hk t ht]
    by_cases e : t = k
    · rw [e, h]; rfl
    · rw [beq_false_of_ne e, Bool.and_false]
theorem cv_set {cv d : Nat → Int64} {n k : Nat} (hk : k < 64) (h : vp_updL cv n (cv n ||| ((1 : Int64) <<< ((nI k).toInt64 &&& 63))) = d) : ∀ a, ∀ t, t < 64 → bL (d a) t = (bL (cv a) t || (a == n && t == k)) := by
  intro a t ht
  rw [← h]
  by_cases e : a = n
  · rw [e, pk_uLs, bL_or, sh1_all k hk t ht, beq_self_eq_true, Bool.true_and]
  · rw [pk_uLn e, beq_false_of_ne e, Bool.false_and, Bool.or_false]
def lgP (gs : Nat → Nat) (K : Nat → Bool) (P n r mm j : Nat) (d : Nat → Nat) : Prop := ∀ s, s < 4 ^ P → d s = if tp n s = tp n r ∧ tp mm s < j ∧ K s = true then gs s - 1 else gs s
theorem lg_0 {gs : Nat → Nat} {K : Nat → Bool} {P n r mm : Nat} : lgP gs K P n r mm 0 gs := fun s _ => by rw [if_neg (fun z => Nat.not_lt_zero _ z.2.1)]
theorem lg_at {gs d : Nat → Nat} {K : Nat → Bool} {P n r mm j : Nat} (hP : P < 7) (hn : n < 2 ^ P) (hr : r < 4 ^ P) (hm : mm = 2 ^ P - 1 - n) (hj : j < 4 ^ cn mm 6) (h : lgP gs K P n r mm j d) : d (ot r n mm j) = gs (ot r n mm j) := by
  subst hm
  have ho := ot_P (j := j) hP hn hr
  have hi := (ot_iff hP hn hr ho hj).mp rfl
  rw [h _ ho, if_neg (fun z => by have := z.2.1; rw [hi.2] at this; omega)]
theorem lg_F {gs d : Nat → Nat} {K : Nat → Bool} {P n r mm j : Nat} (hP : P < 7) (hn : n < 2 ^ P) (hr : r < 4 ^ P) (hm : mm = 2 ^ P - 1 - n) (hj : j < 4 ^ cn mm 6) (h : lgP gs K P n r mm j d) (hK : K (ot r n mm j) = false) : lgP gs K P n r mm (j + 1) d := by
  subst hm
  intro s hs
  rw [h s hs]
  by_cases e : s = ot r n (2 ^ P - 1 - n) j
  · rw [if_neg (fun z => by rw [e, hK] at z; exact Bool.noConfusion z.2.2), if_neg (fun z => by rw [e, hK] at z; exact Bool.noConfusion z.2.2)]
  · have e2 : ¬ (tp n s = tp n r ∧ tp (2 ^ P - 1 - n) s = j) := fun z => e ((ot_iff hP hn hr hs hj).mpr z)
    by_cases c : tp n s = tp n r ∧ tp (2 ^ P - 1 - n) s < j ∧ K s = true
    · rw [if_pos c, if_pos ⟨c.1, by omega, c.2.2⟩]
    · rw [if_neg c, if_neg (fun z => c ⟨z.1, by
        have h1 := z.2.1
        have h2 : ¬ tp (2 ^ P - 1 - n) s = j := fun q => e2 ⟨z.1, q⟩
        omega, z.2.2⟩)]
theorem lg_T {gs d : Nat → Nat} {K : Nat → Bool} {P n r mm j : Nat} (hP : P < 7) (hn : n < 2 ^ P) (hr : r < 4 ^ P) (hm : mm = 2 ^ P - 1 - n) (hj : j < 4 ^ cn mm 6) (h : lgP gs K P n r mm j d) (hK : ¬ K (ot r n mm j) = false) : lgP gs K P n r mm (j + 1) (upN d (ot r n mm j) (d (ot r n mm j) - 1)) := by
  have hat := lg_at hP hn hr hm hj h
  subst hm
  intro s hs
  by_cases e : s = ot r n (2 ^ P - 1 - n) j
  · have hi := (ot_iff hP hn hr hs hj).mp e
    rw [if_pos ⟨hi.1, by omega, by rw [e]; exact ts_nf hK⟩, e, upN_s, hat]
  · rw [upN_n e, h s hs]
    have e2 : ¬ (tp n s = tp n r ∧ tp (2 ^ P - 1 - n) s = j) := fun z => e ((ot_iff hP hn hr hs hj).mpr z)
    by_cases c : tp n s = tp n r ∧ tp (2 ^ P - 1 - n) s < j ∧ K s = true
    · rw [if_pos c, if_pos ⟨c.1, by omega, c.2.2⟩]
    · rw [if_neg c, if_neg (fun z => c ⟨z.1, by
        have h1 := z.2.1
        have h2 : ¬ tp (2 ^ P - 1 - n) s = j := fun q => e2 ⟨z.1, q⟩
        omega, z.2.2⟩)]
theorem lg_end {gs d : Nat → Nat} {K : Nat → Bool} {P n r mm j : Nat} (hj : 4 ^ cn mm 6 ≤ j) (h : lgP gs K P n r mm j d) : ∀ s, s < 4 ^ P → d s = if tp n s = tp n r ∧ K s = true then gs s - 1 else gs s := fun s hs => by
  rw [h s hs]
  have hlt : tp mm s < j := Nat.lt_of_lt_of_le (tp_lt4 mm s) hj
  by_cases c : tp n s = tp n r ∧ K s = true
  · rw [if_pos c, if_pos ⟨c.1, hlt, c.2⟩]
  · rw [if_neg c, if_neg (fun z => c ⟨z.1, z.2.2⟩)]
theorem cm64 {P n mm : Nat} (hP : P < 7) (hm : mm = 2 ^ P - 1 - n) : mm < 64 := by
  have := pw2le (P := P) (by omega)
  omega
/-! the best -/
def oI (b : Option Nat) : Int32 := match b with
  | none => -1
  | some b => nI b
theorem oI_m1 {b : Option Nat} (h : ∀ x, b = some x → x < 2 ^ 31) : oI b = -1 ↔ b = none := by
  cases b with
  | none => exact ⟨fun _ => rfl, fun _ => rfl⟩
  | some x =>
    refine ⟨fun z => ?_, fun z => by cases z⟩
    have h1 := nI_pos (h x rfl)
    have z : nI x = -1 := z
    rw [z] at h1
    exact absurd (by decide) h1
theorem mst_lt {g : Nat → Nat} {c : Nat} (hc : 0 < c) (h : ∀ s, g s < c) (b : Option Nat) : mst g b < c := by
  cases b with
  | none => exact hc
  | some b => exact h b
theorem bs_lt {R : Nat → Bool} {g : Nat → Nat} {k : Nat} {b : Option Nat} (h : bsP R g k b) : ∀ x, b = some x → x < k := fun x hx => by
  subst hx
  exact h.1
def bst2 (V N : Nat → Bool) (g : Nat → Nat) (k : Nat) (b : Option Nat) : Prop := (bsP V g k b ∧ ¬ b = none) ∨ (bsP V g k none ∧ bsP N g k b)
