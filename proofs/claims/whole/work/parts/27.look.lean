/-! what the reference looks up: kinds, tuples of valid and of negative rows -/
def kkI (P : Nat) (vl iv : Nat → Nat) (M : Nat → Bool) (j : Nat) : Int32 := bif P == 0 then -1 else kdI vl iv M j
theorem kd_4 (vl iv : Nat → Nat) (M : Nat → Bool) (j : Nat) : kdI vl iv M j = -1 ∨ kdI vl iv M j = nI 0 ∨ kdI vl iv M j = nI 1 ∨ kdI vl iv M j = nI 2 := by
  unfold kdI
  cases all6 vl j 6
  · exact Or.inl rfl
  · cases hM : (M j && decide (wrg iv j 6 ≤ 1))
    · exact Or.inr (Or.inl rfl)
    · rw [Bool.and_eq_true, decide_eq_true_iff] at hM
      show nI (2 - wrg iv j 6) = _ ∨ _
      rcases (show wrg iv j 6 = 0 ∨ wrg iv j 6 = 1 by omega) with h | h
      · rw [h]; exact Or.inr (Or.inr (Or.inr rfl))
      · rw [h]; exact Or.inr (Or.inr (Or.inl rfl))
theorem kk_4 (P : Nat) (vl iv : Nat → Nat) (M : Nat → Bool) (j : Nat) : kkI P vl iv M j = -1 ∨ kkI P vl iv M j = nI 0 ∨ kkI P vl iv M j = nI 1 ∨ kkI P vl iv M j = nI 2 := by
  unfold kkI
  cases (P == 0)
  · exact kd_4 vl iv M j
  · exact Or.inl rfl
theorem kk8 (P : Nat) (vl iv : Nat → Nat) (M : Nat → Bool) (j : Nat) : (kkI P vl iv M j).toInt8.toInt32 = kkI P vl iv M j := by
  rcases kk_4 P vl iv M j with h | h | h | h <;> rw [h] <;> decide
theorem kkn (P : Nat) (vl iv : Nat → Nat) (M : Nat → Bool) (j : Nat) : vp_nar .byte (kkI P vl iv M j) = kkI P vl iv M j := by rw [vp_nar_byte]; exact kk8 P vl iv M j
def hitB (P i r : Nat) : Bool := decide (i / 64 < 2 ^ P) && (decide (cn (i / 64) 6 ≤ 3) && tp (i / 64) r == i % 64)
def inF (P : Nat) (kk : Nat → Int32) (c : Int32) (i r : Nat) : Bool := decide (kk r = c) && hitB P i r
def inV (P : Nat) (kk : Nat → Int32) (c : Int32) (k i : Nat) : Bool := exB k (inF P kk c i)
def lkA (P : Nat) (kk : Nat → Int32) (c : Int32) (k n : Nat) (v : Nat → Bool) : Prop := ∀ i, i < 4096 → v i = (inV P kk c k i || (decide (i / 64 < n) && inF P kk c i k))
theorem lk_0 {P k : Nat} {kk : Nat → Int32} {c : Int32} {v : Nat → Bool} (h : ∀ i, i < 4096 → v i = inV P kk c k i) : lkA P kk c k 0 v := fun i hi => by rw [h i hi, decide_eq_false (Nat.not_lt_zero _), Bool.false_and, Bool.or_false]
theorem hit_3 {P i r : Nat} (h : 3 < cn (i / 64) 6) : hitB P i r = false := by unfold hitB; rw [decide_eq_false (show ¬ cn (i / 64) 6 ≤ 3 by omega), Bool.false_and, Bool.and_false]
theorem lk_F {P k n : Nat} {kk : Nat → Int32} {c : Int32} {v : Nat → Bool} (h : lkA P kk c k n v) (h3 : 3 < cn n 6) : lkA P kk c k (n + 1) v := fun i hi => by
  rw [h i hi, lt_sB]
  by_cases e : i / 64 = n
  · have hz : inF P kk c i k = false := by unfold inF; rw [hit_3 (by rw [e]; exact h3), Bool.and_false]
    rw [hz, Bool.and_false, Bool.and_false]
  · rw [beq_false_of_ne e, Bool.or_false]
theorem tp_64 {n : Nat} (r : Nat) (h : cn n 6 ≤ 3) : tp n r < 64 := Nat.lt_of_lt_of_le (tp_lt4 n r) (p4le (b := 3) h)
theorem lk_T {P k n : Nat} {kk : Nat → Int32} {c : Int32} {v : Nat → Bool} {b : Bool} (h : lkA P kk c k n v) (h3 : cn n 6 ≤ 3) (hn : n < 2 ^ P) (hn6 : n < 64) (hb : b = (v (64 * n + tp n k) || decide (kk k = c))) : lkA P kk c k (n + 1) (upB v (64 * n + tp n k) b) := fun i hi => by
  have ht := tp_64 k h3
  rw [lt_sB]
  by_cases e : i = 64 * n + tp n k
  · have e1 : i / 64 = n := by omega
    have e2 : i % 64 = tp n k := by omega
    have hh : hitB P i k = true := by unfold hitB; rw [e1, e2, decide_eq_true hn, decide_eq_true h3, beq_self_eq_true]; rfl
    have hv := h i hi
    rw [decide_eq_false (show ¬ i / 64 < n by omega), Bool.false_and, Bool.or_false] at hv
    rw [← e] at hb ⊢
    rw [upB_s, hb, hv, e1, beq_self_eq_true, Bool.or_true, Bool.true_and]
    unfold inF
    rw [hh, Bool.and_true]
  · rw [upB_n e, h i hi]
    by_cases en : i / 64 = n
    · have hz : inF P kk c i k = false := by
        unfold inF hitB
        rw [en, beq_false_of_ne (show ¬ tp n k = i % 64 by omega), Bool.and_false, Bool.and_false, Bool.and_false]
      rw [hz, Bool.and_false, Bool.and_false]
    · rw [beq_false_of_ne en, Bool.or_false]
theorem lk_e {P k n : Nat} {kk : Nat → Int32} {c : Int32} {v : Nat → Bool} (h : lkA P kk c k n v) (hn : 2 ^ P ≤ n ∨ ¬ kk k = c) : ∀ i, i < 4096 → v i = inV P kk c (k + 1) i := fun i hi => by
  rw [h i hi]
  unfold inV
  rw [exB_s]
  congr 1
  rcases hn with hn | hn
  · cases hf : inF P kk c i k
    · rw [Bool.and_false]
    · have : i / 64 < 2 ^ P := by
        unfold inF hitB at hf
        rw [Bool.and_eq_true, Bool.and_eq_true, decide_eq_true_iff, decide_eq_true_iff] at hf
        exact hf.2.1
      rw [decide_eq_true (by omega)]; rfl
  · have hz : inF P kk c i k = false := by unfold inF; rw [decide_eq_false hn, Bool.false_and]
    rw [hz, Bool.and_false]
def lkP (P : Nat) (kk : Nat → Int32) (kf : Nat → Int32) (vf nf : Nat → Bool) : Prop := (∀ j, j < 4096 → kf j = kk j) ∧ ∀ i, i < 4096 → vf i = inV P kk (nI 2) 4096 i ∧ nf i = inV P kk (nI 1) 4096 i
theorem k_le {x : Int32} {n : Nat} (h : x ≤ 0) (hn : 0 < n) (h31 : n < 2 ^ 31) : ¬ x = nI n := fun e => nI_nle hn h31 (e ▸ h)
theorem kf_s {kf kk kf2 : Nat → Int32} {k : Nat} (h : ∀ j, j < k → kf j = kk j) (h2 : upd kf k (kk k) = kf2) : ∀ j, j < k + 1 → kf2 j = kk j := by
  intro j hj
  rw [← h2]
  by_cases e : j = k
  · rw [e]; exact pk_us
  · rw [pk_un e]; exact h j (by omega)
def knR (kk : Nat → Int32) (x : Int32) : Int32 := bif decide (¬ x < 0 ∧ x ≤ nI 4095) then kk x.toNatClampNeg else -1
theorem kn_a {kk : Nat → Int32} {x : Int32} (h : x < 0) : -1 = knR kk x := by unfold knR; rw [decide_eq_false (fun z => z.1 h)]; rfl
theorem kn_b {kk : Nat → Int32} {x : Int32} (h : ¬ x ≤ nI 4095) : -1 = knR kk x := by unfold knR; rw [decide_eq_false (fun z => h z.2)]; rfl
theorem kn_of {x : Int32} (h1 : ¬ x < 0) (h2 : x ≤ nI 4095) : ∃ n, n < 4096 ∧ x = nI n := by
  obtain ⟨n, hn, rfl⟩ := nI_of h1
  rw [nI_leI hn (by decide)] at h2
  exact ⟨n, by omega, rfl⟩
theorem kn_1 {kk : Nat → Int32} {n : Nat} (h : n < 4096) : kk n = knR kk (nI n) := by
  unfold knR
  rw [nI_clamp (by omega), decide_eq_true ⟨nI_pos (by omega), (nI_leI (by omega) (by decide)).mpr (by omega)⟩]; rfl
/-! counting, with the open tuples opf -/
def ixN (n rr : Nat) : Nat := if cn n 6 ≤ 3 then 64 * n + tp n rr else 0
def cnB (vl iv : Nat → Nat) (kr : Int32) (opf : Nat → Bool) (rr n : Nat) : Bool := decide (0 < n) && (opf (ixN n rr) && (decide (kr = nI 2) || decide (wgI vl iv n (tp n rr) = nI 1)))
theorem ix_3 {n rr : Nat} (h : cn n 6 ≤ 3) : ixN n rr = 64 * n + tp n rr := if_pos h
theorem ix_n {n rr : Nat} (h : 3 < cn n 6) : ixN n rr = 0 := if_neg (by omega)
theorem ct_0 {vl iv : Nat → Nat} {kr : Int32} {opf : Nat → Bool} {rr n : Nat} (h : opf (ixN n rr) = false) : cnB vl iv kr opf rr n = false := by unfold cnB; rw [h, Bool.false_and, Bool.and_false]
theorem ct_1 {vl iv : Nat → Nat} {kr : Int32} {opf : Nat → Bool} {rr n : Nat} (h1 : ¬ kr = nI 2) (h2 : ¬ wgI vl iv n (tp n rr) = nI 1) : cnB vl iv kr opf rr n = false := by unfold cnB; rw [decide_eq_false h1, decide_eq_false h2, Bool.or_false, Bool.and_false, Bool.and_false]
theorem ct_a {vl iv : Nat → Nat} {kr : Int32} {opf : Nat → Bool} {rr n : Nat} (h0 : 0 < n) (h : ¬ opf (ixN n rr) = false) (h1 : kr = nI 2) : ¬ cnB vl iv kr opf rr n = false := by unfold cnB; rw [decide_eq_true h0, ts_nf h, decide_eq_true h1, Bool.true_or]; decide
theorem ct_b {vl iv : Nat → Nat} {kr : Int32} {opf : Nat → Bool} {rr n : Nat} (h0 : 0 < n) (h : ¬ opf (ixN n rr) = false) (h1 : wgI vl iv n (tp n rr) = nI 1) : ¬ cnB vl iv kr opf rr n = false := by unfold cnB; rw [decide_eq_true h0, ts_nf h, decide_eq_true h1, Bool.or_true]; decide
theorem ct_z (vl iv : Nat → Nat) (kr : Int32) (opf : Nat → Bool) (rr : Nat) : cnB vl iv kr opf rr 0 = false := rfl
/-- the open tuples when the sets below n are done -/
def opA (vl iv : Nat → Nat) (kr : Int32) (opf : Nat → Bool) (rr n i : Nat) : Bool := opf i && !(decide (i / 64 < n) && (i == ixN (i / 64) rr && cnB vl iv kr opf rr (i / 64)))
def opI (vl iv : Nat → Nat) (kr : Int32) (opf : Nat → Bool) (rr n : Nat) (g : Nat → Bool) : Prop := ∀ i, i < 4096 → g i = opA vl iv kr opf rr n i
theorem op_n {vl iv : Nat → Nat} {kr : Int32} {opf g : Nat → Bool} {rr n : Nat} (h : opI vl iv kr opf rr n g) (hc : cnB vl iv kr opf rr n = false) : opI vl iv kr opf rr (n + 1) g := fun i hi => by
  rw [h i hi]
  unfold opA
  rw [lt_sB]
  by_cases e : i / 64 = n
  · rw [e, hc, Bool.and_false, Bool.and_false, Bool.and_false]
  · rw [beq_false_of_ne e, Bool.or_false]
theorem op_y {vl iv : Nat → Nat} {kr : Int32} {opf g : Nat → Bool} {rr n : Nat} (h : opI vl iv kr opf rr n g) (h3 : cn n 6 ≤ 3) (hn : n < 64) (hc : ¬ cnB vl iv kr opf rr n = false) : opI vl iv kr opf rr (n + 1) (upB g (64 * n + tp n rr) false) := fun i hi => by
  have ht := tp_64 rr h3
  unfold opA
  rw [lt_sB]
  by_cases e : i = 64 * n + tp n rr
  · have e1 : i / 64 = n := by omega
    rw [e, upB_s, ← e, e1, ix_3 h3, ← e, beq_self_eq_true, beq_self_eq_true, ts_nf hc, Bool.or_true]
    simp
  · rw [upB_n e, h i hi]
    unfold opA
    by_cases en : i / 64 = n
    · rw [en, ix_3 h3, beq_false_of_ne e, Bool.false_and, Bool.and_false, Bool.and_false]
    · rw [beq_false_of_ne en, Bool.or_false]
theorem op_at {vl iv : Nat → Nat} {kr : Int32} {opf g : Nat → Bool} {rr n : Nat} (h : opI vl iv kr opf rr n g) (h3 : cn n 6 ≤ 3) (hn : n < 64) : g (64 * n + tp n rr) = opf (ixN n rr) := by
  have ht := tp_64 rr h3
  rw [h _ (by omega), ix_3 h3]
  unfold opA
  rw [decide_eq_false (by omega), Bool.false_and, Bool.not_false, Bool.and_true]
theorem op_0 {vl iv : Nat → Nat} {kr : Int32} {opf : Nat → Bool} {rr : Nat} : opI vl iv kr opf rr 1 opf := fun i _ => by
  unfold opA
  by_cases e : i / 64 < 1
  · rw [show i / 64 = 0 by omega, ct_z, Bool.and_false, Bool.and_false, Bool.not_false, Bool.and_true]
  · rw [decide_eq_false e, Bool.false_and, Bool.not_false, Bool.and_true]
theorem op_0i {vl iv : Nat → Nat} {kr : Int32} {opf g : Nat → Bool} {rr n : Nat} (h : opI vl iv kr opf rr n g) (h0 : opf 0 = false) : g 0 = false := by
  rw [h 0 (by decide)]
  unfold opA
  rw [h0, Bool.false_and]
/-- the plain ones among the counted -/
def plB (vl iv : Nat → Nat) (kr : Int32) (opf : Nat → Bool) (rr n : Nat) : Bool := cnB vl iv kr opf rr n && decide (wgI vl iv n (tp n rr) = 0)
theorem su_1 {x : Int32} {a : Nat} : (x - nI a) - nI 1 = x - nI (a + 1) := by
  rw [← nI_1 a]
  generalize nI a = y
  apply Int32.toBitVec_inj.mp
  show x.toBitVec - y.toBitVec - 1#32 = x.toBitVec - (y.toBitVec + 1#32)
  apply BitVec.eq_of_toNat_eq
  have h1 := x.toBitVec.isLt
  have h2 := y.toBitVec.isLt
  simp only [BitVec.toNat_sub, BitVec.toNat_add, BitVec.toNat_ofNat]
  omega
theorem su_0 {x : Int32} : x - nI 0 = x := Int32.sub_zero x
theorem su_c {f : Nat → Bool} {x : Int32} {k : Nat} (h : ¬ f k = false) : (x - nI (cB f k)) - nI 1 = x - nI (cB f (k + 1)) := by rw [cB_t (ts_nf h)]; exact su_1
theorem su_n {f : Nat → Bool} {x : Int32} {k : Nat} (h : f k = false) : (x - nI (cB f k)) - nI 0 = x - nI (cB f (k + 1)) := by rw [cB_f h, su_0]
theorem pl_t {vl iv : Nat → Nat} {kr : Int32} {opf : Nat → Bool} {rr n : Nat} (h : ¬ cnB vl iv kr opf rr n = false) (hw : wgI vl iv n (tp n rr) = 0) : ¬ plB vl iv kr opf rr n = false := by unfold plB; rw [ts_nf h, decide_eq_true hw]; decide
theorem pl_f {vl iv : Nat → Nat} {kr : Int32} {opf : Nat → Bool} {rr n : Nat} (hw : ¬ wgI vl iv n (tp n rr) = 0) : plB vl iv kr opf rr n = false := by unfold plB; rw [decide_eq_false hw, Bool.and_false]
theorem pl_0 {vl iv : Nat → Nat} {kr : Int32} {opf : Nat → Bool} {rr n : Nat} (h : cnB vl iv kr opf rr n = false) : plB vl iv kr opf rr n = false := by unfold plB; rw [h]; rfl
theorem lz_s {v n : Nat → Bool} {i : Nat} (h : ∀ j, j < i → v j = false ∧ n j = false) : ∀ j, j < i + 1 → upB v i false j = false ∧ upB n i false j = false := by
  intro j hj
  by_cases e : j = i
  · rw [e, upB_s, upB_s]; exact ⟨rfl, rfl⟩
  · rw [upB_n e, upB_n e]; exact h j (by omega)
theorem su_z {f : Nat → Bool} {x : Int32} (h : f 0 = false) : x - nI (cB f 1) = x := by rw [cB_f h]; exact su_0
