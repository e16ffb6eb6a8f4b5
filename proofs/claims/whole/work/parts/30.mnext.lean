/-! the reference's gain, search, least tuples, partial rows -/
def gaR (on : Bool) (kk : Nat → Int32) (g : Nat → Nat) (x : Int32) : Int32 := bif on then (bif decide (¬ x < 0 ∧ ¬ nI 4095 < x ∧ 0 < kk x.toNatClampNeg) then nI (g x.toNatClampNeg) else -2) else -1
theorem gr_on {on : Bool} {kk : Nat → Int32} {g : Nat → Nat} {x : Int32} (h : on = false) : -1 = gaR on kk g x := by unfold gaR; rw [h]; rfl
theorem gr_a {on : Bool} {kk : Nat → Int32} {g : Nat → Nat} {x : Int32} (h : ¬ on = false) (h1 : x < 0) : -2 = gaR on kk g x := by unfold gaR; rw [ts_nf h, decide_eq_false (fun z => z.1 h1)]; rfl
theorem gr_b {on : Bool} {kk : Nat → Int32} {g : Nat → Nat} {x : Int32} (h : ¬ on = false) (h1 : nI 4095 < x) : -2 = gaR on kk g x := by unfold gaR; rw [ts_nf h, decide_eq_false (fun z => z.2.1 h1)]; rfl
theorem gr_c {on : Bool} {kk : Nat → Int32} {g : Nat → Nat} {n : Nat} (h : ¬ on = false) (hn : n < 4096) (h1 : ¬ 0 < kk n) : -2 = gaR on kk g (nI n) := by unfold gaR; rw [ts_nf h, nI_clamp (by omega), decide_eq_false (fun z => h1 z.2.2)]; rfl
theorem gr_1 {on : Bool} {kk : Nat → Int32} {g : Nat → Nat} {n : Nat} (h : ¬ on = false) (hn : n < 4096) (h1 : 0 < kk n) : nI (g n) = gaR on kk g (nI n) := by
  unfold gaR
  rw [ts_nf h, nI_clamp (by omega), decide_eq_true ⟨nI_pos (by omega), fun z => by rw [nI_ltI (by decide) (by omega)] at z; omega, h1⟩]; rfl
theorem kn_of2 {x : Int32} (h1 : ¬ x < 0) (h2 : ¬ nI 4095 < x) : ∃ n, n < 4096 ∧ x = nI n := by
  obtain ⟨n, hn, rfl⟩ := nI_of h1
  rw [nI_ltI (by decide) hn] at h2
  exact ⟨n, by omega, rfl⟩
def bsQ (R : Nat → Bool) (g : Nat → Nat) (k : Nat) (b : Option Nat) : Prop := match b with
  | none => ∀ s, s < k → R s = false
  | some b => b < k ∧ R b = true ∧ ∀ s, s < k → R s = true → g s ≤ g b ∧ (s < b → g s < g b)
def mI (g : Nat → Nat) (b : Option Nat) : Int32 := match b with
  | none => -1
  | some b => nI (g b)
theorem bq_0 {R : Nat → Bool} {g : Nat → Nat} : bsQ R g 0 none := fun s hs => absurd hs (Nat.not_lt_zero _)
theorem bq_no {R : Nat → Bool} {g : Nat → Nat} {k : Nat} {b : Option Nat} (h : bsQ R g k b) (hR : R k = false) : bsQ R g (k + 1) b := by
  cases b with
  | none =>
    intro s hs
    by_cases e : s = k
    · rw [e]; exact hR
    · exact h s (by omega)
  | some b =>
    obtain ⟨h1, h2, h3⟩ := h
    refine ⟨by omega, h2, fun s hs hRs => ?_⟩
    by_cases e : s = k
    · rw [e, hR] at hRs; cases hRs
    · exact h3 s (by omega) hRs
theorem bq_le {R : Nat → Bool} {g : Nat → Nat} {k : Nat} {b : Option Nat} (hg : ∀ s, g s < 2 ^ 31) (h : bsQ R g k b) (hl : nI (g k) ≤ mI g b) : bsQ R g (k + 1) b := by
  cases b with
  | none => exact absurd hl (fun z => by
      have h1 : (0 : Int32) ≤ nI (g k) := nI_pos' (hg k)
      have z : nI (g k) ≤ -1 := z
      rw [Int32.le_iff_toInt_le] at h1 z
      have e1 : (0 : Int32).toInt = 0 := by decide
      have e2 : (-1 : Int32).toInt = -1 := by decide
      omega)
  | some b =>
    have hl : nI (g k) ≤ nI (g b) := hl
    rw [nI_leI (hg _) (hg _)] at hl
    obtain ⟨h1, h2, h3⟩ := h
    refine ⟨by omega, h2, fun s hs hRs => ?_⟩
    by_cases e : s = k
    · subst e; exact ⟨hl, fun z => by omega⟩
    · exact h3 s (by omega) hRs
theorem bq_new {R : Nat → Bool} {g : Nat → Nat} {k : Nat} {b : Option Nat} (hg : ∀ s, g s < 2 ^ 31) (h : bsQ R g k b) (hR : R k = true) (hl : ¬ nI (g k) ≤ mI g b) : bsQ R g (k + 1) (some k) := by
  refine ⟨Nat.lt_succ_self _, hR, fun s hs hRs => ?_⟩
  by_cases e : s = k
  · subst e; exact ⟨Nat.le_refl _, fun z => absurd z (Nat.lt_irrefl _)⟩
  · cases b with
    | none => have := h s (by omega); rw [hRs] at this; cases this
    | some b =>
      have hl : ¬ nI (g k) ≤ nI (g b) := hl
      rw [nI_leI (hg _) (hg _)] at hl
      have := (h.2.2 s (by omega) hRs).1
      exact ⟨by omega, fun _ => by omega⟩
theorem bq_some {R : Nat → Bool} {g : Nat → Nat} {b : Option Nat} (h : bsQ R g 4096 b) (he : ∃ s, s < 4096 ∧ R s = true) : ∃ n, b = some n ∧ n < 4096 ∧ R n = true := by
  obtain ⟨s, hs, hR⟩ := he
  cases b with
  | none => have := h s hs; rw [hR] at this; cases this
  | some b => exact ⟨b, rfl, h.1, h.2.1⟩
/-! least tuples -/
theorem rm_n : ∀ n, n < 64 → ∀ i, i < 6 → nI n &&& (nI (1 * 2 ^ i) ^^^ (-1)) = nI (rmS n i) := by decide +kernel
def lsB (vf : Nat → Bool) (n t : Nat) : Nat → Bool
  | 0 => true
  | i + 1 => lsB vf n t i && (!(n.testBit i) || vf (64 * rmS n i + rmD t (cn n i)))
theorem ls_f {vf : Nat → Bool} {n t i : Nat} (h : n.testBit i = false) : lsB vf n t (i + 1) = lsB vf n t i := by
  show (lsB vf n t i && (!(n.testBit i) || vf (64 * rmS n i + rmD t (cn n i)))) = _
  rw [h, Bool.not_false, Bool.true_or, Bool.and_true]
theorem ls_0 {vf : Nat → Bool} {n t i : Nat} (h : lsB vf n t i = false) : lsB vf n t (i + 1) = false := by
  show (lsB vf n t i && (!(n.testBit i) || vf (64 * rmS n i + rmD t (cn n i)))) = _
  rw [h, Bool.false_and]
theorem ls_1 {vf : Nat → Bool} {n t i : Nat} (hb : n.testBit i = true) (h : vf (64 * rmS n i + rmD t (cn n i)) = false) : lsB vf n t (i + 1) = false := by
  show (lsB vf n t i && (!(n.testBit i) || vf (64 * rmS n i + rmD t (cn n i)))) = _
  rw [hb, h, Bool.not_true, Bool.or_false, Bool.and_false]
theorem ls_t {vf : Nat → Bool} {n t i : Nat} (h0 : ¬ lsB vf n t i = false) (h : ¬ vf (64 * rmS n i + rmD t (cn n i)) = false) : lsB vf n t (i + 1) = true := by
  show (lsB vf n t i && (!(n.testBit i) || vf (64 * rmS n i + rmD t (cn n i)))) = _
  rw [ts_nf h0, ts_nf h, Bool.or_true]; rfl
theorem an_lo {t k : Nat} : nI t &&& nI (1 * 2 ^ (2 * k) - 1) = nI (t % 4 ^ k) := by
  rw [nx_and, Nat.one_mul, Nat.and_two_pow_sub_one_eq_mod, p24]
theorem rm_or {t k : Nat} : t / 4 ^ (k + 1) * 2 ^ (2 * k) ||| t % 4 ^ k = rmD t k := by
  unfold rmD
  have h1 : t % 4 ^ k < 2 ^ (2 * k) := by rw [p24]; exact Nat.mod_lt _ (p4 k)
  have h2 := Nat.shiftLeft_add_eq_or_of_lt h1 (t / 4 ^ (k + 1))
  rw [Nat.shiftLeft_eq] at h2
  rw [← h2, p24]
theorem rmD_lt {t k : Nat} (ht : t < 64) (hk : k < 3) : rmD t k < 64 := by
  unfold rmD
  rcases (show k = 0 ∨ k = 1 ∨ k = 2 by omega) with rfl | rfl | rfl <;> omega
theorem cn_in {n i : Nat} (h3 : cn n 6 ≤ 3) (hi : i < 6) (h : n.testBit i = true) : cn n i < 3 := by
  have := cn_lt h hi
  omega
def fbR (P : Nat) (vl iv : Nat → Nat) (vf : Nat → Bool) (k i : Nat) : Bool := (cn (i / 64) 6 == k) && (decide (wgI vl iv (i / 64) (i % 64) = 0) && (!(vf i) && lsB vf (i / 64) (i % 64) 6))
theorem fr_a {P k i : Nat} {vl iv : Nat → Nat} {vf : Nat → Bool} (h : ¬ cn (i / 64) 6 = k) : fbR P vl iv vf k i = false := by unfold fbR; rw [beq_false_of_ne h]; rfl
theorem fr_b {P k i : Nat} {vl iv : Nat → Nat} {vf : Nat → Bool} (h : ¬ wgI vl iv (i / 64) (i % 64) = 0) : fbR P vl iv vf k i = false := by unfold fbR; rw [decide_eq_false h, Bool.false_and, Bool.and_false]
theorem fr_c {P k i : Nat} {vl iv : Nat → Nat} {vf : Nat → Bool} (h : ¬ vf i = false) : fbR P vl iv vf k i = false := by unfold fbR; rw [ts_nf h, Bool.not_true, Bool.false_and, Bool.and_false, Bool.and_false]
theorem fr_d {P k i : Nat} {vl iv : Nat → Nat} {vf : Nat → Bool} (h : lsB vf (i / 64) (i % 64) 6 = false) : fbR P vl iv vf k i = false := by unfold fbR; rw [h, Bool.and_false, Bool.and_false, Bool.and_false]
theorem fr_1 {P k i : Nat} {vl iv : Nat → Nat} {vf : Nat → Bool} (h1 : cn (i / 64) 6 = k) (h2 : wgI vl iv (i / 64) (i % 64) = 0) (h3 : vf i = false) (h4 : ¬ lsB vf (i / 64) (i % 64) 6 = false) : ¬ fbR P vl iv vf k i = false := by unfold fbR; rw [h1, beq_self_eq_true, decide_eq_true h2, h3, ts_nf h4]; decide
theorem cB_add1 {f : Nat → Bool} {k : Nat} (h : ¬ f k = false) : nI (cB f k) + nI 1 = nI (cB f (k + 1)) := by rw [cB_t (ts_nf h), nI_add]
/-! partial rows -/
def ftB (v r : Nat) : Nat → Bool
  | 0 => true
  | i + 1 => ftB v r i && (oc v i == 7 || dg r i == oc v i)
theorem ft_0 {v r i : Nat} (h : ftB v r i = false) : ftB v r (i + 1) = false := by show (ftB v r i && _) = false; rw [h]; rfl
theorem ft_7 {v r i : Nat} (h : ¬ ftB v r i = false) (h7 : oc v i = 7) : ftB v r (i + 1) = true := by show (ftB v r i && (oc v i == 7 || dg r i == oc v i)) = true; rw [ts_nf h, h7]; rfl
theorem ft_e {v r i : Nat} (h : ¬ ftB v r i = false) (he : dg r i = oc v i) : ftB v r (i + 1) = true := by show (ftB v r i && (oc v i == 7 || dg r i == oc v i)) = true; rw [ts_nf h, he, beq_self_eq_true, Bool.or_true]; rfl
theorem ft_n {v r i : Nat} (h7 : ¬ oc v i = 7) (he : ¬ dg r i = oc v i) : ftB v r (i + 1) = false := by show (ftB v r i && (oc v i == 7 || dg r i == oc v i)) = false; rw [beq_false_of_ne h7, beq_false_of_ne he, Bool.or_false, Bool.and_false]
def mxE (kk : Nat → Int32) (f : Nat → Bool) : Nat → Int32
  | 0 => nI 0
  | k + 1 => bif f k && decide (¬ kk k ≤ mxE kk f k) then kk k else mxE kk f k
theorem mx_f {kk : Nat → Int32} {f : Nat → Bool} {k : Nat} (h : f k = false) : mxE kk f (k + 1) = mxE kk f k := by show (bif f k && _ then _ else _) = _; rw [h]; rfl
theorem mx_l {kk : Nat → Int32} {f : Nat → Bool} {k : Nat} (h : kk k ≤ mxE kk f k) : mxE kk f (k + 1) = mxE kk f k := by show (bif f k && decide (¬ kk k ≤ mxE kk f k) then _ else _) = _; rw [decide_eq_false (fun z => z h), Bool.and_false]; rfl
theorem mx_t {kk : Nat → Int32} {f : Nat → Bool} {k : Nat} (hf : ¬ f k = false) (h : ¬ kk k ≤ mxE kk f k) : mxE kk f (k + 1) = kk k := by show (bif f k && decide (¬ kk k ≤ mxE kk f k) then _ else _) = _; rw [ts_nf hf, decide_eq_true h]; rfl
def exR (P : Nat) (vl : Nat → Nat) (kk : Nat → Int32) (v : Nat) : Int32 := bif exK vl v P then mxE kk (fun r => ftB v r P) 4096 else -1
def erX (P : Nat) (vl : Nat → Nat) (kk : Nat → Int32) (x : Int32) : Int32 := bif exT P x then exR P vl kk x.toNatClampNeg else -1
theorem er_P0 {P : Nat} {vl : Nat → Nat} {kk : Nat → Int32} {x : Int32} (h : P = 0) : -1 = erX P vl kk x := by unfold erX exT; rw [decide_eq_false (fun z => z.1 h)]; rfl
theorem er_a {P : Nat} {vl : Nat → Nat} {kk : Nat → Int32} {x : Int32} (h : x < 0) : -1 = erX P vl kk x := by unfold erX exT; rw [decide_eq_false (fun z => z.2.1 h)]; rfl
theorem er_b {P : Nat} {vl : Nat → Nat} {kk : Nat → Int32} {x : Int32} (h : ¬ x < nI (1 * 2 ^ (3 * P))) : -1 = erX P vl kk x := by
  rw [Nat.one_mul, show 2 ^ (3 * P) = 8 ^ P from Nat.pow_mul ..] at h
  unfold erX exT; rw [decide_eq_false (fun z => h z.2.2)]; rfl
theorem er_of {P : Nat} {x : Int32} (hP : P ≤ 6) (h1 : ¬ x < 0) (h2 : x < nI (1 * 2 ^ (3 * P))) : ∃ v, v < 8 ^ P ∧ x = nI v := by
  rw [Nat.one_mul, show 2 ^ (3 * P) = 8 ^ P from Nat.pow_mul ..] at h2
  exact ex_of hP ⟨h1, h2⟩
theorem er_v {P v : Nat} {vl : Nat → Nat} {kk : Nat → Int32} (hP : P ≤ 6) (h0 : ¬ P = 0) (hv : v < 8 ^ P) : erX P vl kk (nI v) = exR P vl kk v := by
  have h8 := p8 hP
  unfold erX exT
  rw [nI_clamp (by omega), decide_eq_true ⟨h0, nI_pos (by omega), (nI_ltI (by omega) (by omega)).mpr hv⟩]; rfl
theorem pw8 {P : Nat} (h : P ≤ 6) : 1 * 2 ^ (3 * P) < 2 ^ 32 := by
  rw [Nat.one_mul, show 2 ^ (3 * P) = 8 ^ P from Nat.pow_mul ..]
  have := p8 h
  omega
theorem nle_lt {x : Int32} (h : x ≤ 0) : ¬ 0 < x := fun z => by rw [Int32.le_iff_toInt_le] at h; rw [Int32.lt_iff_toInt_lt] at z; omega
theorem nle_gt {x : Int32} (h : ¬ x ≤ 0) : 0 < x := by rw [Int32.le_iff_toInt_le] at h; rw [Int32.lt_iff_toInt_lt]; omega
