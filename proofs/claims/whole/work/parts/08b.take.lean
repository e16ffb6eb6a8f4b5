/-! the rows that hold a tuple, one behind another: the parameters outside of n run -/
theorem cm_b : ∀ P, P < 7 → ∀ n, n < 2 ^ P → ∀ p, p < 6 → (2 ^ P - 1 - n).testBit p = (decide (p < P) && !(n.testBit p)) := by decide +kernel
theorem cm_fr : ∀ P, P < 7 → ∀ n, n < 2 ^ P → nI (4 ^ P - 1) &&& (nI (fo n 6) ^^^ (-1)) = nI (fo (2 ^ P - 1 - n) 6) := by decide +kernel
theorem al_fo : ∀ P, P < 7 → 4 ^ P - 1 = fo (2 ^ P - 1) 6 := by decide +kernel
def ot (r n m j : Nat) : Nat := (r &&& fo n 6) ||| ux m j
theorem and3b {b : Bool} {d : Nat} (hd : d < 4) : d &&& cond b 3 0 = cond b d 0 := by
  cases b
  · exact Nat.and_zero _
  · exact and3 _ hd
theorem dg_ot (r n m j : Nat) {p : Nat} (hp : p < 6) : dg (ot r n m j) p = cond (n.testBit p) (dg r p) 0 ||| cond (m.testBit p) (dg j (cn m p)) 0 := by
  unfold ot
  rw [dg_or, dg_and, dg_fo n hp, dg_ux m j hp, and3b (dg_lt r p)]
theorem ot_lt (r n m j : Nat) (hr : r < 4096) : ot r n m j < 4096 := Nat.or_lt_two_pow (n := 12) (Nat.lt_of_le_of_lt Nat.and_le_left hr) (ux_lt m j)
theorem dg_P0 {r P p : Nat} (hr : r < 4 ^ P) (h : P ≤ p) : dg r p = 0 := dg_big (Nat.lt_of_lt_of_le hr (p4le h))
theorem lt_P {r P : Nat} (hr : r < 4096) (h : ∀ p, P ≤ p → p < 6 → dg r p = 0) : r < 4 ^ P := by
  apply Classical.byContradiction
  intro hge
  by_cases hP : P ≤ 6
  · obtain ⟨p, h1, h2, h3⟩ := dg_top (P := P) (by omega) hr hP
    exact h3 (h p h1 h2)
  · have : 4 ^ 6 ≤ 4 ^ P := p4le (by omega)
    omega
theorem ot_P {P r n j : Nat} (hP : P < 7) (hn : n < 2 ^ P) (hr : r < 4 ^ P) : ot r n (2 ^ P - 1 - n) j < 4 ^ P := by
  have h6 : 4 ^ P ≤ 4096 := p4le (b := 6) (by omega)
  refine lt_P (ot_lt _ _ _ _ (by omega)) (fun p h1 h2 => ?_)
  rw [dg_ot _ _ _ _ h2, cm_b P hP n hn p h2, dg_P0 hr h1, decide_eq_false (by omega), Bool.false_and]
  cases n.testBit p <;> exact Nat.or_zero 0
theorem ot_iff {P r s n j : Nat} (hP : P < 7) (hn : n < 2 ^ P) (hr : r < 4 ^ P) (hs : s < 4 ^ P) (hj : j < 4 ^ cn (2 ^ P - 1 - n) 6) : s = ot r n (2 ^ P - 1 - n) j ↔ tp n s = tp n r ∧ tp (2 ^ P - 1 - n) s = j := by
  have h6 : 4 ^ P ≤ 4096 := p4le (b := 6) (by omega)
  rw [tp_eq, tp_iff hj]
  constructor
  · intro h
    constructor
    · intro p hp hb
      rw [h, dg_ot _ _ _ _ hp, cm_b P hP n hn p hp, hb, Bool.not_true, Bool.and_false]
      exact Nat.or_zero _
    · intro p hp hb
      have hb2 := hb
      rw [cm_b P hP n hn p hp, Bool.and_eq_true, Bool.not_eq_true'] at hb2
      rw [h, dg_ot _ _ _ _ hp, hb, hb2.2]
      exact Nat.zero_or _
  · rintro ⟨h1, h2⟩
    refine dg_ext (k := 6) (show s < 4096 by omega) (ot_lt _ _ _ _ (by omega)) (fun p hp => ?_)
    rw [dg_ot _ _ _ _ hp]
    cases hb : n.testBit p
    · cases hm : (2 ^ P - 1 - n).testBit p
      · have hm2 := hm
        rw [cm_b P hP n hn p hp, hb, Bool.not_false, Bool.and_true, decide_eq_false_iff_not] at hm2
        rw [dg_P0 hs (by omega)]
        exact (Nat.or_zero 0).symm
      · rw [h2 p hp hm]
        exact (Nat.zero_or _).symm
    · have hm : (2 ^ P - 1 - n).testBit p = false := by rw [cm_b P hP n hn p hp, hb, Bool.not_true, Bool.and_false]
      rw [h1 p hp hb, hm]
      exact (Nat.or_zero _).symm
/-! the class's own place of a tuple -/
def pc6 (n r : Nat) : Nat → Nat
  | 0 => 0
  | i + 1 => cond (n.testBit i) (pc6 n r i * 4 + dg r i) (pc6 n r i)
theorem pc6_t {n r i : Nat} (h : n.testBit i = true) : pc6 n r (i + 1) = pc6 n r i * 4 + dg r i := by show cond (n.testBit i) _ _ = _; rw [h]; rfl
theorem pc6_f {n r i : Nat} (h : n.testBit i = false) : pc6 n r (i + 1) = pc6 n r i := by show cond (n.testBit i) _ _ = _; rw [h]; rfl
theorem pc6_lt (n r : Nat) : ∀ i, pc6 n r i < 4 ^ cn n i
  | 0 => by show 0 < 1; decide
  | i + 1 => by
    have h := pc6_lt n r i
    have hd := dg_lt r i
    cases hb : n.testBit i
    · rw [pc6_f hb, cn_f hb]; exact h
    · rw [pc6_t hb, cn_t hb, Nat.pow_succ]; omega
theorem pc6_eq {n r s : Nat} : ∀ {i : Nat}, pc6 n r i = pc6 n s i ↔ ∀ p, p < i → n.testBit p = true → dg r p = dg s p
  | 0 => ⟨fun _ p hp => absurd hp (Nat.not_lt_zero _), fun _ => rfl⟩
  | i + 1 => by
    have h1 := dg_lt r i
    have h2 := dg_lt s i
    have ih := pc6_eq (n := n) (r := r) (s := s) (i := i)
    cases hb : n.testBit i
    · rw [pc6_f hb, pc6_f hb, ih]
      constructor
      · intro h p hp hbp
        by_cases e : p = i
        · subst e; rw [hb] at hbp; cases hbp
        · exact h p (by omega) hbp
      · intro h p hp hbp; exact h p (by omega) hbp
    · rw [pc6_t hb, pc6_t hb]
      constructor
      · intro h p hp hbp
        by_cases e : p = i
        · subst e; omega
        · exact ih.mp (by omega) p (by omega) hbp
      · intro h
        rw [ih.mpr (fun p hp hbp => h p (by omega) hbp), h i (by omega) hb]
theorem pc6_tp {n r s : Nat} : (pc6 n r 6 == pc6 n s 6) = (tp n r == tp n s) := by
  rw [Bool.eq_iff_iff, beq_iff_eq, beq_iff_eq, pc6_eq, tp_eq]
/-! the best row -/
def bsP (R : Nat → Bool) (g : Nat → Nat) (k : Nat) (b : Option Nat) : Prop := match b with
  | none => ∀ s, s < k → R s = true → g s = 0
  | some b => b < k ∧ R b = true ∧ 0 < g b ∧ ∀ s, s < k → R s = true → g s ≤ g b ∧ (s < b → g s < g b)
def mst (g : Nat → Nat) (b : Option Nat) : Nat := match b with
  | none => 0
  | some b => g b
theorem bs_0 {R : Nat → Bool} {g : Nat → Nat} : bsP R g 0 none := fun s hs => absurd hs (Nat.not_lt_zero _)
theorem bs_new {R : Nat → Bool} {g : Nat → Nat} {k : Nat} {b : Option Nat} (h : bsP R g k b) (hR : R k = true) (hg : mst g b < g k) : bsP R g (k + 1) (some k) := by
  have hm : ∀ s, s < k → R s = true → g s < g k := by
    intro s hs hRs
    cases b with
    | none => have := h s hs hRs; have hg : 0 < g k := hg; omega
    | some b => have := (h.2.2.2 s hs hRs).1; have hg : g b < g k := hg; omega
  refine ⟨Nat.lt_succ_self _, hR, by omega, fun s hs hRs => ?_⟩
  by_cases e : s = k
  · subst e; exact ⟨Nat.le_refl _, fun z => absurd z (Nat.lt_irrefl _)⟩
  · have := hm s (by omega) hRs
    exact ⟨by omega, fun _ => this⟩
theorem bs_no {R : Nat → Bool} {g : Nat → Nat} {k : Nat} {b : Option Nat} (h : bsP R g k b) (hn : R k = true → g k ≤ mst g b) : bsP R g (k + 1) b := by
  cases b with
  | none =>
    intro s hs hRs
    by_cases e : s = k
    · subst e; have : g s ≤ 0 := hn hRs; omega
    · exact h s (by omega) hRs
  | some b =>
    obtain ⟨h1, h2, h3, h4⟩ := h
    refine ⟨by omega, h2, h3, fun s hs hRs => ?_⟩
    by_cases e : s = k
    · subst e; exact ⟨hn hRs, fun z => by omega⟩
    · exact h4 s (by omega) hRs
