/-! minimal forbidden tuples -/
theorem rm_b : ∀ n, n < 64 → ∀ i, i < 6 → n.testBit i = true → ∀ q, q < 6 → (rmS n i).testBit q = (n.testBit q && !(q == i)) ∧ cn (rmS n i) q = if q ≤ i then cn n q else cn n q - 1 := by decide +kernel
theorem rm_c : ∀ n, n < 64 → ∀ i, i < 6 → n.testBit i = true → cn (rmS n i) 6 + 1 = cn n 6 := by decide +kernel
theorem rm_ux {n t i : Nat} (hn : n < 64) (hi : i < 6) (hb : n.testBit i = true) : ux n t &&& fo (rmS n i) 6 = ux (rmS n i) (rmD t (cn n i)) := by
  refine dg_ext (k := 6) (and_lt _ (ux_lt n t)) (ux_lt _ _) (fun p hp => ?_)
  obtain ⟨h1, h2⟩ := rm_b n hn i hi hb p hp
  rw [dg_and, dg_fo _ hp, and3b (dg_lt _ _), dg_ux _ _ hp, dg_ux _ _ hp, h1]
  cases hnp : n.testBit p
  · rfl
  · by_cases e : p = i
    · subst e
      rw [beq_self_eq_true]; rfl
    · rw [beq_false_of_ne e]
      show dg t (cn n p) = dg (rmD t (cn n i)) (cn (rmS n i) p)
      rw [dg_rm, h2]
      by_cases hpi : p ≤ i
      · have := cn_lt hnp (show p < i by omega)
        rw [if_pos hpi, if_pos this]
      · have := cn_lt hb (show i < p by omega)
        rw [if_neg hpi, if_neg (by omega), show cn n p - 1 + 1 = cn n p by omega]
theorem rmD_b {t k c : Nat} (hk : k < c) (hc : c ≤ 3) (ht : t < 4 ^ c) : rmD t k < 4 ^ (c - 1) := by
  unfold rmD
  rcases (show (c = 1 ∧ k = 0) ∨ (c = 2 ∧ k = 0) ∨ (c = 2 ∧ k = 1) ∨ (c = 3 ∧ k = 0) ∨ (c = 3 ∧ k = 1) ∨ (c = 3 ∧ k = 2) by omega) with ⟨rfl, rfl⟩ | ⟨rfl, rfl⟩ | ⟨rfl, rfl⟩ | ⟨rfl, rfl⟩ | ⟨rfl, rfl⟩ | ⟨rfl, rfl⟩ <;> simp only [Nat.reducePow, Nat.reduceAdd, Nat.reduceSub, Nat.pow_zero] at ht ⊢ <;> omega
theorem sumN_ext {f : Nat → Nat} {a : Nat} : ∀ {b : Nat}, a ≤ b → (∀ i, a ≤ i → i < b → f i = 0) → sumN f b = sumN f a
  | 0, h, _ => by rw [show a = 0 by omega]
  | b + 1, h, hf => by
    by_cases e : a = b + 1
    · rw [e]
    · show sumN f b + f b = _
      rw [hf b (by omega) (by omega), Nat.add_zero, sumN_ext (b := b) (by omega) (fun i h1 h2 => hf i h1 (by omega))]
section LK5
variable {P : Nat} {vl iv : Nat → Nat} {M : Nat → Bool} {vf : Nat → Bool}
theorem ls_mf (hP0 : ¬ P = 0) (hvf : ∀ i, i < 4096 → vf i = inV P (kkI P vl iv M) (nI 2) 4096 i) {n t : Nat} (hn : n < 64) (hnP : n < 2 ^ P) (h3 : cn n 6 ≤ 3) (ht : t < 4 ^ cn n 6) : ∀ k, k ≤ 6 → mfL (VV vl iv M) n (ux n t) k = lsB vf n t k
  | 0, _ => rfl
  | k + 1, hk => by
    show (mfL (VV vl iv M) n (ux n t) k && (!(n.testBit k) || anyR (VV vl iv M) (rmS n k) (ux n t &&& fo (rmS n k) 6))) = (lsB vf n t k && (!(n.testBit k) || vf (64 * rmS n k + rmD t (cn n k))))
    rw [ls_mf hP0 hvf hn hnP h3 ht k (by omega)]
    cases hb : n.testBit k
    · rw [Bool.not_false, Bool.true_or, Bool.true_or]
    · have hc := rm_c n hn k (by omega) hb
      have hl := rm_lt hn k
      have hle : rmS n k ≤ n := Nat.and_le_left
      have hk3 := cn_lt hb (show k < 6 by omega)
      have hd : rmD t (cn n k) < 4 ^ cn (rmS n k) 6 := by
        rw [show cn (rmS n k) 6 = cn n 6 - 1 by omega]
        exact rmD_b hk3 h3 ht
      have h64 : rmD t (cn n k) < 64 := Nat.lt_of_lt_of_le hd (p4le (b := 3) (by omega))
      rw [rm_ux hn (by omega) hb, any_V hP0 (by omega) (by omega) hd, hvf _ (by omega)]
theorem all_ok (hvl : ∀ p, p < 6 → 1 ≤ vl p ∧ vl p ≤ 4) (n t : Nat) : all6 vl (ux n t) 6 = okT vl n t 6 := by
  rw [Bool.eq_iff_iff, all6_iff, okT_iff]
  constructor
  · intro h p hp hb
    have := h p hp
    rw [dg_ux n t hp, hb] at this
    exact this
  · intro h p hp
    rw [dg_ux n t hp]
    cases hb : n.testBit p
    · exact (hvl p hp).1
    · exact h p hp hb
theorem fb_bl (hP0 : ¬ P = 0) (hvl : ∀ p, p < 6 → 1 ≤ vl p ∧ vl p ≤ 4) (hvf : ∀ i, i < 4096 → vf i = inV P (kkI P vl iv M) (nI 2) 4096 i) {n k : Nat} (hn : n < 64) (hnP : n < 2 ^ P) (hk : cn n 6 = k) (hk3 : k ≤ 3) : cB (mfF vl iv (VV vl iv M) n) (4 ^ cn n 6) = cB (fun t => fbR P vl iv vf k (64 * n + t)) 64 := by
  have h3 : cn n 6 ≤ 3 := by omega
  have h4 : 4 ^ cn n 6 ≤ 64 := p4le (b := 3) h3
  rw [cB_ext (f := fun t => fbR P vl iv vf k (64 * n + t)) (a := 4 ^ cn n 6) (b := 64) h4 (fun t h1 h2 => by
    show fbR P vl iv vf k (64 * n + t) = false
    have hw : wgI vl iv n t = -1 := by unfold wgI; rw [if_neg (fun z => by omega)]
    apply fr_b
    rw [show (64 * n + t) / 64 = n by omega, show (64 * n + t) % 64 = t by omega, hw]; decide)]
  apply cB_congr
  intro t ht
  have h64 : t < 64 := by omega
  unfold mfF mfB fbR
  rw [show (64 * n + t) / 64 = n by omega, show (64 * n + t) % 64 = t by omega, hk, beq_self_eq_true, Bool.true_and, ls_mf hP0 hvf hn hnP h3 ht 6 (by decide), any_V hP0 h3 hnP ht, hvf _ (by omega), all_ok hvl]
  cases hok : okT vl n t 6
  · have hw : wgI vl iv n t = -1 := by unfold wgI; rw [if_neg (fun z => by rw [hok] at z; exact Bool.noConfusion z.2)]
    rw [hw, decide_eq_false (by decide), Bool.false_and, Bool.false_and]
  · have hw : wgI vl iv n t = nI (wT iv n t 6) := by unfold wgI; rw [if_pos ⟨ht, hok⟩]
    have hwl := wT_le iv n t 6
    rw [hw, Bool.true_and]
    by_cases h0 : wT iv n t 6 = 0
    · rw [(ivs_0 n t).mpr h0, h0, beq_self_eq_true, decide_eq_true (show nI 0 = 0 from rfl)]
    · rw [beq_false_of_ne (fun z => h0 ((ivs_0 n t).mp z)), decide_eq_false (fun z => h0 ((n_z (by omega)).mp z))]
theorem isS_n {P n : Nat} (hP6 : P ≤ 6) (hn : n < 64) : isS P (nI n) = decide (0 < n ∧ n < 2 ^ P) := by
  have h64 := pw2le hP6
  by_cases h : 0 < n ∧ n < 2 ^ P
  · rw [decide_eq_true h]
    exact decide_eq_true ⟨fun z => by rw [n_le0 (by omega)] at z; omega, fun z => by rw [nI_leI (by omega) (by omega)] at z; omega⟩
  · rw [decide_eq_false h]
    apply decide_eq_false
    rintro ⟨h1, h2⟩
    rw [n_le0 (by omega)] at h1
    rw [nI_leI (by omega) (by omega)] at h2
    exact h (by omega)
theorem fb_sum (hP6 : P ≤ 6) (hvl : ∀ p, p < 6 → 1 ≤ vl p ∧ vl p ≤ 4) (hvf : ∀ i, i < 4096 → vf i = inV P (kkI P vl iv M) (nI 2) 4096 i) {k : Nat} (hk1 : 1 ≤ k) (hk3 : k ≤ 3) : sumN (fbF P vl iv (VV vl iv M) k) 64 = cB (fbR P vl iv vf k) (64 * 2 ^ P) := by
  have h64 := pw2le hP6
  rw [cB_bl, sumN_ext (f := fbF P vl iv (VV vl iv M) k) (a := 2 ^ P) (b := 64) h64 (fun n h1 h2 => by
    unfold fbF
    rw [isS_n hP6 h2, decide_eq_false (by omega)]; rfl)]
  apply sumN_congr
  intro n hn
  unfold fbF
  rw [isS_n hP6 (by omega)]
  by_cases hk : cn n 6 = k
  · have h0 : 0 < n := by
      rcases Nat.eq_zero_or_pos n with e | e
      · rw [e, cn_0] at hk; omega
      · exact e
    have hP0 : ¬ P = 0 := fun e => by rw [e, Nat.pow_zero] at hn; omega
    rw [decide_eq_true ⟨h0, hn⟩, hk, beq_self_eq_true]
    show cB (mfF vl iv (VV vl iv M) n) (4 ^ k) = _
    rw [← fb_bl hP0 hvl hvf (by omega) hn hk hk3, hk]
  · rw [beq_false_of_ne hk, Bool.and_false]
    show 0 = _
    exact (cB_zero.mpr (fun t ht => fr_a (by rw [show (64 * n + t) / 64 = n by omega]; exact hk))).symm
end LK5
