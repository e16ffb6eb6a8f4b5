/-! the reference's ways to say the same -/
def ba (g : Nat → Bool) : Nat → Int32 := fun j => bI (g j)
def rv (P : Nat) (vl : Nat → Nat) (j : Nat) : Nat := if j < P then vl j else 0
theorem cn_b (n i : Nat) : (n / 2 ^ i) &&& 1 = cond (n.testBit i) 1 0 := by
  have h : (n / 2 ^ i) &&& 1 = n / 2 ^ i % 2 := Nat.and_one_is_mod _
  rw [h, Nat.testBit_eq_decide_div_mod_eq]
  generalize n / 2 ^ i = z
  by_cases e : z % 2 = 1
  · rw [e]; rfl
  · rw [decide_eq_false e]; show z % 2 = 0; omega
theorem cn_step (n i : Nat) : nI (cn n i) + nI ((n / 2 ^ i) &&& 1) = nI (cn n (i + 1)) := by rw [cn_b, nI_add]; rfl
theorem tb_1 {n i : Nat} : nI ((n / 2 ^ i) &&& 1) = nI 1 ↔ n.testBit i = true := by
  rw [cn_b]
  cases n.testBit i <;> decide
theorem tpU_or {n r i : Nat} (h : n.testBit i = true) : tpU n r i ||| dg r i * 2 ^ (2 * cn n i) = tpU n r (i + 1) := by
  have h1 : tpU n r i < 2 ^ (2 * cn n i) := by rw [p24]; exact tpU_lt n r i
  have h2 := Nat.shiftLeft_add_eq_or_of_lt h1 (dg r i)
  rw [Nat.shiftLeft_eq] at h2
  rw [Nat.or_comm, ← h2, tpU_t h, p24, Nat.add_comm]
theorem cn_s2 {n i : Nat} (h : n.testBit i = true) : 2 * cn n i + 2 = 2 * cn n (i + 1) := by rw [cn_t h]; omega
/-! a place of the reference: the set n, the packed digits t -/
def okT (vl : Nat → Nat) (n t : Nat) : Nat → Bool
  | 0 => true
  | k + 1 => okT vl n t k && (!(n.testBit k) || decide (dg t (cn n k) < vl k))
def wT (iv : Nat → Nat) (n t : Nat) (k : Nat) : Nat := cB (fun p => n.testBit p && (iv p).testBit (dg t (cn n p))) k
def wgI (vl iv : Nat → Nat) (n t : Nat) : Int32 := if t < 4 ^ cn n 6 ∧ okT vl n t 6 = true then nI (wT iv n t 6) else -1
theorem okT_iff {vl : Nat → Nat} {n t : Nat} : ∀ {k : Nat}, okT vl n t k = true ↔ ∀ p, p < k → n.testBit p = true → dg t (cn n p) < vl p
  | 0 => ⟨fun _ p hp => absurd hp (Nat.not_lt_zero _), fun _ => rfl⟩
  | k + 1 => by
    show (okT vl n t k && (!(n.testBit k) || decide (dg t (cn n k) < vl k))) = true ↔ _
    rw [Bool.and_eq_true, okT_iff, Bool.or_eq_true, Bool.not_eq_true', decide_eq_true_iff]
    constructor
    · rintro ⟨h1, h2⟩ p hp hb
      by_cases e : p = k
      · subst e
        rcases h2 with h2 | h2
        · rw [h2] at hb; cases hb
        · exact h2
      · exact h1 p (by omega) hb
    · intro h
      refine ⟨fun p hp hb => h p (by omega) hb, ?_⟩
      cases hb : n.testBit k
      · exact Or.inl rfl
      · exact Or.inr (h k (by omega) hb)
theorem wT_le (iv : Nat → Nat) (n t k : Nat) : wT iv n t k ≤ k := cB_le _ k
/-- the digit k taken out -/
def rmD (t k : Nat) : Nat := t / 4 ^ (k + 1) * 4 ^ k + t % 4 ^ k
theorem dg_mod {t k p : Nat} (h : p < k) : dg (t % 4 ^ k) p = dg t p := by
  unfold dg
  obtain ⟨c, rfl⟩ : ∃ c, k = p + (c + 1) := ⟨k - p - 1, by omega⟩
  rw [Nat.pow_add, Nat.mod_mul_right_div_self, Nat.pow_succ', Nat.mod_mul_right_mod]
theorem dg_div (t k p : Nat) : dg (t / 4 ^ k) p = dg t (k + p) := by
  unfold dg
  rw [Nat.div_div_eq_div_mul, ← Nat.pow_add]
theorem dg_lift {a b k p : Nat} (hb : b < 4 ^ k) : dg (a * 4 ^ k + b) p = if p < k then dg b p else dg a (p - k) := by
  by_cases h : p < k
  · rw [if_pos h]
    have e : b = (a * 4 ^ k + b) % 4 ^ k := by rw [Nat.mul_comm, Nat.mul_add_mod, Nat.mod_eq_of_lt hb]
    exact (dg_mod h).symm.trans (congrArg (fun z => dg z p) e.symm)
  · rw [if_neg h]
    have e : (a * 4 ^ k + b) / 4 ^ k = a := by rw [Nat.mul_comm, Nat.mul_add_div (p4 k), Nat.div_eq_of_lt hb, Nat.add_zero]
    have := dg_div (a * 4 ^ k + b) k (p - k)
    rw [e, show k + (p - k) = p by omega] at this
    exact this.symm
theorem dg_rm (t k p : Nat) : dg (rmD t k) p = if p < k then dg t p else dg t (p + 1) := by
  unfold rmD
  rw [dg_lift (Nat.mod_lt _ (p4 k))]
  by_cases h : p < k
  · rw [if_pos h, if_pos h, dg_mod h]
  · rw [if_neg h, if_neg h, dg_div, show k + 1 + (p - k) = p + 1 by omega]
