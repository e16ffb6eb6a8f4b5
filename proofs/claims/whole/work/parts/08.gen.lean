/-! kinds of rows -/
def wrg (iv : Nat → Nat) (r k : Nat) : Nat := cB (fun p => (iv p).testBit (dg r p)) k
theorem sb_1 (w : Nat) : (w + 1 == 1) = (w == 0) := by
  rw [Bool.eq_iff_iff, beq_iff_eq, beq_iff_eq]
  omega
theorem sb_0 (w : Nat) : (w + 1 == 0) = false := beq_false_of_ne (Nat.succ_ne_zero _)
theorem vK_eq (vl iv : Nat → Nat) (M : Nat → Bool) (r : Nat) : ∀ k, vK vl iv M r k = (M r && (all6 vl r k && (wrg iv r k == 0)))
  | 0 => by show M r = (M r && (true && true)); rw [Bool.and_true, Bool.and_true]
  | k + 1 => by
    show (vK vl iv M r k && (decide (dg r k < vl k) && !((iv k).testBit (dg r k)))) = (M r && ((all6 vl r k && decide (dg r k < vl k)) && (wrg iv r k + cond ((iv k).testBit (dg r k)) 1 0 == 0)))
    rw [vK_eq vl iv M r k]
    cases (iv k).testBit (dg r k)
    · show ((M r && (all6 vl r k && (wrg iv r k == 0))) && (decide (dg r k < vl k) && true)) = (M r && ((all6 vl r k && decide (dg r k < vl k)) && (wrg iv r k == 0)))
      cases M r <;> cases all6 vl r k <;> cases decide (dg r k < vl k) <;> cases (wrg iv r k == 0) <;> rfl
    · show ((M r && (all6 vl r k && (wrg iv r k == 0))) && (decide (dg r k < vl k) && false)) = (M r && ((all6 vl r k && decide (dg r k < vl k)) && (wrg iv r k + 1 == 0)))
      rw [sb_0, Bool.and_false, Bool.and_false, Bool.and_false, Bool.and_false]
theorem nK_eq (vl iv : Nat → Nat) (M : Nat → Bool) (r : Nat) : ∀ k, nK vl iv M r k = (M r && (all6 vl r k && (wrg iv r k == 1)))
  | 0 => by show false = (M r && (true && false)); rw [Bool.and_false, Bool.and_false]
  | k + 1 => by
    show ((nK vl iv M r k && (decide (dg r k < vl k) && !((iv k).testBit (dg r k)))) || (vK vl iv M r k && (decide (dg r k < vl k) && (iv k).testBit (dg r k)))) = (M r && ((all6 vl r k && decide (dg r k < vl k)) && (wrg iv r k + cond ((iv k).testBit (dg r k)) 1 0 == 1)))
    rw [vK_eq vl iv M r k, nK_eq vl iv M r k]
    cases (iv k).testBit (dg r k)
    · show (((M r && (all6 vl r k && (wrg iv r k == 1))) && (decide (dg r k < vl k) && true)) || ((M r && (all6 vl r k && (wrg iv r k == 0))) && (decide (dg r k < vl k) && false))) = (M r && ((all6 vl r k && decide (dg r k < vl k)) && (wrg iv r k == 1)))
      cases M r <;> cases all6 vl r k <;> cases decide (dg r k < vl k) <;> cases (wrg iv r k == 0) <;> cases (wrg iv r k == 1) <;> rfl
    · show (((M r && (all6 vl r k && (wrg iv r k == 1))) && (decide (dg r k < vl k) && false)) || ((M r && (all6 vl r k && (wrg iv r k == 0))) && (decide (dg r k < vl k) && true))) = (M r && ((all6 vl r k && decide (dg r k < vl k)) && (wrg iv r k + 1 == 1)))
      rw [sb_1]
      cases M r <;> cases all6 vl r k <;> cases decide (dg r k < vl k) <;> cases (wrg iv r k == 0) <;> cases (wrg iv r k == 1) <;> rfl
theorem cB_uniq {f : Nat → Bool} {k p q : Nat} (h : cB f k = 1) (hp : p < k) (hq : q < k) (hfp : f p = true) (hfq : f q = true) : p = q := by
  apply Classical.byContradiction
  intro hne
  have h1 := cB_drop (f := f) (g := fun i => if i = p then false else f i) hp hfp (if_pos rfl) (fun i _ hn => if_neg hn)
  have h2 : cB (fun i => if i = p then false else f i) k = 0 := by omega
  have h3 := cB_zero.mp h2 q hq
  simp only [if_neg (Ne.symm hne)] at h3
  rw [hfq] at h3
  cases h3
theorem cB_ex {f : Nat → Bool} {k : Nat} (h : ¬ cB f k = 0) : ∃ p, p < k ∧ f p = true := by
  apply Classical.byContradiction
  intro hno
  exact h (cB_zero.mpr (fun i hi => ts_nt (fun hf => hno ⟨i, hi, hf⟩)))
/-! which sets a row covers -/
def inb (iv : Nat → Nat) (r n : Nat) : Nat → Bool
  | 0 => true
  | k + 1 => inb iv r n k && (!((iv k).testBit (dg r k)) || n.testBit k)
theorem inb_iff {iv : Nat → Nat} {r n : Nat} : ∀ {k : Nat}, inb iv r n k = true ↔ ∀ p, p < k → (iv p).testBit (dg r p) = true → n.testBit p = true
  | 0 => ⟨fun _ p hp => absurd hp (Nat.not_lt_zero _), fun _ => rfl⟩
  | k + 1 => by
    show (inb iv r n k && (!((iv k).testBit (dg r k)) || n.testBit k)) = true ↔ _
    rw [Bool.and_eq_true, inb_iff, Bool.or_eq_true, Bool.not_eq_true']
    constructor
    · rintro ⟨h1, h2⟩ p hp hb
      by_cases e : p = k
      · subst e
        rcases h2 with h2 | h2
        · rw [h2] at hb; cases hb
        · exact h2
      · exact h1 p (by omega) hb
    · intro h
      refine ⟨fun p hp hb => h p (by omega) hb, ?_⟩
      cases hb : (iv k).testBit (dg r k)
      · exact Or.inl rfl
      · exact Or.inr (h k (by omega) hb)
/-- V: no invalid value, N: just one -/
def csB (iv : Nat → Nat) (V N : Nat → Bool) (ak : Nat → Bool) (r n : Nat) : Bool := ak n && ((V r || N r) && inb iv r n 6)
def VN (iv : Nat → Nat) (V N : Nat → Bool) : Prop := ∀ r, (V r = true → wrg iv r 6 = 0) ∧ (N r = true → wrg iv r 6 = 1)
theorem VN_K (vl iv : Nat → Nat) (M : Nat → Bool) : VN iv (fun r => vK vl iv M r 6) (fun r => nK vl iv M r 6) := by
  intro r
  constructor
  · intro h
    have h : vK vl iv M r 6 = true := h
    rw [vK_eq, Bool.and_eq_true, Bool.and_eq_true, beq_iff_eq] at h
    exact h.2.2
  · intro h
    have h : nK vl iv M r 6 = true := h
    rw [nK_eq, Bool.and_eq_true, Bool.and_eq_true, beq_iff_eq] at h
    exact h.2.2
theorem kin_cs {iv : Nat → Nat} {V N ak : Nat → Bool} (hVN : VN iv V N) {r s n : Nat} (h : csB iv V N ak r n = true) (he : tp n s = tp n r) : csB iv V N ak s n = cond (V r) (V s) (N s) := by
  unfold csB at h ⊢
  rw [Bool.and_eq_true, Bool.and_eq_true, Bool.or_eq_true] at h
  obtain ⟨ha, hk, hi⟩ := h
  have hd := tp_eq.mp he
  have hin := inb_iff.mp hi
  rw [ha, Bool.true_and]
  have noV : ∀ x, V x = true → ∀ p, p < 6 → (iv p).testBit (dg x p) = false := fun x hx p hp => cB_zero.mp ((hVN x).1 hx) p hp
  cases hV : V r
  · have hN : N r = true := by
      rcases hk with hk | hk
      · rw [hV] at hk; cases hk
      · exact hk
    obtain ⟨q, hq, hbq⟩ := cB_ex (f := fun p => (iv p).testBit (dg r p)) (k := 6) (by rw [show cB (fun p => (iv p).testBit (dg r p)) 6 = 1 from (hVN r).2 hN]; decide)
    have hqn := hin q hq hbq
    have hbs : (iv q).testBit (dg s q) = true := by rw [hd q hq hqn]; exact hbq
    have hVs : V s = false := ts_nt (fun z => by rw [noV s z q hq] at hbs; cases hbs)
    show ((V s || N s) && inb iv s n 6) = N s
    rw [hVs, Bool.false_or]
    cases hNs : N s
    · rfl
    · rw [Bool.true_and]
      refine inb_iff.mpr (fun p hp hb => ?_)
      obtain rfl := cB_uniq (f := fun p => (iv p).testBit (dg s p)) ((hVN s).2 hNs) hp hq hb hbs
      exact hqn
  · show ((V s || N s) && inb iv s n 6) = V s
    cases hVs : V s
    · apply ts_nt
      intro hz
      rw [Bool.and_eq_true, Bool.false_or] at hz
      obtain ⟨hNs, hz⟩ := hz
      obtain ⟨q, hq, hbq⟩ := cB_ex (f := fun p => (iv p).testBit (dg s p)) (k := 6) (by rw [show cB (fun p => (iv p).testBit (dg s p)) 6 = 1 from (hVN s).2 hNs]; decide)
      have hbq : (iv q).testBit (dg s q) = true := hbq
      have hqn := inb_iff.mp hz q hq hbq
      rw [hd q hq hqn, noV r hV q hq] at hbq
      cases hbq
    · rw [Bool.true_or, Bool.true_and]
      exact inb_iff.mpr (fun p hp hb => by rw [noV s hVs p hp] at hb; cases hb)
/-- the gain of a row, with the tuples cov covered -/
def gnB (iv : Nat → Nat) (V N ak : Nat → Bool) (cov : Nat → Nat → Bool) (r : Nat) : Nat := cB (fun n => csB iv V N ak r n && !(cov n (tp n r))) 64
def cvS (cov : Nat → Nat → Bool) (n t : Nat) : Nat → Nat → Bool := fun a b => cov a b || (a == n && b == t)
theorem gn_step {iv : Nat → Nat} {V N ak : Nat → Bool} {cov : Nat → Nat → Bool} (hVN : VN iv V N) {r n : Nat} (hn : n < 64) (h : csB iv V N ak r n = true) (hc : cov n (tp n r) = false) (s : Nat) :
    (tp n s = tp n r ∧ cond (V r) (V s) (N s) = true → gnB iv V N ak (cvS cov n (tp n r)) s + 1 = gnB iv V N ak cov s) ∧ (¬ (tp n s = tp n r ∧ cond (V r) (V s) (N s) = true) → gnB iv V N ak (cvS cov n (tp n r)) s = gnB iv V N ak cov s) := by
  unfold gnB cvS
  constructor
  · rintro ⟨he, hk⟩
    have hs := (kin_cs hVN h he).trans hk
    apply cB_drop hn
    · show (csB iv V N ak s n && !(cov n (tp n s))) = true
      rw [hs, he, hc]; rfl
    · show (csB iv V N ak s n && !(cov n (tp n s) || (n == n && tp n s == tp n r))) = false
      rw [he, beq_self_eq_true, beq_self_eq_true]
      simp
    · intro i _ hi
      show (csB iv V N ak s i && !(cov i (tp i s) || (i == n && tp i s == tp n r))) = (csB iv V N ak s i && !(cov i (tp i s)))
      rw [beq_false_of_ne hi, Bool.false_and, Bool.or_false]
  · intro hno
    apply cB_congr
    intro i hi
    show (csB iv V N ak s i && !(cov i (tp i s) || (i == n && tp i s == tp n r))) = (csB iv V N ak s i && !(cov i (tp i s)))
    by_cases e : i = n
    · subst e
      by_cases et : tp i s = tp i r
      · have hs := kin_cs hVN h et
        have hk : cond (V r) (V s) (N s) = false := ts_nt (fun z => hno ⟨et, z⟩)
        rw [hs, hk]
        rfl
      · rw [beq_false_of_ne et, Bool.and_false, Bool.or_false]
    · rw [beq_false_of_ne e, Bool.false_and, Bool.or_false]
