/-! taking a row: the sets below k are done -/
def cvT (iv : Nat → Nat) (V N ak : Nat → Bool) (cov : Nat → Nat → Bool) (r k : Nat) : Nat → Nat → Bool := fun a t => cov a t || (decide (a < k) && (csB iv V N ak r a && t == tp a r))
def cvI (cv : Nat → Int64) (cov : Nat → Nat → Bool) : Prop := ∀ n, n < 64 → cn n 6 ≤ 3 → ∀ s, bL (cv n) (pc6 n s 6) = cov n (tp n s)
def gnI (iv : Nat → Nat) (V N ak : Nat → Bool) (P : Nat) (gs : Nat → Nat) (cov : Nat → Nat → Bool) : Prop := ∀ s, s < 4 ^ P → (V s || N s) = true → gs s = gnB iv V N ak cov s
def tkG (iv : Nat → Nat) (V N ak : Nat → Bool) (cov : Nat → Nat → Bool) (r n : Nat) : Bool := csB iv V N ak r n && !(cov n (tp n r))
theorem cvT_f {iv : Nat → Nat} {V N ak : Nat → Bool} {cov : Nat → Nat → Bool} {r k : Nat} (h : csB iv V N ak r k = false) : cvT iv V N ak cov r (k + 1) = cvT iv V N ak cov r k := by
  funext a t
  unfold cvT
  rw [lt_sB]
  by_cases e : a = k
  · rw [e, h, Bool.false_and, Bool.and_false, Bool.and_false]
  · rw [beq_false_of_ne e, Bool.or_false]
theorem cvT_1 {iv : Nat → Nat} {V N ak : Nat → Bool} {cov : Nat → Nat → Bool} {r : Nat} (h : ak 0 = false) : cvT iv V N ak cov r 1 = cov := by
  rw [cvT_f (by unfold csB; rw [h]; rfl)]
  funext a t
  unfold cvT
  rw [decide_eq_false (Nat.not_lt_zero _), Bool.false_and, Bool.or_false]
theorem cvT_t {iv : Nat → Nat} {V N ak : Nat → Bool} {cov : Nat → Nat → Bool} {r k : Nat} (h : csB iv V N ak r k = true) : cvT iv V N ak cov r (k + 1) = cvS (cvT iv V N ak cov r k) k (tp k r) := by
  funext a t
  unfold cvS cvT
  rw [lt_sB]
  by_cases e : a = k
  · subst e
    rw [h, beq_self_eq_true, Bool.or_true, Bool.true_and, Bool.true_and, decide_eq_false (Nat.lt_irrefl _), Bool.false_and, Bool.or_false]
  · rw [beq_false_of_ne e, Bool.or_false, Bool.false_and, Bool.or_false]
theorem cvT_at {iv : Nat → Nat} {V N ak : Nat → Bool} {cov : Nat → Nat → Bool} {r k : Nat} (t : Nat) : cvT iv V N ak cov r k k t = cov k t := by
  unfold cvT
  rw [decide_eq_false (Nat.lt_irrefl _), Bool.false_and, Bool.or_false]
theorem cvT_c {iv : Nat → Nat} {V N ak : Nat → Bool} {cov : Nat → Nat → Bool} {r k : Nat} (h : csB iv V N ak r k = true) (hc : cov k (tp k r) = true) : cvT iv V N ak cov r (k + 1) = cvT iv V N ak cov r k := by
  rw [cvT_t h]
  funext a t
  unfold cvS
  by_cases e : a = k
  · subst e
    by_cases et : t = tp a r
    · subst et
      rw [cvT_at, hc]; rfl
    · rw [beq_false_of_ne et, Bool.and_false, Bool.or_false]
  · rw [beq_false_of_ne e, Bool.false_and, Bool.or_false]
theorem cvI_t {iv : Nat → Nat} {V N ak : Nat → Bool} {cov : Nat → Nat → Bool} {r k : Nat} {cv d : Nat → Int64} (h : csB iv V N ak r k = true) (hcv : cvI cv (cvT iv V N ak cov r k)) (hd : ∀ a, ∀ t, t < 64 → bL (d a) t = (bL (cv a) t || (a == k && t == pc6 k r 6))) : cvI d (cvT iv V N ak cov r (k + 1)) := by
  intro n hn hc s
  rw [hd n _ (pc6_64 s hc), hcv n hn hc s, cvT_t h]
  unfold cvS
  by_cases e : n = k
  · subst e; rw [pc6_tp]
  · rw [beq_false_of_ne e, Bool.false_and, Bool.false_and]
theorem tk_K {V N : Nat → Bool} {r s : Nat} (hk : (V r || N r) = true) (h : cond (V r) (V s) (N s) = true) : (V s || N s) = true := by
  cases hV : V r
  · rw [hV] at h
    have h : N s = true := h
    rw [h, Bool.or_true]
  · rw [hV] at h
    have h : V s = true := h
    rw [h, Bool.true_or]
theorem tk_g1 {iv : Nat → Nat} {V N ak K : Nat → Bool} {cov : Nat → Nat → Bool} {P r k : Nat} {gs : Nat → Nat} (hVN : VN iv V N) (hk : (V r || N r) = true) (hK : ∀ s, K s = cond (V r) (V s) (N s)) (hn : k < 64) (h : csB iv V N ak r k = true) (hc : cov k (tp k r) = false) (hg : gnI iv V N ak P gs (cvT iv V N ak cov r k)) : ∀ s, s < 4 ^ P → tp k s = tp k r → K s = true → 1 ≤ gs s := by
  intro s hs ht hKs
  rw [hK] at hKs
  rw [hg s hs (tk_K hk hKs)]
  have := (gn_step (cov := cvT iv V N ak cov r k) hVN hn h (by rw [cvT_at]; exact hc) s).1 ⟨ht, hKs⟩
  omega
theorem tk_T {iv : Nat → Nat} {V N ak K : Nat → Bool} {cov : Nat → Nat → Bool} {P r k : Nat} {gs g2 : Nat → Nat} (hVN : VN iv V N) (hK : ∀ s, K s = cond (V r) (V s) (N s)) (hn : k < 64) (h : csB iv V N ak r k = true) (hc : cov k (tp k r) = false) (hg : gnI iv V N ak P gs (cvT iv V N ak cov r k)) (h2 : ∀ s, s < 4 ^ P → g2 s = if tp k s = tp k r ∧ K s = true then gs s - 1 else gs s) : gnI iv V N ak P g2 (cvT iv V N ak cov r (k + 1)) := by
  intro s hs hks
  have hst := gn_step (cov := cvT iv V N ak cov r k) hVN hn h (by rw [cvT_at]; exact hc) s
  rw [h2 s hs, cvT_t h, hg s hs hks, hK]
  by_cases c : tp k s = tp k r ∧ cond (V r) (V s) (N s) = true
  · rw [if_pos c]
    have := hst.1 c
    omega
  · rw [if_neg c]
    exact (hst.2 c).symm
theorem tkG_f {iv : Nat → Nat} {V N ak : Nat → Bool} {cov : Nat → Nat → Bool} {r n : Nat} (h : csB iv V N ak r n = false) : tkG iv V N ak cov r n = false := by unfold tkG; rw [h]; rfl
theorem tkG_c {iv : Nat → Nat} {V N ak : Nat → Bool} {cov : Nat → Nat → Bool} {r n : Nat} (h : cov n (tp n r) = true) : tkG iv V N ak cov r n = false := by unfold tkG; rw [h, Bool.not_true, Bool.and_false]
theorem tkG_t {iv : Nat → Nat} {V N ak : Nat → Bool} {cov : Nat → Nat → Bool} {r n : Nat} (h : csB iv V N ak r n = true) (hc : cov n (tp n r) = false) : ¬ tkG iv V N ak cov r n = false := by unfold tkG; rw [h, hc]; decide
theorem tk_cv {iv : Nat → Nat} {V N ak : Nat → Bool} {cov : Nat → Nat → Bool} {r k : Nat} {cv : Nat → Int64} (hn : k < 64) (hc : cn k 6 ≤ 3) (hcv : cvI cv (cvT iv V N ak cov r k)) : bL (cv k) (pc6 k r 6) = cov k (tp k r) := by rw [hcv k hn hc r, cvT_at]
theorem nt_f {b : Bool} (h : (!b) = false) : b = true := by cases b <;> first | rfl | cases h
theorem nt_t {b : Bool} (h : ¬ (!b) = false) : b = false := by cases b <;> first | rfl | exact absurd rfl h
