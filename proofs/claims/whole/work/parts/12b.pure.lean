theorem up31 {d : Nat → Nat} (h : ∀ s, d s < 2 ^ 31) {k x : Nat} (hx : x < 2 ^ 31) : ∀ s, upN d k x s < 2 ^ 31 := fun s => by
  by_cases e : s = k
  · rw [e, upN_s]; exact hx
  · rw [upN_n e]; exact h s
theorem ot_tp {P n r mm j : Nat} (hP : P < 7) (hn : n < 2 ^ P) (hr : r < 4 ^ P) (hm : mm = 2 ^ P - 1 - n) (hj : j < 4 ^ cn mm 6) : tp n (ot r n mm j) = tp n r := by
  subst hm
  exact ((ot_iff hP hn hr (ot_P hP hn hr) hj).mp rfl).1
theorem stK {d F : Nat → Nat} {k : Nat} (h : ∀ s, s < k → d s = F s) : ∀ s, s < k + 1 → upN d k (F k) s = F s := fun s hs => by
  by_cases e : s = k
  · rw [e, upN_s]
  · rw [upN_n e]; exact h s (by omega)
