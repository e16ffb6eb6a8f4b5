theorem cn_0 : cn 0 6 = 0 := by decide
theorem fb_64 {P k : Nat} {vl iv : Nat → Nat} {vf : Nat → Bool} (hk : 1 ≤ k) : cB (fbR P vl iv vf k) 64 = 0 := cB_zero.mpr (fun i hi => fr_a (by rw [show i / 64 = 0 by omega, cn_0]; omega))
theorem pw64 {P : Nat} (h : P ≤ 6) : 64 * 2 ^ P < 2 ^ 32 := by have := pw2le h; omega
