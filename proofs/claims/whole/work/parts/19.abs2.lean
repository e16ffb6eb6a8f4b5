def isF (on : Bool) (P : Nat) (vl : Nat → Nat) (tc : Nat) (x y : Int32) (ST : Nat → Nat → Bool) (j : Nat) : Nat → Bool := bif isO on P vl tc x y && j == tc then (fun r => dg r x.toNatClampNeg == y.toNatClampNeg) else ST j
theorem is_no {on : Bool} {P tc : Nat} {vl dp : Nat → Nat} {x y : Int32} {fw : Nat → Nat → Int64} {ST : Nat → Nat → Bool} (h : isO on P vl tc x y = false) (hST : ∀ j, j < tc → RS (fw j) (ST j)) : nI 0 = bI (isO on P vl tc x y) ∧ tc = (bif isO on P vl tc x y then tc + 1 else tc) ∧ dp = (bif isO on P vl tc x y then upN dp tc 1 else dp) ∧ ∀ j, j < tc → RS (fw j) (isF on P vl tc x y ST j) := by
  unfold isF
  rw [h]
  exact ⟨rfl, rfl, rfl, hST⟩
theorem is_go {on : Bool} {P tc q v t2 : Nat} {vl dp d2 : Nat → Nat} {fw f2 : Nat → Nat → Int64} {ST : Nat → Nat → Bool} (hq : q < 2 ^ 31) (hv : v < 2 ^ 31) (ho : isO on P vl tc (nI q) (nI v) = !(tc == 8)) (htc : tc ≤ 8) (hST : ∀ j, j < tc → RS (fw j) (ST j)) (h1 : t2 = (bif tc == 8 then tc else tc + 1)) (h2 : d2 = (bif tc == 8 then dp else upN dp tc 1)) (h3 : ∀ j, j < 8 → ¬ j = tc → f2 j = fw j) (h4 : tc < 8 → RS (f2 tc) (fun r => dg r q == v)) : t2 = (bif isO on P vl tc (nI q) (nI v) then tc + 1 else tc) ∧ d2 = (bif isO on P vl tc (nI q) (nI v) then upN dp tc 1 else dp) ∧ ∀ j, j < t2 → RS (f2 j) (isF on P vl tc (nI q) (nI v) ST j) := by
  unfold isF
  rw [ho, nI_clamp hq, nI_clamp hv, h1, h2]
  by_cases e : tc = 8
  · rw [e, beq_self_eq_true]
    refine ⟨rfl, rfl, fun j hj => ?_⟩
    have hj : j < 8 := hj
    show RS (f2 j) (ST j)
    rw [h3 j hj (by omega)]
    exact hST j (by omega)
  · rw [beq_false_of_ne e]
    refine ⟨rfl, rfl, fun j hj => ?_⟩
    have hj : j < tc + 1 := hj
    by_cases ej : j = tc
    · rw [ej, beq_self_eq_true]
      exact h4 (by omega)
    · rw [beq_false_of_ne ej, h3 j (by omega) ej]
      exact hST j (by omega)
def ntF (on : Bool) (tc : Nat) (dp : Nat → Nat) (ST : Nat → Nat → Bool) (j : Nat) : Nat → Bool := bif (!on && ngB tc dp) && j == tc - 1 then (fun r => !(ST j r)) else ST j
theorem nt_no {on : Bool} {tc : Nat} {dp : Nat → Nat} {fw : Nat → Nat → Int64} {ST : Nat → Nat → Bool} (h : (!on && ngB tc dp) = false) (hST : ∀ j, j < tc → RS (fw j) (ST j)) : nI 0 = bI (!on && ngB tc dp) ∧ dp = (bif !on && ngB tc dp then upN dp (tc - 1) (dp (tc - 1) + 1) else dp) ∧ ∀ j, j < tc → RS (fw j) (ntF on tc dp ST j) := by
  unfold ntF
  rw [h]
  exact ⟨rfl, rfl, hST⟩
def joF (on : Bool) (tc : Nat) (dp : Nat → Nat) (x : Int32) (ST : Nat → Nat → Bool) (j : Nat) : Nat → Bool := bif jnC on tc dp x && j == tc - 2 then jnB x.toNatClampNeg (ST (tc - 2)) (ST (tc - 1)) else ST j
theorem jo_no {on : Bool} {tc : Nat} {dp : Nat → Nat} {x : Int32} {fw : Nat → Nat → Int64} {ST : Nat → Nat → Bool} (h : jnC on tc dp x = false) (hST : ∀ j, j < tc → RS (fw j) (ST j)) : nI 0 = bI (jnC on tc dp x) ∧ tc = (bif jnC on tc dp x then tc - 1 else tc) ∧ dp = (bif jnC on tc dp x then upN dp (tc - 2) (max (dp (tc - 2)) (dp (tc - 1)) + 1) else dp) ∧ ∀ j, j < tc → RS (fw j) (joF on tc dp x ST j) := by
  unfold joF
  rw [h]
  exact ⟨rfl, rfl, rfl, hST⟩
theorem jo_go {on : Bool} {tc op t2 : Nat} {dp d2 : Nat → Nat} {f2 : Nat → Nat → Int64} {ST : Nat → Nat → Bool} (hop : op < 2 ^ 31) (h : jnC on tc dp (nI op) = jnO tc dp) (h1 : t2 = (bif jnO tc dp then tc - 1 else tc)) (h2 : d2 = (bif jnO tc dp then upN dp (tc - 2) (max (dp (tc - 2)) (dp (tc - 1)) + 1) else dp)) (h3 : ∀ j, j < t2 → RS (f2 j) (bif jnO tc dp && j == tc - 2 then jnB op (ST (tc - 2)) (ST (tc - 1)) else ST j)) : t2 = (bif jnC on tc dp (nI op) then tc - 1 else tc) ∧ d2 = (bif jnC on tc dp (nI op) then upN dp (tc - 2) (max (dp (tc - 2)) (dp (tc - 1)) + 1) else dp) ∧ ∀ j, j < t2 → RS (f2 j) (joF on tc dp (nI op) ST j) := by
  unfold joF
  rw [h, nI_clamp hop]
  exact ⟨h1, h2, h3⟩
def rqM (on : Bool) (tc nr : Nat) (M : Nat → Bool) (ST : Nat → Nat → Bool) : Nat → Bool := bif rqO on tc nr then (fun r => M r && ST (tc - 1) r) else M
theorem rq_no {on : Bool} {tc nr : Nat} {M : Nat → Bool} {ST : Nat → Nat → Bool} {vl iv : Nat → Nat} {fM fV fN : Nat → Int64} (h : rqO on tc nr = false) (hM : RS fM M) (hV : RS fV (fun r => vK vl iv M r 6)) (hN : RS fN (fun r => nK vl iv M r 6)) : tc = (bif rqO on tc nr then tc - 1 else tc) ∧ nr = (bif rqO on tc nr then nr + 1 else nr) ∧ RS fM (rqM on tc nr M ST) ∧ RS fV (fun r => vK vl iv (rqM on tc nr M ST) r 6) ∧ RS fN (fun r => nK vl iv (rqM on tc nr M ST) r 6) := by
  unfold rqM
  rw [h]
  exact ⟨rfl, rfl, hM, hV, hN⟩
theorem rq_on {on : Bool} {tc nr : Nat} (h : ¬ on = false) : rqO on tc nr = false ∧ -1 = rqA on tc nr := by unfold rqO rqA; rw [ts_nf h]; exact ⟨rfl, rfl⟩
theorem rq_tc {on : Bool} {tc nr : Nat} (h : on = false) (h1 : tc = 0) : rqO on tc nr = false ∧ -2 = rqA on tc nr := by unfold rqO rqA; rw [h, h1]; exact ⟨rfl, rfl⟩
theorem rq_nr {on : Bool} {tc nr : Nat} (h : on = false) (h1 : ¬ tc = 0) (h2 : nr = 8) : rqO on tc nr = false ∧ -3 = rqA on tc nr := by unfold rqO rqA; rw [h, beq_false_of_ne h1, h2]; exact ⟨rfl, rfl⟩
theorem rq_1 {on : Bool} {tc nr : Nat} (h : on = false) (h1 : ¬ tc = 0) (h2 : ¬ nr = 8) : rqO on tc nr = true ∧ nI (nr + 1) = rqA on tc nr := by unfold rqO rqA; rw [h, beq_false_of_ne h1, beq_false_of_ne h2]; exact ⟨rfl, rfl⟩
theorem rq_go {on : Bool} {tc nr : Nat} {M : Nat → Bool} {ST : Nat → Nat → Bool} {vl iv : Nat → Nat} {fM fV fN : Nat → Int64} (h : rqO on tc nr = true) (hM : RS fM (fun r => M r && ST (tc - 1) r)) (hV : RS fV (fun r => vK vl iv (fun r => M r && ST (tc - 1) r) r 6)) (hN : RS fN (fun r => nK vl iv (fun r => M r && ST (tc - 1) r) r 6)) : tc - 1 = (bif rqO on tc nr then tc - 1 else tc) ∧ nr + 1 = (bif rqO on tc nr then nr + 1 else nr) ∧ RS fM (rqM on tc nr M ST) ∧ RS fV (fun r => vK vl iv (rqM on tc nr M ST) r 6) ∧ RS fN (fun r => nK vl iv (rqM on tc nr M ST) r 6) := by
  unfold rqM
  rw [h]
  exact ⟨rfl, rfl, hM, hV, hN⟩
/-! forbidden -/
def fbF (P : Nat) (vl iv : Nat → Nat) (V : Nat → Bool) (k n : Nat) : Nat := bif (isS P (nI n) && cn n 6 == k) then cB (mfF vl iv V n) (4 ^ cn n 6) else 0
def fbA (P : Nat) (vl iv : Nat → Nat) (V : Nat → Bool) (x : Int32) : Int32 := bif decide (¬ x < nI 1 ∧ ¬ nI 3 < x) then nI (sumN (fbF P vl iv V x.toNatClampNeg) 64) else -1
theorem fb_a {P : Nat} {vl iv : Nat → Nat} {V : Nat → Bool} {x : Int32} (h : x < nI 1) : -1 = fbA P vl iv V x := by unfold fbA; rw [decide_eq_false (fun z => z.1 h)]; rfl
theorem fb_b {P : Nat} {vl iv : Nat → Nat} {V : Nat → Bool} {x : Int32} (h : ¬ x ≤ nI 3) : -1 = fbA P vl iv V x := by
  unfold fbA
  rw [decide_eq_false (fun z => z.2 (by rw [Int32.le_iff_toInt_le] at h; rw [Int32.lt_iff_toInt_lt]; omega))]; rfl
theorem fb_mid {x : Int32} (h1 : ¬ x < nI 1) (h2 : x ≤ nI 3) : ∃ v, 1 ≤ v ∧ v ≤ 3 ∧ x = nI v := x_mid (by decide) (by decide) h1 (fun z => by rw [Int32.le_iff_toInt_le] at h2; rw [Int32.lt_iff_toInt_lt] at z; omega)
theorem fb_1 {P k : Nat} {vl iv : Nat → Nat} {V : Nat → Bool} (h1 : 1 ≤ k) (h3 : k ≤ 3) : nI (sumN (fbF P vl iv V k) 64) = fbA P vl iv V (nI k) := by
  unfold fbA
  rw [nI_clamp (by omega), decide_eq_true ⟨by rw [nI_ltI (by omega) (by decide)]; omega, by rw [nI_ltI (by decide) (by omega)]; omega⟩]; rfl
theorem fb_f {P k n : Nat} {vl iv : Nat → Nat} {V : Nat → Bool} (h : isS P (nI n) = false) : sumN (fbF P vl iv V k) (n + 1) = sumN (fbF P vl iv V k) n := by
  show sumN (fbF P vl iv V k) n + fbF P vl iv V k n = _
  unfold fbF; rw [h]; rfl
theorem fb_g {P k n : Nat} {vl iv : Nat → Nat} {V : Nat → Bool} (h : ¬ cn n 6 = k) : sumN (fbF P vl iv V k) (n + 1) = sumN (fbF P vl iv V k) n := by
  show sumN (fbF P vl iv V k) n + fbF P vl iv V k n = _
  unfold fbF; rw [beq_false_of_ne h, Bool.and_false]; rfl
theorem fb_t {P k n : Nat} {vl iv : Nat → Nat} {V : Nat → Bool} (h : ¬ isS P (nI n) = false) (hk : cn n 6 = k) : nI (sumN (fbF P vl iv V k) n + cB (mfF vl iv V n) (4 ^ cn n 6)) = nI (sumN (fbF P vl iv V k) (n + 1)) := by
  show _ = nI (sumN (fbF P vl iv V k) n + fbF P vl iv V k n)
  congr 2
  unfold fbF; rw [ts_nf h, hk, beq_self_eq_true]; rfl
theorem isS_0 (P : Nat) : isS P (nI 0) = false := decide_eq_false (fun z => z.1 (by decide))
