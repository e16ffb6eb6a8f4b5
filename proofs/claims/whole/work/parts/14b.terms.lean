theorem cs_0 {iv : Nat → Nat} {V N ak : Nat → Bool} {r : Nat} (h : ak 0 = false) : csB iv V N ak r 0 = false := by unfold csB; rw [h]; rfl
theorem cs_ak {iv : Nat → Nat} {V N ak : Nat → Bool} {r n : Nat} (h : csB iv V N ak r n = true) : ak n = true := by
  unfold csB at h
  rw [Bool.and_eq_true] at h
  exact h.1
def upF (fw : Nat → Nat → Int64) (k : Nat) (d : Nat → Int64) : Nat → Nat → Int64 := fun j => if j = k then d else fw j
theorem upF_s {fw : Nat → Nat → Int64} {k : Nat} {d : Nat → Int64} : upF fw k d k = d := if_pos rfl
theorem upF_n {fw : Nat → Nat → Int64} {k j : Nat} {d : Nat → Int64} (h : ¬ j = k) : upF fw k d j = fw j := if_neg h
def ngB (tc : Nat) (dp : Nat → Nat) : Bool := !(tc == 0) && !(dp (tc - 1) == 8)
theorem ng_no {tc : Nat} {dp : Nat → Nat} {fw : Nat → Nat → Int64} {ST : Nat → Nat → Bool} (h : ngB tc dp = false) (hST : ∀ j, j < tc → RS (fw j) (ST j)) : nI 0 = bI (ngB tc dp) ∧ dp = (bif ngB tc dp then upN dp (tc - 1) (dp (tc - 1) + 1) else dp) ∧ ∀ j, j < tc → RS (fw j) (bif ngB tc dp && j == tc - 1 then (fun r => !(ST j r)) else ST j) := by
  rw [h]
  exact ⟨rfl, rfl, hST⟩
theorem ng_0 {tc : Nat} {dp : Nat → Nat} {fw : Nat → Nat → Int64} {ST : Nat → Nat → Bool} (h : tc = 0) (hST : ∀ j, j < tc → RS (fw j) (ST j)) : nI 0 = bI (ngB tc dp) ∧ dp = (bif ngB tc dp then upN dp (tc - 1) (dp (tc - 1) + 1) else dp) ∧ ∀ j, j < tc → RS (fw j) (bif ngB tc dp && j == tc - 1 then (fun r => !(ST j r)) else ST j) := ng_no (by unfold ngB; rw [h]; rfl) hST
theorem ng_8 {tc : Nat} {dp : Nat → Nat} {fw : Nat → Nat → Int64} {ST : Nat → Nat → Bool} (h : dp (tc - 1) = 8) (hST : ∀ j, j < tc → RS (fw j) (ST j)) : nI 0 = bI (ngB tc dp) ∧ dp = (bif ngB tc dp then upN dp (tc - 1) (dp (tc - 1) + 1) else dp) ∧ ∀ j, j < tc → RS (fw j) (bif ngB tc dp && j == tc - 1 then (fun r => !(ST j r)) else ST j) := ng_no (by unfold ngB; rw [h, beq_self_eq_true, Bool.not_true, Bool.and_false]) hST
theorem ng_1 {tc : Nat} {dp : Nat → Nat} {fw : Nat → Nat → Int64} {ST : Nat → Nat → Bool} {d : Nat → Int64} (h0 : 0 < tc) (h8 : ¬ dp (tc - 1) = 8) (hST : ∀ j, j < tc → RS (fw j) (ST j)) (hd : RS d (fun r => !(ST (tc - 1) r))) : nI 1 = bI (ngB tc dp) ∧ upN dp (tc - 1) (dp (tc - 1) + 1) = (bif ngB tc dp then upN dp (tc - 1) (dp (tc - 1) + 1) else dp) ∧ ∀ j, j < tc → RS (upF fw (tc - 1) d j) (bif ngB tc dp && j == tc - 1 then (fun r => !(ST j r)) else ST j) := by
  have h : ngB tc dp = true := by
    unfold ngB
    rw [beq_false_of_ne (by omega), beq_false_of_ne h8]; rfl
  rw [h]
  refine ⟨rfl, rfl, fun j hj => ?_⟩
  by_cases e : j = tc - 1
  · rw [e, upF_s, beq_self_eq_true]; exact hd
  · rw [upF_n e, beq_false_of_ne e]; exact hST j hj
def jnB (op : Nat) (S T : Nat → Bool) : Nat → Bool := if op = 0 then (fun r => S r && T r) else if op = 1 then (fun r => S r || T r) else (fun r => !(S r) || T r)
theorem jn_2 {op : Nat} {S T : Nat → Bool} {d : Nat → Int64} (_ : op < 3) (h1 : ¬ op = 0) (h2 : ¬ op = 1) (hd : RS d (fun r => !(S r) || T r)) : RS d (jnB op S T) := by
  unfold jnB
  rw [if_neg h1, if_neg h2]
  exact hd
def jnO (tc : Nat) (dp : Nat → Nat) : Bool := !(decide (tc < 2)) && !(max (dp (tc - 2)) (dp (tc - 1)) == 8)
theorem jn_no {tc op : Nat} {dp : Nat → Nat} {fw : Nat → Nat → Int64} {ST : Nat → Nat → Bool} (h : jnO tc dp = false) (hST : ∀ j, j < tc → RS (fw j) (ST j)) : nI 0 = bI (jnO tc dp) ∧ tc = (bif jnO tc dp then tc - 1 else tc) ∧ dp = (bif jnO tc dp then upN dp (tc - 2) (max (dp (tc - 2)) (dp (tc - 1)) + 1) else dp) ∧ ∀ j, j < tc → RS (fw j) (bif jnO tc dp && j == tc - 2 then jnB op (ST (tc - 2)) (ST (tc - 1)) else ST j) := by
  rw [h]
  exact ⟨rfl, rfl, rfl, hST⟩
theorem jn_a {tc op : Nat} {dp : Nat → Nat} {fw : Nat → Nat → Int64} {ST : Nat → Nat → Bool} (h : ¬ 2 ≤ tc) (hST : ∀ j, j < tc → RS (fw j) (ST j)) : nI 0 = bI (jnO tc dp) ∧ tc = (bif jnO tc dp then tc - 1 else tc) ∧ dp = (bif jnO tc dp then upN dp (tc - 2) (max (dp (tc - 2)) (dp (tc - 1)) + 1) else dp) ∧ ∀ j, j < tc → RS (fw j) (bif jnO tc dp && j == tc - 2 then jnB op (ST (tc - 2)) (ST (tc - 1)) else ST j) := jn_no (by unfold jnO; rw [decide_eq_true (by omega)]; rfl) hST
theorem jn_b {tc op : Nat} {dp : Nat → Nat} {fw : Nat → Nat → Int64} {ST : Nat → Nat → Bool} (h : max (dp (tc - 2)) (dp (tc - 1)) = 8) (hST : ∀ j, j < tc → RS (fw j) (ST j)) : nI 0 = bI (jnO tc dp) ∧ tc = (bif jnO tc dp then tc - 1 else tc) ∧ dp = (bif jnO tc dp then upN dp (tc - 2) (max (dp (tc - 2)) (dp (tc - 1)) + 1) else dp) ∧ ∀ j, j < tc → RS (fw j) (bif jnO tc dp && j == tc - 2 then jnB op (ST (tc - 2)) (ST (tc - 1)) else ST j) := jn_no (by unfold jnO; rw [h, beq_self_eq_true, Bool.not_true, Bool.and_false]) hST
theorem jn_1 {tc op : Nat} {dp : Nat → Nat} {fw : Nat → Nat → Int64} {ST : Nat → Nat → Bool} {d : Nat → Int64} (h2 : 2 ≤ tc) (h8 : ¬ max (dp (tc - 2)) (dp (tc - 1)) = 8) (hST : ∀ j, j < tc → RS (fw j) (ST j)) (hd : RS d (jnB op (ST (tc - 2)) (ST (tc - 1)))) : nI 1 = bI (jnO tc dp) ∧ tc - 1 = (bif jnO tc dp then tc - 1 else tc) ∧ upN dp (tc - 2) (max (dp (tc - 2)) (dp (tc - 1)) + 1) = (bif jnO tc dp then upN dp (tc - 2) (max (dp (tc - 2)) (dp (tc - 1)) + 1) else dp) ∧ ∀ j, j < tc - 1 → RS (upF fw (tc - 2) d j) (bif jnO tc dp && j == tc - 2 then jnB op (ST (tc - 2)) (ST (tc - 1)) else ST j) := by
  have h : jnO tc dp = true := by
    unfold jnO
    rw [decide_eq_false (by omega), beq_false_of_ne h8]; rfl
  rw [h]
  refine ⟨rfl, rfl, rfl, fun j hj => ?_⟩
  by_cases e : j = tc - 2
  · rw [e, upF_s, beq_self_eq_true]; exact hd
  · rw [upF_n e, beq_false_of_ne e]; exact hST j (by omega)
theorem mx_I {a b : Nat} (ha : a < 2 ^ 31) (hb : b < 2 ^ 31) : (if nI a < nI b then nI b else nI a) = nI (max a b) := by
  by_cases h : a < b
  · rw [if_pos ((nI_ltI ha hb).mpr h)]; congr 1; omega
  · rw [if_neg (fun z => h ((nI_ltI ha hb).mp z))]; congr 1; omega
def vl0 : Nat → Nat := fun j => if j < 6 then 1 else 0
theorem vl0_ok : ∀ p, p < 6 → 1 ≤ vl0 p ∧ vl0 p ≤ 4 := fun p hp => by unfold vl0; rw [if_pos hp]; decide
theorem fl_ia : flI (ia (fun _ => 0)) 6 (nI 1) = ia vl0 := by
  funext j
  unfold flI ia vl0
  by_cases h : j < 6
  · rw [if_pos h, if_pos h]
  · rw [if_neg h, if_neg h]
theorem te_8 {f : Nat → Option Nat} {a : Nat → Nat} (h0 : f 0 = some (a 0)) (h1 : f 1 = some (a 1)) (h2 : f 2 = some (a 2)) (h3 : f 3 = some (a 3)) (h4 : f 4 = some (a 4)) (h5 : f 5 = some (a 5)) (h6 : f 6 = some (a 6)) (h7 : f 7 = some (a 7)) : ∀ j, j < 8 → f j = some (a j) := by
  intro j hj
  rcases (show j = 0 ∨ j = 1 ∨ j = 2 ∨ j = 3 ∨ j = 4 ∨ j = 5 ∨ j = 6 ∨ j = 7 by omega) with rfl | rfl | rfl | rfl | rfl | rfl | rfl | rfl <;> assumption
