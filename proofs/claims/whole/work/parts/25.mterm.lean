abbrev tO (T : TS) : Nat → Nat := T.1
abbrev tA (T : TS) : Nat → Nat := T.2.1
abbrev tB (T : TS) : Nat → Nat := T.2.2.1
abbrev tD (T : TS) : Nat → Nat := T.2.2.2.1
abbrev tK (T : TS) : Nat → Nat := T.2.2.2.2.1
abbrev tC (T : TS) : Nat := T.2.2.2.2.2.1
abbrev tNm (T : TS) : Nat := T.2.2.2.2.2.2
def tsI (ok : Bool) (q v : Nat) (T : TS) : TS := bif ok then psh 4 q v 1 T (tC T) else T
def dpT (T : TS) (j : Nat) : Nat := tD T (tK T j)
def tsN (ok : Bool) (T : TS) : TS := bif ok then psh 3 (tK T (tC T - 1)) 0 (dpT T (tC T - 1) + 1) T (tC T - 1) else T
def tsJ (ok : Bool) (op : Nat) (T : TS) : TS := bif ok then psh op (tK T (tC T - 2)) (tK T (tC T - 1)) (max (dpT T (tC T - 2)) (dpT T (tC T - 1)) + 1) T (tC T - 2) else T
theorem ngB_f0 {tc : Nat} {dp : Nat → Nat} (h : tc = 0) : ngB tc dp = false := by unfold ngB; rw [h]; rfl
theorem ngB_f8 {tc : Nat} {dp : Nat → Nat} (h : dp (tc - 1) = 8) : ngB tc dp = false := by unfold ngB; rw [h, beq_self_eq_true, Bool.not_true, Bool.and_false]
theorem ngB_t {tc : Nat} {dp : Nat → Nat} (h0 : ¬ tc = 0) (h : ¬ dp (tc - 1) = 8) : ngB tc dp = true := by unfold ngB; rw [beq_false_of_ne h0, beq_false_of_ne h]; rfl
theorem jnO_a {tc : Nat} {dp : Nat → Nat} (h : ¬ 2 ≤ tc) : jnO tc dp = false := by unfold jnO; rw [decide_eq_true (by omega)]; rfl
theorem jnO_b {tc : Nat} {dp : Nat → Nat} (h : max (dp (tc - 2)) (dp (tc - 1)) = 8) : jnO tc dp = false := by unfold jnO; rw [h, beq_self_eq_true, Bool.not_true, Bool.and_false]
theorem jnO_t {tc : Nat} {dp : Nat → Nat} (h2 : 2 ≤ tc) (h : ¬ max (dp (tc - 2)) (dp (tc - 1)) = 8) : jnO tc dp = true := by unfold jnO; rw [decide_eq_false (by omega), beq_false_of_ne h]; rfl
/-! the truth of terms -/
def tE (T : TS) (rr : Nat) (f : Nat → Bool) (t : Nat) : Bool := if tO T t = 4 then dg rr (tA T t) == tB T t else if tO T t = 3 then !(f (tA T t)) else if tO T t = 2 then !(f (tA T t)) || f (tB T t) else if tO T t = 0 then f (tA T t) && f (tB T t) else f (tA T t) || f (tB T t)
def tvL (T : TS) (rr : Nat) : Nat → Nat → Bool
  | 0 => fun _ => false
  | t + 1 => upB (tvL T rr t) t (tE T rr (tvL T rr t) t)
def tv (T : TS) (rr t : Nat) : Bool := tvL T rr (t + 1) t
theorem tv_lt {T : TS} {rr i : Nat} : ∀ {t : Nat}, i < t → tvL T rr t i = tv T rr i
  | 0, h => absurd h (Nat.not_lt_zero _)
  | t + 1, h => by
    by_cases e : i = t
    · subst e; rfl
    · show upB (tvL T rr t) t _ i = _
      rw [upB_n e]
      exact tv_lt (by omega)
def tTr (T : TS) (rr t : Nat) (tr : Nat → Bool) : Prop := ∀ i, i < t → tr i = tvL T rr t i
theorem tr_s {T : TS} {rr t : Nat} {tr : Nat → Bool} {b : Bool} (h : tTr T rr t tr) (hb : b = tE T rr (tvL T rr t) t) : tTr T rr (t + 1) (upB tr t b) := by
  intro i hi
  show _ = upB (tvL T rr t) t (tE T rr (tvL T rr t) t) i
  by_cases e : i = t
  · rw [e, upB_s, upB_s, hb]
  · rw [upB_n e, upB_n e]; exact h i (by omega)
def TOK (T : TS) : Prop := ∀ t, t < tNm T → tO T t ≤ 4 ∧ (tO T t = 4 → tA T t < 6 ∧ tB T t < 4) ∧ (¬ tO T t = 4 → tA T t < t ∧ tB T t < t)
theorem tok_ab {T : TS} (h : TOK T) {t : Nat} (ht : t < tNm T) (hn : tNm T ≤ 520) : tA T t < 520 ∧ tB T t < 520 := by
  obtain ⟨_, h4, hn4⟩ := h t ht
  by_cases e : tO T t = 4
  · have := h4 e; omega
  · have := hn4 e; omega
theorem tE_4 {T : TS} {rr t : Nat} {f : Nat → Bool} (h : tO T t = 4) : tE T rr f t = (dg rr (tA T t) == tB T t) := by unfold tE; rw [if_pos h]
theorem tE_3 {T : TS} {rr t : Nat} {f : Nat → Bool} (h : tO T t = 3) : tE T rr f t = !(f (tA T t)) := by unfold tE; rw [if_neg (by omega), if_pos h]
theorem tE_2 {T : TS} {rr t : Nat} {f : Nat → Bool} (h : tO T t = 2) : tE T rr f t = (!(f (tA T t)) || f (tB T t)) := by unfold tE; rw [if_neg (by omega), if_neg (by omega), if_pos h]
theorem tE_0 {T : TS} {rr t : Nat} {f : Nat → Bool} (h : tO T t = 0) : tE T rr f t = (f (tA T t) && f (tB T t)) := by unfold tE; rw [if_neg (by omega), if_neg (by omega), if_neg (by omega), if_pos h]
theorem tE_1 {T : TS} {rr t : Nat} {f : Nat → Bool} (h4 : ¬ tO T t = 4) (h3 : ¬ tO T t = 3) (h2 : ¬ tO T t = 2) (h0 : ¬ tO T t = 0) : tE T rr f t = (f (tA T t) || f (tB T t)) := by unfold tE; rw [if_neg h4, if_neg h3, if_neg h2, if_neg h0]
def alB (f : Nat → Bool) : Nat → Bool
  | 0 => true
  | k + 1 => alB f k && f k
theorem al_f {f : Nat → Bool} {k : Nat} (h : alB f k = false) : alB f (k + 1) = false := by show (alB f k && f k) = false; rw [h]; rfl
theorem al_g {f : Nat → Bool} {k : Nat} (h : f k = false) : alB f (k + 1) = false := by show (alB f k && f k) = false; rw [h, Bool.and_false]
theorem al_t {f : Nat → Bool} {k : Nat} (h : ¬ alB f k = false) (h2 : ¬ f k = false) : alB f (k + 1) = true := by show (alB f k && f k) = true; rw [ts_nf h, ts_nf h2]; rfl
def ruF (T : TS) (ru : Nat → Nat) (rr k : Nat) : Bool := tv T rr (ru k)
/-! the kind of a row, as the reference judges it -/
def kdI (vl iv : Nat → Nat) (M : Nat → Bool) (rr : Nat) : Int32 := bif all6 vl rr 6 then (bif M rr && decide (wrg iv rr 6 ≤ 1) then nI (2 - wrg iv rr 6) else nI 0) else -1
theorem wrg_le (iv : Nat → Nat) (rr k : Nat) : wrg iv rr k ≤ k := cB_le _ k
theorem wr_0 {iv : Nat → Nat} {rr i : Nat} (h : (iv i).testBit (dg rr i) = false) : nI (wrg iv rr i) + nI 0 = nI (wrg iv rr (i + 1)) := by
  have e : wrg iv rr (i + 1) = wrg iv rr i := cB_f h
  rw [nI_add, e]; rfl
theorem wr_1 {iv : Nat → Nat} {rr i : Nat} (h : ¬ (iv i).testBit (dg rr i) = false) : nI (wrg iv rr i) + nI 1 = nI (wrg iv rr (i + 1)) := by
  have e : wrg iv rr (i + 1) = wrg iv rr i + 1 := cB_t (ts_nf h)
  rw [nI_add, e]
theorem iv_z {iv : Nat → Nat} {i v : Nat} (h : iv i = 0) : (iv i).testBit v = false := by rw [h, Nat.zero_testBit]
theorem kd_no {vl iv : Nat → Nat} {M : Nat → Bool} {rr i : Nat} (hi : i < 6) (h : ¬ dg rr i < vl i) : -1 = kdI vl iv M rr := by unfold kdI; rw [all6_no hi h]; rfl
theorem kd_w {vl iv : Nat → Nat} {M : Nat → Bool} {rr : Nat} (ha : all6 vl rr 6 = true) (h : 1 < wrg iv rr 6) : nI 0 = kdI vl iv M rr := by unfold kdI; rw [ha, decide_eq_false (by omega), Bool.and_false]; rfl
theorem kd_m {vl iv : Nat → Nat} {M : Nat → Bool} {rr : Nat} (ha : all6 vl rr 6 = true) (h : M rr = false) : nI 0 = kdI vl iv M rr := by unfold kdI; rw [ha, h]; rfl
theorem kd_1 {vl iv : Nat → Nat} {M : Nat → Bool} {rr : Nat} (ha : all6 vl rr 6 = true) (hw : ¬ 1 < wrg iv rr 6) (h : ¬ M rr = false) : nI (2 - wrg iv rr 6) = kdI vl iv M rr := by unfold kdI; rw [ha, ts_nf h, decide_eq_true (by omega)]; rfl
