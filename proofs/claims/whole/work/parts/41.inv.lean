/-! the reference's terms stand for the class's sets -/
theorem tE_congr {T U : TS} {r t : Nat} {f : Nat → Bool} (h1 : tO U t = tO T t) (h2 : tA U t = tA T t) (h3 : tB U t = tB T t) : tE U r f t = tE T r f t := by unfold tE; rw [h1, h2, h3]
theorem tvL_congr {T U : TS} {r n : Nat} (h : ∀ t, t < n → tO U t = tO T t ∧ tA U t = tA T t ∧ tB U t = tB T t) : ∀ t, t ≤ n → tvL U r t = tvL T r t
  | 0, _ => rfl
  | t + 1, ht => by
    obtain ⟨h1, h2, h3⟩ := h t (by omega)
    show upB (tvL U r t) t (tE U r (tvL U r t) t) = upB (tvL T r t) t (tE T r (tvL T r t) t)
    rw [tvL_congr h t (by omega), tE_congr h1 h2 h3]
theorem tv_congr {T U : TS} {r n t : Nat} (h : ∀ t, t < n → tO U t = tO T t ∧ tA U t = tA T t ∧ tB U t = tB T t) (ht : t < n) : tv U r t = tv T r t := by
  unfold tv
  rw [tvL_congr h (t + 1) (by omega)]
theorem tv_e {T : TS} {r t : Nat} : tv T r t = tE T r (tvL T r t) t := by
  show upB (tvL T r t) t (tE T r (tvL T r t) t) t = _
  exact upB_s
theorem psh_old {T : TS} {op a b d tc t : Nat} (h : t < tNm T) : tO (psh op a b d T tc) t = tO T t ∧ tA (psh op a b d T tc) t = tA T t ∧ tB (psh op a b d T tc) t = tB T t :=
  ⟨upN_n (Nat.ne_of_lt h), upN_n (Nat.ne_of_lt h), upN_n (Nat.ne_of_lt h)⟩
theorem psh_new {T : TS} {op a b d tc : Nat} : tO (psh op a b d T tc) (tNm T) = op ∧ tA (psh op a b d T tc) (tNm T) = a ∧ tB (psh op a b d T tc) (tNm T) = b := ⟨upN_s, upN_s, upN_s⟩
theorem tv_old {T : TS} {op a b d tc r t : Nat} (h : t < tNm T) : tv (psh op a b d T tc) r t = tv T r t := tv_congr (n := tNm T) (fun _ h => psh_old h) h
theorem tv_at {T : TS} {op a b d tc r t : Nat} (h : t < tNm T) : tvL (psh op a b d T tc) r (tNm T) t = tv T r t := by
  rw [tvL_congr (T := T) (n := tNm T) (fun _ h => psh_old h) (tNm T) (Nat.le_refl _)]
  exact tv_lt h
theorem tv_4 {T : TS} {q v d tc r : Nat} : tv (psh 4 q v d T tc) r (tNm T) = (dg r q == v) := by
  obtain ⟨h1, h2, h3⟩ := psh_new (T := T) (op := 4) (a := q) (b := v) (d := d) (tc := tc)
  rw [tv_e, tE_4 h1, h2, h3]
theorem tv_3 {T : TS} {a d tc r : Nat} (ha : a < tNm T) : tv (psh 3 a 0 d T tc) r (tNm T) = !(tv T r a) := by
  obtain ⟨h1, h2, _⟩ := psh_new (T := T) (op := 3) (a := a) (b := 0) (d := d) (tc := tc)
  rw [tv_e, tE_3 h1, h2, tv_at ha]
theorem tv_j {T : TS} {op a b d tc r : Nat} (hop : op < 3) (ha : a < tNm T) (hb : b < tNm T) : tv (psh op a b d T tc) r (tNm T) = jnB op (fun r => tv T r a) (fun r => tv T r b) r := by
  obtain ⟨h1, h2, h3⟩ := psh_new (T := T) (op := op) (a := a) (b := b) (d := d) (tc := tc)
  rw [tv_e]
  unfold jnB
  rcases (show op = 0 ∨ op = 1 ∨ op = 2 by omega) with rfl | rfl | rfl
  · rw [tE_0 h1, h2, h3, tv_at ha, tv_at hb]; rfl
  · rw [tE_1 (by omega) (by omega) (by omega) (by omega), h2, h3, tv_at ha, tv_at hb]; rfl
  · rw [tE_2 h1, h2, h3, tv_at ha, tv_at hb]; rfl
theorem TOK_p {T : TS} {op a b d tc : Nat} (h : TOK T) (hn : (op = 4 ∧ a < 6 ∧ b < 4) ∨ (op ≤ 3 ∧ a < tNm T ∧ b < tNm T)) : TOK (psh op a b d T tc) := by
  intro t ht
  have ht : t < tNm T + 1 := ht
  by_cases e : t = tNm T
  · obtain ⟨h1, h2, h3⟩ := psh_new (T := T) (op := op) (a := a) (b := b) (d := d) (tc := tc)
    rw [e, h1, h2, h3]
    rcases hn with hn | hn
    · exact ⟨by omega, fun _ => ⟨by omega, by omega⟩, fun z => absurd hn.1 z⟩
    · exact ⟨by omega, fun z => by omega, fun _ => ⟨hn.2.1, hn.2.2⟩⟩
  · obtain ⟨h1, h2, h3⟩ := psh_old (T := T) (op := op) (a := a) (b := b) (d := d) (tc := tc) (t := t) (by omega)
    rw [h1, h2, h3]
    exact h t (by omega)
abbrev MMf (T : TS) (ru : Nat → Nat) (nr : Nat) : Nat → Bool := fun r9 => alB (ruF T ru r9) nr
theorem alB_congr {f g : Nat → Bool} : ∀ {k : Nat}, (∀ i, i < k → f i = g i) → alB f k = alB g k
  | 0, _ => rfl
  | k + 1, h => by
    show (alB f k && f k) = (alB g k && g k)
    rw [alB_congr (k := k) (fun i hi => h i (by omega)), h k (by omega)]
theorem MM_p {T : TS} {op a b d tc nr : Nat} {ru : Nat → Nat} (hru : ∀ k, k < nr → ru k < tNm T) : MMf (psh op a b d T tc) ru nr = MMf T ru nr := by
  funext r
  exact alB_congr (fun k hk => tv_old (hru k hk))
/-- the terms: class (dp, ST) and reference (T, ru), after c calls -/
def iTe (T : TS) (ru : Nat → Nat) (nr : Nat) (dp : Nat → Nat) (ST : Nat → Nat → Bool) (c : Nat) : Prop := TOK T ∧ tC T ≤ 8 ∧ tNm T ≤ c ∧ (∀ j, j < tC T → tK T j < tNm T) ∧ (∀ j, tD T j ≤ 8) ∧ (∀ j, dp j ≤ 8) ∧ (∀ j, j < tC T → dp j = dpT T j) ∧ (∀ j, j < tC T → ∀ r, ST j r = tv T r (tK T j)) ∧ ∀ k, k < nr → ru k < tNm T
theorem iTe.more {T : TS} {ru : Nat → Nat} {nr c : Nat} {dp : Nat → Nat} {ST : Nat → Nat → Bool} (h : iTe T ru nr dp ST c) : iTe T ru nr dp ST (c + 1) := ⟨h.1, h.2.1, by have := h.2.2.1; omega, h.2.2.2⟩
/-- a term pushed at place tc: what is below stays, the new one is S -/
theorem iTe.push {T : TS} {ru : Nat → Nat} {nr c op a b d tc : Nat} {dp dp2 : Nat → Nat} {ST ST2 : Nat → Nat → Bool} (h : iTe T ru nr dp ST c) (hn : (op = 4 ∧ a < 6 ∧ b < 4) ∨ (op ≤ 3 ∧ a < tNm T ∧ b < tNm T)) (htc : tc < 8) (hle : tc ≤ tC T) (hd : d ≤ 8) (hdp : dp2 = upN dp tc d) (hS : ∀ j, j < tc → ST2 j = ST j) (hnew : ∀ r, ST2 tc r = tv (psh op a b d T tc) r (tNm T)) : iTe (psh op a b d T tc) ru nr dp2 ST2 (c + 1) := by
  obtain ⟨h1, h2, h3, h4, h5, h6, h7, h8, h9⟩ := h
  have hK : ∀ j, tK (psh op a b d T tc) j = if j = tc then tNm T else tK T j := fun j => rfl
  have hD : ∀ j, tD (psh op a b d T tc) j = if j = tNm T then d else tD T j := fun j => rfl
  refine ⟨TOK_p h1 hn, (show tc + 1 ≤ 8 by omega), (show tNm T + 1 ≤ c + 1 by omega), fun j hj => ?_, fun j => ?_, fun j => ?_, fun j hj => ?_, fun j hj r => ?_, fun k hk => ?_⟩
  · have hj : j < tc + 1 := hj
    show tK (psh op a b d T tc) j < tNm T + 1
    rw [hK]
    by_cases e : j = tc
    · rw [if_pos e]; omega
    · rw [if_neg e]; have := h4 j (by omega); omega
  · rw [hD]
    by_cases e : j = tNm T
    · rw [if_pos e]; exact hd
    · rw [if_neg e]; exact h5 j
  · rw [hdp]
    by_cases e : j = tc
    · rw [e, upN_s]; exact hd
    · rw [upN_n e]; exact h6 j
  · have hj : j < tc + 1 := hj
    show dp2 j = tD (psh op a b d T tc) (tK (psh op a b d T tc) j)
    rw [hdp, hK]
    by_cases e : j = tc
    · rw [e, upN_s, if_pos rfl, hD, if_pos rfl]
    · have := h4 j (by omega)
      rw [upN_n e, if_neg e, hD, if_neg (by omega)]
      exact h7 j (by omega)
  · have hj : j < tc + 1 := hj
    rw [hK]
    by_cases e : j = tc
    · rw [e, if_pos rfl]; exact hnew r
    · rw [if_neg e, hS j (by omega), h8 j (by omega) r, tv_old (h4 j (by omega))]
  · have := h9 k hk
    show ru k < tNm T + 1
    omega
theorem ng_dp {tc : Nat} {d e : Nat → Nat} (h : ∀ j, j < tc → d j = e j) : ngB tc d = ngB tc e := by
  unfold ngB
  by_cases h0 : tc = 0
  · rw [h0]; rfl
  · rw [h (tc - 1) (by omega)]
theorem jn_dp {tc : Nat} {d e : Nat → Nat} (h : ∀ j, j < tc → d j = e j) : jnO tc d = jnO tc e := by
  unfold jnO
  by_cases h0 : tc < 2
  · rw [decide_eq_true h0]; rfl
  · rw [h (tc - 1) (by omega), h (tc - 2) (by omega)]
theorem jc_dp {on : Bool} {tc : Nat} {d e : Nat → Nat} {x : Int32} (h : ∀ j, j < tc → d j = e j) : jnC on tc d x = jnC on tc e x := by unfold jnC; rw [jn_dp h]
/-- is -/
theorem iTe.is {T : TS} {ru : Nat → Nat} {nr c P : Nat} {vl dp : Nat → Nat} {ST : Nat → Nat → Bool} {on : Bool} {x y : Int32} (h : iTe T ru nr dp ST c) (hP : P ≤ 6) (hvl : ∀ p, p < 6 → 1 ≤ vl p ∧ vl p ≤ 4) : iTe (tsI (isO on P vl (tC T) x y) x.toNatClampNeg y.toNatClampNeg T) ru nr (bif isO on P vl (tC T) x y then upN dp (tC T) 1 else dp) (isF on P vl (tC T) x y ST) (c + 1) := by
  unfold tsI isF
  cases ho : isO on P vl (tC T) x y
  · exact h.more
  · have ho2 := ho
    unfold isO at ho2
    rw [Bool.and_eq_true, Bool.and_eq_true, Bool.not_eq_true', Bool.not_eq_true', beq_eq_false_iff_ne] at ho2
    obtain ⟨q, v, hq, hv, hv4, rfl, rfl⟩ := hv_of hP hvl (fun z => by rw [ho2.2.1] at z; cases z)
    rw [nI_clamp (by omega), nI_clamp (by omega)]
    have h8 := h.2.1
    refine h.push (op := 4) (Or.inl ⟨rfl, by omega, hv4⟩) (by omega) (Nat.le_refl _) (by decide) rfl (fun j hj => ?_) (fun r => ?_)
    · show (bif true && j == tC T then _ else ST j) = ST j
      rw [beq_false_of_ne (by omega)]; rfl
    · rw [tv_4]
      show (bif true && tC T == tC T then (fun r => dg r q == v) else ST (tC T)) r = _
      rw [beq_self_eq_true]; rfl
/-- not -/
theorem iTe.not {T : TS} {ru : Nat → Nat} {nr c : Nat} {dp : Nat → Nat} {ST : Nat → Nat → Bool} {on : Bool} (h : iTe T ru nr dp ST c) : iTe (tsN (!on && ngB (tC T) (dpT T)) T) ru nr (bif !on && ngB (tC T) dp then upN dp (tC T - 1) (dp (tC T - 1) + 1) else dp) (ntF on (tC T) dp ST) (c + 1) := by
  have he := ng_dp h.2.2.2.2.2.2.1
  unfold tsN ntF
  rw [← he]
  cases ho : (!on && ngB (tC T) dp)
  · exact h.more
  · rw [Bool.and_eq_true] at ho
    have hg := ho.2
    unfold ngB at hg
    rw [Bool.and_eq_true, Bool.not_eq_true', Bool.not_eq_true', beq_eq_false_iff_ne, beq_eq_false_iff_ne] at hg
    have h8 := h.2.1
    have hd := h.2.2.2.2.2.1 (tC T - 1)
    have hk := h.2.2.2.1 (tC T - 1) (by omega)
    have hdp := h.2.2.2.2.2.2.1 (tC T - 1) (by omega)
    show iTe (psh 3 (tK T (tC T - 1)) 0 (dpT T (tC T - 1) + 1) T (tC T - 1)) ru nr (upN dp (tC T - 1) (dp (tC T - 1) + 1)) _ (c + 1)
    rw [← hdp]
    refine h.push (op := 3) (Or.inr ⟨by decide, hk, by omega⟩) (by omega) (by omega) (by omega) rfl (fun j hj => ?_) (fun r => ?_)
    · show (bif true && j == tC T - 1 then _ else ST j) = ST j
      rw [beq_false_of_ne (by omega)]; rfl
    · rw [tv_3 hk]
      show (bif true && tC T - 1 == tC T - 1 then (fun r => !(ST (tC T - 1) r)) else ST (tC T - 1)) r = _
      rw [beq_self_eq_true, ← h.2.2.2.2.2.2.2.1 (tC T - 1) (by omega) r]; rfl
/-- join -/
theorem iTe.join {T : TS} {ru : Nat → Nat} {nr c : Nat} {dp : Nat → Nat} {ST : Nat → Nat → Bool} {on : Bool} {x : Int32} (h : iTe T ru nr dp ST c) : iTe (tsJ (jnC on (tC T) (dpT T) x) x.toNatClampNeg T) ru nr (bif jnC on (tC T) dp x then upN dp (tC T - 2) (max (dp (tC T - 2)) (dp (tC T - 1)) + 1) else dp) (joF on (tC T) dp x ST) (c + 1) := by
  have he := jc_dp (on := on) (x := x) h.2.2.2.2.2.2.1
  unfold tsJ joF
  rw [← he]
  cases ho : jnC on (tC T) dp x
  · exact h.more
  · unfold jnC at ho
    rw [Bool.and_eq_true, Bool.and_eq_true, decide_eq_true_iff] at ho
    have hg := ho.2.2
    unfold jnO at hg
    rw [Bool.and_eq_true, Bool.not_eq_true', Bool.not_eq_true', beq_eq_false_iff_ne, decide_eq_false_iff_not] at hg
    obtain ⟨op, _, hop, rfl⟩ := x_mid (a := 0) (b := 2) (by decide) (by decide) ho.2.1.1 ho.2.1.2
    rw [nI_clamp (by omega)]
    have h8 := h.2.1
    have hd1 := h.2.2.2.2.2.1 (tC T - 1)
    have hd2 := h.2.2.2.2.2.1 (tC T - 2)
    have hk1 := h.2.2.2.1 (tC T - 1) (by omega)
    have hk2 := h.2.2.2.1 (tC T - 2) (by omega)
    have e1 := h.2.2.2.2.2.2.1 (tC T - 1) (by omega)
    have e2 := h.2.2.2.2.2.2.1 (tC T - 2) (by omega)
    show iTe (psh op (tK T (tC T - 2)) (tK T (tC T - 1)) (max (dpT T (tC T - 2)) (dpT T (tC T - 1)) + 1) T (tC T - 2)) ru nr (upN dp (tC T - 2) (max (dp (tC T - 2)) (dp (tC T - 1)) + 1)) _ (c + 1)
    rw [← e1, ← e2]
    refine h.push (op := op) (Or.inr ⟨by omega, hk2, hk1⟩) (by omega) (by omega) (by omega) rfl (fun j hj => ?_) (fun r => ?_)
    · show (bif true && j == tC T - 2 then _ else ST j) = ST j
      rw [beq_false_of_ne (by omega)]; rfl
    · rw [tv_j (by omega) hk2 hk1]
      show (bif true && tC T - 2 == tC T - 2 then jnB op (ST (tC T - 2)) (ST (tC T - 1)) else ST (tC T - 2)) r = _
      rw [beq_self_eq_true]
      show jnB op (ST (tC T - 2)) (ST (tC T - 1)) r = _
      rw [show ST (tC T - 2) = (fun r => tv T r (tK T (tC T - 2))) from funext (h.2.2.2.2.2.2.2.1 (tC T - 2) (by omega)), show ST (tC T - 1) = (fun r => tv T r (tK T (tC T - 1))) from funext (h.2.2.2.2.2.2.2.1 (tC T - 1) (by omega))]
