/-! the invariant of the law's loop, after c calls -/
def iSp (P : Nat) (vl iv : Nat → Nat) (nr : Nat) : Prop := P ≤ 6 ∧ (∀ p, p < 6 → 1 ≤ vl p ∧ vl p ≤ 4) ∧ (∀ p, P ≤ p → p < 6 → vl p = 1) ∧ (∀ p, p < 6 → iv p < 16) ∧ (∀ p, P ≤ p → p < 6 → iv p = 0) ∧ nr ≤ 8
def iRo (vl iv : Nat → Nat) (M : Nat → Bool) (fM fV fN : Nat → Int64) : Prop := RS fM M ∧ RS fV (VV vl iv M) ∧ RS fN (NN vl iv M)
def iRe (P : Nat) (ak : Int64) (nk : Nat) (rs rt : Nat → Nat) : Prop := nk ≤ 8 ∧ AKP P (bL ak) ∧ (∀ n, n < 64 → exB nk (akB rs rt n) = bL ak n) ∧ (∀ k, rs k < 64) ∧ ∀ k, rt k < 64
def iOn (P : Nat) (vl iv : Nat → Nat) (M : Nat → Bool) (ak : Int64) (gz : GS) (cv : Nat → Int64) (gs : Nat → Nat) (opf : Nat → Bool) (oP : Int32) : Prop := ¬ P = 0 ∧ (cvI cv gz.1 ∧ gnI iv (VV vl iv M) (NN vl iv M) (bL ak) P gs gz.1) ∧ (∀ i, i < 4096 → opf i = opX P vl iv (kkI P vl iv M) (bL ak) gz.1 i) ∧ oP = nI (cB (plX P vl iv (kkI P vl iv M) (bL ak) gz.1) 4096) ∧ gz.2.2.2.2 = nI (cB (opX P vl iv (kkI P vl iv M) (bL ak) gz.1) 4096)
theorem bL_hi {x : Int64} {t : Nat} (h : 64 ≤ t) : bL x t = false := BitVec.getLsbD_of_ge _ _ h
theorem RS.congr {f : Nat → Int64} {S S2 : Nat → Bool} (h : RS f S) (e : ∀ r, r < 4096 → S r = S2 r) : RS f S2 := fun w hw t ht => by rw [h w hw t ht]; exact e _ (by omega)
/-- parameter -/
theorem iSp.par {P nr : Nat} {vl iv : Nat → Nat} {on : Bool} {x : Int32} (h : iSp P vl iv nr) : iSp (bif pmO on P x then P + 1 else P) (bif pmO on P x then upN vl P x.toNatClampNeg else vl) iv nr := by
  cases ho : pmO on P x
  · exact h
  · unfold pmO pmC at ho
    rw [Bool.and_eq_true, decide_eq_true_iff] at ho
    obtain ⟨v, hv2, hv4, rfl⟩ := x_mid (by decide) (by decide) ho.2.1 ho.2.2.1
    obtain ⟨h1, h2, h3, h4, h5, h6⟩ := h
    show iSp (P + 1) (upN vl P (nI v).toNatClampNeg) iv nr
    rw [nI_clamp (by omega)]
    exact ⟨by omega, upV h2 hv2 hv4, fun p hp hp6 => by rw [upN_n (show p ≠ P by omega)]; exact h3 p (by omega) hp6, h4, fun p hp hp6 => h5 p (by omega) hp6, h6⟩
theorem AKP.up {P Q : Nat} {ak : Nat → Bool} (h : AKP P ak) (hPQ : P ≤ Q) : AKP Q ak := ⟨h.1, fun n hn ha => ⟨(h.2.1 n hn ha).1, Nat.lt_of_lt_of_le (h.2.1 n hn ha).2 (Nat.pow_le_pow_right (by decide) hPQ)⟩, h.2.2⟩
theorem iRe.par {P nk : Nat} {ak : Int64} {rs rt : Nat → Nat} {on : Bool} {x : Int32} (h : iRe P ak nk rs rt) : iRe (bif pmO on P x then P + 1 else P) ak nk rs rt := by
  cases pmO on P x
  · exact h
  · exact ⟨h.1, h.2.1.up (Nat.le_succ _), h.2.2⟩
theorem pm_off {on : Bool} {P : Nat} {x : Int32} (h : pmO on P x = true) : on = false := by unfold pmO at h; rw [Bool.and_eq_true, Bool.not_eq_true'] at h; exact h.1
/-- invalid -/
theorem iSp.inv {P nr : Nat} {vl iv : Nat → Nat} {on : Bool} {x y : Int32} (h : iSp P vl iv nr) : iSp P vl (bif ivO on P vl iv x y then ivN iv x y else iv) nr := by
  cases ho : ivO on P vl iv x y
  · exact h
  · unfold ivO at ho
    rw [Bool.and_eq_true, Bool.and_eq_true] at ho
    obtain ⟨h1, h2, h3, h4, h5, h6⟩ := h
    obtain ⟨q, v, hq, hv, hv4, rfl, rfl⟩ := hv_of h1 h2 (fun z => by rw [ho.2.1] at z; cases z)
    show iSp P vl (ivN iv (nI q) (nI v)) nr
    rw [ivN_n (by omega) (by omega)]
    exact ⟨h1, h2, h3, upI h4 (or16 (h4 q (by omega)) hv4), fun p hp hp6 => by rw [upN_n (show p ≠ q by omega)]; exact h5 p hp hp6, h6⟩
theorem iv_off {on : Bool} {P : Nat} {vl iv : Nat → Nat} {x y : Int32} (h : ivO on P vl iv x y = true) : on = false := by unfold ivO at h; rw [Bool.and_eq_true, Bool.not_eq_true'] at h; exact h.1
/-- relation -/
theorem iRe.rel {P nk : Nat} {ak d : Int64} {rs rt : Nat → Nat} {on : Bool} {x y : Int32} (hP6 : P ≤ 6) (h : iRe P ak nk rs rt) (hd : ∀ s, s < 64 → bL d s = (bL ak s || (rlO on P nk x y && adB x.toNatClampNeg y.toNatClampNeg s))) : iRe P d (bif rlO on P nk x y then nk + 1 else nk) (bif rlO on P nk x y then upN rs nk x.toNatClampNeg else rs) (bif rlO on P nk x y then upN rt nk y.toNatClampNeg else rt) := by
  obtain ⟨h1, h2, h3, h4, h5⟩ := h
  cases ho : rlO on P nk x y
  · rw [ho] at hd
    have e : ∀ s, s < 64 → bL d s = bL ak s := fun s hs => by rw [hd s hs, Bool.false_and, Bool.or_false]
    refine ⟨h1, ⟨(e 0 (by decide)).trans h2.1, fun n hn ha => h2.2.1 n hn ((e n hn).symm.trans ha), fun n hn => bL_hi hn⟩, fun n hn => (h3 n hn).trans (e n hn).symm, h4, h5⟩
  · rw [ho] at hd
    unfold rlO rlC at ho
    rw [Bool.and_eq_true, Bool.and_eq_true, Bool.and_eq_true, decide_eq_true_iff, Bool.not_eq_true', Bool.not_eq_true', beq_eq_false_iff_ne] at ho
    obtain ⟨n, hn0, hnP, rfl⟩ := isS_of hP6 (fun z => by rw [ho.2.1.1] at z; cases z)
    obtain ⟨k, hk1, hk3, rfl⟩ := x_mid (by decide) (by decide) ho.2.1.2.1 ho.2.1.2.2.1
    have h64 := pw2le hP6
    rw [nI_clamp (by omega), nI_clamp (by omega)] at hd
    have e : ∀ s, s < 64 → bL d s = (bL ak s || adB n k s) := fun s hs => by rw [hd s hs, Bool.true_and]
    show iRe P d (nk + 1) (upN rs nk (nI n).toNatClampNeg) (upN rt nk (nI k).toNatClampNeg)
    rw [nI_clamp (by omega), nI_clamp (by omega)]
    refine ⟨by omega, ⟨?_, fun m hm ha => ?_, fun m hm => bL_hi hm⟩, fun m hm => ?_, fun j => ?_, fun j => ?_⟩
    · rw [e 0 (by decide), h2.1]; rfl
    · rw [e m hm, Bool.or_eq_true] at ha
      rcases ha with ha | ha
      · exact h2.2.1 m hm ha
      · unfold adB at ha
        rw [Bool.and_eq_true, Bool.and_eq_true, decide_eq_true_iff, decide_eq_true_iff, beq_iff_eq] at ha
        refine ⟨by omega, Nat.lt_of_le_of_lt ?_ hnP⟩
        rw [← ha.2.1]
        exact Nat.and_le_right
    · rw [exB_s, e m hm, ← h3 m hm]
      congr 1
      · apply exB_congr
        intro j hj
        unfold akB
        rw [upN_n (show j ≠ nk by omega), upN_n (show j ≠ nk by omega)]
      · unfold akB adB
        rw [upN_s, upN_s]
        cases m with
        | zero =>
          rw [cn_0, beq_false_of_ne (show ¬ 0 = k by omega), Bool.and_false]
          rfl
        | succ m => rw [decide_eq_true (Nat.succ_pos m), Bool.true_and]
    · by_cases ej : j = nk
      · rw [ej, upN_s]; omega
      · rw [upN_n ej]; exact h4 j
    · by_cases ej : j = nk
      · rw [ej, upN_s]; omega
      · rw [upN_n ej]; exact h5 j
theorem rl_off {on : Bool} {P nk : Nat} {x y : Int32} (h : rlO on P nk x y = true) : on = false := by unfold rlO at h; rw [Bool.and_eq_true, Bool.not_eq_true'] at h; exact h.1
/-- require -/
def tsR (tc : Nat) (T : TS) : TS := (T.1, T.2.1, T.2.2.1, T.2.2.2.1, T.2.2.2.2.1, tc, T.2.2.2.2.2.2)
theorem tv_R {T : TS} {tc r t : Nat} : tv (tsR tc T) r t = tv T r t := tv_congr (n := t + 1) (fun _ _ => ⟨rfl, rfl, rfl⟩) (Nat.lt_succ_self _)
theorem MM_R {T : TS} {tc nr : Nat} {ru : Nat → Nat} : MMf (tsR tc T) ru nr = MMf T ru nr := by
  funext r
  exact alB_congr (fun k _ => tv_R)
theorem iTe.req {T : TS} {ru : Nat → Nat} {nr c : Nat} {dp : Nat → Nat} {ST : Nat → Nat → Bool} {on : Bool} (h : iTe T ru nr dp ST c) : iTe (tsR (bif rqO on (tC T) nr then tC T - 1 else tC T) T) (bif rqO on (tC T) nr then upN ru nr (tK T (tC T - 1)) else ru) (bif rqO on (tC T) nr then nr + 1 else nr) dp ST (c + 1) := by
  obtain ⟨h1, h2, h3, h4, h5, h6, h7, h8, h9⟩ := h
  have hle : (bif rqO on (tC T) nr then tC T - 1 else tC T) ≤ tC T := by cases rqO on (tC T) nr <;> simp
  refine ⟨h1, Nat.le_trans hle h2, (show tNm T ≤ c + 1 by omega), fun j hj => h4 j (Nat.lt_of_lt_of_le hj hle), h5, h6, fun j hj => h7 j (Nat.lt_of_lt_of_le hj hle), fun j hj r => (h8 j (Nat.lt_of_lt_of_le hj hle) r).trans tv_R.symm, ?_⟩
  cases ho : rqO on (tC T) nr
  · exact h9
  · unfold rqO at ho
    rw [Bool.and_eq_true, Bool.and_eq_true, Bool.not_eq_true', Bool.not_eq_true', beq_eq_false_iff_ne] at ho
    intro k hk
    have hk : k < nr + 1 := hk
    show upN ru nr (tK T (tC T - 1)) k < tNm T
    by_cases e : k = nr
    · rw [e, upN_s]; exact h4 (tC T - 1) (by omega)
    · rw [upN_n e]; exact h9 k (by omega)
theorem MM_rq {T : TS} {ru : Nat → Nat} {nr c : Nat} {dp : Nat → Nat} {ST : Nat → Nat → Bool} {on : Bool} (h : iTe T ru nr dp ST c) : rqM on (tC T) nr (MMf T ru nr) ST = MMf (tsR (bif rqO on (tC T) nr then tC T - 1 else tC T) T) (bif rqO on (tC T) nr then upN ru nr (tK T (tC T - 1)) else ru) (bif rqO on (tC T) nr then nr + 1 else nr) := by
  rw [MM_R]
  unfold rqM
  cases ho : rqO on (tC T) nr
  · rfl
  · unfold rqO at ho
    rw [Bool.and_eq_true, Bool.and_eq_true, Bool.not_eq_true', Bool.not_eq_true', beq_eq_false_iff_ne] at ho
    funext r
    show (alB (ruF T ru r) nr && ST (tC T - 1) r) = (alB (ruF T (upN ru nr (tK T (tC T - 1))) r) nr && ruF T (upN ru nr (tK T (tC T - 1))) r nr)
    rw [alB_congr (f := ruF T (upN ru nr (tK T (tC T - 1))) r) (g := ruF T ru r) (fun k hk => by unfold ruF; rw [upN_n (show k ≠ nr by omega)]), h.2.2.2.2.2.2.2.1 (tC T - 1) (by omega) r]
    unfold ruF
    rw [upN_s]
theorem rq_off {on : Bool} {tc nr : Nat} (h : rqO on tc nr = true) : on = false := by unfold rqO at h; rw [Bool.and_eq_true, Bool.not_eq_true'] at h; exact h.1
theorem nr_8 {on : Bool} {tc nr : Nat} (h : nr ≤ 8) : (bif rqO on tc nr then nr + 1 else nr) ≤ 8 := by
  cases ho : rqO on tc nr
  · exact h
  · unfold rqO at ho
    rw [Bool.and_eq_true, Bool.and_eq_true, Bool.not_eq_true', Bool.not_eq_true', Bool.not_eq_true', beq_eq_false_iff_ne, beq_eq_false_iff_ne] at ho
    show nr + 1 ≤ 8
    omega
theorem ns_8 {on : Bool} {ns : Nat} (h : ns ≤ 8) : (bif sdO on ns then ns + 1 else ns) ≤ 8 := by
  cases ho : sdO on ns
  · exact h
  · unfold sdO at ho
    rw [Bool.and_eq_true, Bool.not_eq_true', Bool.not_eq_true', beq_eq_false_iff_ne] at ho
    show ns + 1 ≤ 8
    omega
/-- the terms pushed don't change which rows meet the rules -/
theorem MM_is {T : TS} {ru : Nat → Nat} {nr q v : Nat} {ok : Bool} (h : ∀ k, k < nr → ru k < tNm T) : MMf (tsI ok q v T) ru nr = MMf T ru nr := by
  unfold tsI
  cases ok
  · rfl
  · exact MM_p h
theorem MM_no {T : TS} {ru : Nat → Nat} {nr : Nat} {ok : Bool} (h : ∀ k, k < nr → ru k < tNm T) : MMf (tsN ok T) ru nr = MMf T ru nr := by
  unfold tsN
  cases ok
  · rfl
  · exact MM_p h
theorem MM_jo {T : TS} {ru : Nat → Nat} {nr op : Nat} {ok : Bool} (h : ∀ k, k < nr → ru k < tNm T) : MMf (tsJ ok op T) ru nr = MMf T ru nr := by
  unfold tsJ
  cases ok
  · rfl
  · exact MM_p h
theorem tC_I {T : TS} {q v : Nat} {ok : Bool} : tC (tsI ok q v T) = (bif ok then tC T + 1 else tC T) := by unfold tsI; cases ok <;> rfl
theorem tC_J {T : TS} {op : Nat} {ok : Bool} (h : ok = true → 2 ≤ tC T) : tC (tsJ ok op T) = (bif ok then tC T - 1 else tC T) := by
  unfold tsJ
  cases ok
  · rfl
  · show tC T - 2 + 1 = tC T - 1
    have := h rfl
    omega
theorem tC_N {T : TS} {ok : Bool} (h : ok = true → 1 ≤ tC T) : tC (tsN ok T) = tC T := by
  unfold tsN
  cases ok
  · rfl
  · show tC T - 1 + 1 = tC T
    have := h rfl
    omega
theorem ng_pos {on : Bool} {tc : Nat} {dp : Nat → Nat} (h : (!on && ngB tc dp) = true) : 1 ≤ tc := by
  unfold ngB at h
  rw [Bool.and_eq_true, Bool.and_eq_true, Bool.not_eq_true', Bool.not_eq_true', beq_eq_false_iff_ne] at h
  omega
theorem jn_pos {on : Bool} {tc : Nat} {dp : Nat → Nat} {x : Int32} (h : jnC on tc dp x = true) : 2 ≤ tc := by
  unfold jnC jnO at h
  rw [Bool.and_eq_true, Bool.and_eq_true, Bool.and_eq_true, Bool.not_eq_true', Bool.not_eq_true', decide_eq_false_iff_not] at h
  omega
theorem lw_cmp {L c : Nat} (hL : L ≤ 1536) (hc : c ≤ 512) : nI L - nI 3 < nI (3 * c) ↔ L < 3 * c + 3 := by
  rw [Int32.lt_iff_toInt_lt, pk_sub_toInt (by omega) (by decide), nI_toInt (by omega)]
  omega
theorem inc3 (c : Nat) : nI (3 * c) + 3 = nI (3 * (c + 1)) := by
  show nI (3 * c) + nI 3 = _
  rw [nI_add]; congr 1
