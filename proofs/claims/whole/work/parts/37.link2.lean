/-! the number of goals -/
theorem cB_bl (f : Nat → Bool) : ∀ m, cB f (64 * m) = sumN (fun n => cB (fun t => f (64 * n + t)) 64) m
  | 0 => rfl
  | m + 1 => by
    rw [show 64 * (m + 1) = 64 * m + 64 by omega, cB_add, cB_bl f m]
    rfl
theorem sumN_congr {f g : Nat → Nat} : ∀ {k : Nat}, (∀ i, i < k → f i = g i) → sumN f k = sumN g k
  | 0, _ => rfl
  | k + 1, h => by
    show sumN f k + f k = sumN g k + g k
    rw [sumN_congr (k := k) (fun i hi => h i (by omega)), h k (by omega)]
theorem exB_congr {f g : Nat → Bool} {k : Nat} (h : ∀ r, r < k → f r = g r) : exB k f = exB k g := by
  rw [Bool.eq_iff_iff, exB_t, exB_t]
  constructor
  · rintro ⟨r, hr, hf⟩; exact ⟨r, hr, by rw [← h r hr]; exact hf⟩
  · rintro ⟨r, hr, hf⟩; exact ⟨r, hr, by rw [h r hr]; exact hf⟩
theorem cn_cB (n : Nat) : ∀ i, cn n i = cB (fun p => n.testBit p) i
  | 0 => rfl
  | i + 1 => by
    show cn n i + cond (n.testBit i) 1 0 = cB (fun p => n.testBit p) i + cond (n.testBit i) 1 0
    rw [cn_cB n i]
theorem ivs_w {iv : Nat → Nat} (n t : Nat) : cn (ivs iv n (ux n t) 6) 6 = wT iv n t 6 := by
  rw [cn_cB]
  unfold wT
  apply cB_congr
  intro p hp
  rw [ivs_bit, decide_eq_true hp, Bool.true_and, dg_ux n t hp]
  cases n.testBit p <;> rfl
theorem ivs_0 {iv : Nat → Nat} (n t : Nat) : ivs iv n (ux n t) 6 = 0 ↔ wT iv n t 6 = 0 := by
  constructor
  · intro h
    rw [← ivs_w, h]; decide
  · intro h
    apply Nat.eq_of_testBit_eq
    intro p
    rw [Nat.zero_testBit, ivs_bit]
    by_cases hp : p < 6
    · have := cB_zero.mp h p hp
      rw [dg_ux n t hp]
      cases hb : n.testBit p
      · rw [Bool.false_and, Bool.and_false]
      · rw [hb] at this; rw [decide_eq_true hp]; exact this
    · rw [decide_eq_false hp, Bool.false_and]
section LK3
variable {P : Nat} {vl iv : Nat → Nat} {M ak : Nat → Bool} {cov : Nat → Nat → Bool}
theorem any_V (hP0 : ¬ P = 0) {n t : Nat} (h3 : cn n 6 ≤ 3) (hn : n < 2 ^ P) (ht : t < 4 ^ cn n 6) : anyR (VV vl iv M) n (ux n t) = inV P (kkI P vl iv M) (nI 2) 4096 (64 * n + t) := by
  have h64 : t < 64 := Nat.lt_of_lt_of_le ht (p4le (b := 3) h3)
  unfold anyR inV
  apply exB_congr
  intro r hr
  unfold inF hitB
  rw [show (64 * n + t) / 64 = n by omega, show (64 * n + t) % 64 = t by omega, decide_eq_true hn, decide_eq_true h3, Bool.true_and, Bool.true_and, kk_kd hP0]
  rw [Bool.eq_iff_iff, Bool.and_eq_true, Bool.and_eq_true, beq_iff_eq, beq_iff_eq, and_fo hr ht, decide_eq_true_iff, kd_2]
theorem any_N (hP0 : ¬ P = 0) {n t : Nat} (h3 : cn n 6 ≤ 3) (hn : n < 2 ^ P) (ht : t < 4 ^ cn n 6) : anyR (NN vl iv M) n (ux n t) = inV P (kkI P vl iv M) (nI 1) 4096 (64 * n + t) := by
  have h64 : t < 64 := Nat.lt_of_lt_of_le ht (p4le (b := 3) h3)
  unfold anyR inV
  apply exB_congr
  intro r hr
  unfold inF hitB
  rw [show (64 * n + t) / 64 = n by omega, show (64 * n + t) % 64 = t by omega, decide_eq_true hn, decide_eq_true h3, Bool.true_and, Bool.true_and, kk_kd hP0]
  rw [Bool.eq_iff_iff, Bool.and_eq_true, Bool.and_eq_true, beq_iff_eq, beq_iff_eq, and_fo hr ht, decide_eq_true_iff, kd_n]
theorem any_ok {S : Nat → Bool} (hS : ∀ r, S r = true → all6 vl r 6 = true) {n t : Nat} (ht : t < 4 ^ cn n 6) (hok : ¬ okT vl n t 6 = true) : anyR S n (ux n t) = false := by
  apply ts_nt
  intro h
  obtain ⟨r, hr, hSr, he⟩ := anyR_t.mp h
  apply hok
  have hd := (tp_iff ht).mp ((and_fo hr ht).mp he)
  exact okT_iff.mpr (fun p hp hb => by rw [← hd p hp hb]; exact all6_iff.mp (hS r hSr) p hp)
theorem V_all {r : Nat} (h : VV vl iv M r = true) : all6 vl r 6 = true := all_of (iv := iv) (M := M) (by rw [h]; rfl)
theorem N_all {r : Nat} (h : NN vl iv M r = true) : all6 vl r 6 = true := all_of (iv := iv) (M := M) (by rw [h, Bool.or_true])
theorem go_gl (hP0 : ¬ P = 0) {n t : Nat} (han : ak n = true) (h3 : cn n 6 ≤ 3) (hn : n < 2 ^ P) (ht : t < 4 ^ cn n 6) : goG P vl iv (kkI P vl iv M) ak (64 * n + t) = glF iv (VV vl iv M) (NN vl iv M) n t := by
  have h64 : t < 64 := Nat.lt_of_lt_of_le ht (p4le (b := 3) h3)
  unfold goG glF glB
  rw [show (64 * n + t) / 64 = n by omega, show (64 * n + t) % 64 = t by omega, decide_eq_true hn, han, ivs_w, Bool.true_and, Bool.true_and]
  by_cases hok : okT vl n t 6 = true
  · have hw : wgI vl iv n t = nI (wT iv n t 6) := by unfold wgI; rw [if_pos ⟨ht, hok⟩]
    have hwl := wT_le iv n t 6
    rw [hw, any_V hP0 h3 hn ht, any_N hP0 h3 hn ht]
    by_cases h0 : wT iv n t 6 = 0
    · rw [(ivs_0 n t).mpr h0, h0, beq_self_eq_true, decide_eq_true (show nI 0 = 0 from rfl), decide_eq_false (show ¬ nI 0 = nI 1 by decide), Bool.true_and, Bool.false_and, Bool.or_false, cond_true]
    · rw [beq_false_of_ne (fun z => h0 ((ivs_0 n t).mp z)), cond_false, decide_eq_false (fun z => h0 ((n_z (by omega)).mp z)), Bool.false_and, Bool.false_or]
      congr 1
      rw [Bool.eq_iff_iff, decide_eq_true_iff, nI_eq (by omega) (by decide), beq_iff_eq]
  · have hw : wgI vl iv n t = -1 := by unfold wgI; rw [if_neg (fun z => hok z.2)]
    rw [hw, any_ok (S := VV vl iv M) (fun r h => V_all h) ht hok, any_ok (S := NN vl iv M) (fun r h => N_all h) ht hok, Bool.and_false, decide_eq_false (by decide), decide_eq_false (by decide), Bool.false_and, Bool.false_and]
    cases (ivs iv n (ux n t) 6 == 0) <;> rfl
theorem goals_eq (hP0 : ¬ P = 0) (hak : AKP P ak) : sumN (gsF iv (VV vl iv M) (NN vl iv M) ak) 64 = cB (goG P vl iv (kkI P vl iv M) ak) 4096 := by
  rw [show (4096 : Nat) = 64 * 64 from rfl, cB_bl]
  apply sumN_congr
  intro n hn
  unfold gsF
  cases han : ak n
  · show 0 = _
    exact (cB_zero.mpr (fun t ht => by
      show goG P vl iv (kkI P vl iv M) ak (64 * n + t) = false
      exact (go_b (by rw [show (64 * n + t) / 64 = n by omega]; exact han)).symm)).symm
  · obtain ⟨_, h3, hnP⟩ := ak_3 hak han
    have h4 : 4 ^ cn n 6 ≤ 64 := p4le (b := 3) h3
    show cB (glF iv (VV vl iv M) (NN vl iv M) n) (4 ^ cn n 6) = _
    rw [cB_ext (f := fun t => goG P vl iv (kkI P vl iv M) ak (64 * n + t)) (a := 4 ^ cn n 6) (b := 64) h4 (fun t h1 h2 => by
      show goG P vl iv (kkI P vl iv M) ak (64 * n + t) = false
      have hw : wgI vl iv n t = -1 := by unfold wgI; rw [if_neg (fun z => by omega)]
      refine (go_c (Or.inl ?_) (Or.inl ?_)).symm
      · rw [show (64 * n + t) / 64 = n by omega, show (64 * n + t) % 64 = t by omega, hw]; decide
      · rw [show (64 * n + t) / 64 = n by omega, show (64 * n + t) % 64 = t by omega, hw]; decide)]
    exact cB_congr (fun t ht => (go_gl hP0 han h3 hnP ht).symm)
/-! the next row -/
theorem cs_go (hP0 : ¬ P = 0) (hak : AKP P ak) {r n : Nat} (hr : r < 4096) (hkd : (VV vl iv M r || NN vl iv M r) = true) (h : csB iv (VV vl iv M) (NN vl iv M) ak r n = true) : goG P vl iv (kkI P vl iv M) ak (64 * n + tp n r) = true := by
  have h3 := (ak_3 hak (cs_ak h)).2.1
  have h1 := cn_tk (cov := fun _ _ => false) hP0 hak hr hkd (n := n)
  unfold tkG at h1
  rw [h, Bool.not_false, Bool.and_true] at h1
  unfold cnB at h1
  rw [Bool.and_eq_true, Bool.and_eq_true, ix_3 h3, opX_0] at h1
  exact h1.2.1
theorem gn_tk (r : Nat) : gnB iv (VV vl iv M) (NN vl iv M) ak cov r = cB (tkG iv (VV vl iv M) (NN vl iv M) ak cov r) 64 := rfl
/-- a row that gains shows an open tuple -/
theorem gn_open (hP0 : ¬ P = 0) (hak : AKP P ak) {r : Nat} (hr : r < 4096) (hkd : (VV vl iv M r || NN vl iv M r) = true) (h : ¬ gnB iv (VV vl iv M) (NN vl iv M) ak cov r = 0) : ∃ i, i < 4096 ∧ opX P vl iv (kkI P vl iv M) ak cov i = true ∧ (VV vl iv M r = true → wgI vl iv (i / 64) (i % 64) = 0) := by
  obtain ⟨n, hn, hf⟩ := cB_ex h
  rw [Bool.and_eq_true, Bool.not_eq_true'] at hf
  obtain ⟨hc, hv⟩ := hf
  have h3 := (ak_3 hak (cs_ak hc)).2.1
  have ht := tp_64 r h3
  refine ⟨64 * n + tp n r, by omega, ?_, fun hV => ?_⟩
  · unfold opX
    rw [cs_go hP0 hak hr hkd hc, show (64 * n + tp n r) / 64 = n by omega, show (64 * n + tp n r) % 64 = tp n r by omega, hv]; rfl
  · rw [show (64 * n + tp n r) / 64 = n by omega, show (64 * n + tp n r) % 64 = tp n r by omega, wg_row n (V_all hV), wrn_0 n ((VN_K vl iv M r).1 hV)]; rfl
/-- an open tuple shows a row that gains -/
theorem open_gn (hP0 : ¬ P = 0) (hak : AKP P ak) {i : Nat} (hi : i < 4096) (h : opX P vl iv (kkI P vl iv M) ak cov i = true) : ∃ r, r < 4096 ∧ ¬ gnB iv (VV vl iv M) (NN vl iv M) ak cov r = 0 ∧ ((wgI vl iv (i / 64) (i % 64) = 0 ∧ VV vl iv M r = true) ∨ (¬ wgI vl iv (i / 64) (i % 64) = 0 ∧ NN vl iv M r = true)) := by
  have ho := h
  unfold opX at h
  rw [Bool.and_eq_true, Bool.not_eq_true'] at h
  obtain ⟨hg, hc⟩ := h
  have hg2 := hg
  unfold goG at hg2
  rw [Bool.and_eq_true, Bool.and_eq_true, decide_eq_true_iff, Bool.or_eq_true, Bool.and_eq_true, Bool.and_eq_true, decide_eq_true_iff, decide_eq_true_iff] at hg2
  obtain ⟨hnP, han, hw⟩ := hg2
  have h3 := (ak_3 hak han).2.1
  have key : ∀ (c : Int32), inV P (kkI P vl iv M) c 4096 i = true → ∃ r, r < 4096 ∧ kkI P vl iv M r = c ∧ tp (i / 64) r = i % 64 := fun c hin => by
    obtain ⟨r, hr, hf⟩ := exB_t.mp hin
    unfold inF hitB at hf
    rw [Bool.and_eq_true, Bool.and_eq_true, Bool.and_eq_true, decide_eq_true_iff, beq_iff_eq] at hf
    exact ⟨r, hr, hf.1, hf.2.2.2⟩
  have pos : ∀ r, r < 4096 → tp (i / 64) r = i % 64 → csB iv (VV vl iv M) (NN vl iv M) ak r (i / 64) = true → ¬ gnB iv (VV vl iv M) (NN vl iv M) ak cov r = 0 := fun r hr ht hcs hz => by
    have := cB_zero.mp hz (i / 64) (by omega)
    rw [hcs, ht, hc] at this
    cases this
  rcases hw with ⟨hw, hin⟩ | ⟨hw, hin⟩
  · obtain ⟨r, hr, hk, ht⟩ := key _ hin
    rw [kk_kd hP0, kd_2] at hk
    have hV : VV vl iv M r = true := hk
    refine ⟨r, hr, pos r hr ht ?_, Or.inl ⟨hw, hV⟩⟩
    unfold csB
    rw [han, hV, inb_iff.mpr (fun p hp hb => by rw [cB_zero.mp ((VN_K vl iv M r).1 hV) p hp] at hb; cases hb)]; rfl
  · obtain ⟨r, hr, hk, ht⟩ := key _ hin
    rw [kk_kd hP0, kd_n] at hk
    have hN : NN vl iv M r = true := hk
    refine ⟨r, hr, pos r hr ht ?_, Or.inr ⟨fun z => by rw [z] at hw; exact absurd hw (by decide), hN⟩⟩
    unfold csB
    have hi2 : inb iv r (i / 64) 6 = true := by
      cases hib : inb iv r (i / 64) 6
      · have hw2 := wg_row (iv := iv) (i / 64) (N_all hN)
        rw [ht, hw, wrn_n ((VN_K vl iv M r).2 hN) hib] at hw2
        exact absurd hw2 (by decide)
      · rfl
    rw [han, hN, hi2, Bool.or_true]; rfl
end LK3
