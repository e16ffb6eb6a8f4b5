section LK4
variable {P : Nat} {vl iv : Nat → Nat} {M ak : Nat → Bool} {cov : Nat → Nat → Bool} {kf : Nat → Int32} {opf : Nat → Bool}
theorem V_lt (hv1 : ∀ p, P ≤ p → p < 6 → vl p = 1) {r : Nat} (hr : r < 4096) (h : (VV vl iv M r || NN vl iv M r) = true) : r < 4 ^ P := all_P hr hv1 (all_of h)
theorem pl_ex (hP0 : ¬ P = 0) (hak : AKP P ak) (h : ¬ cB (plX P vl iv (kkI P vl iv M) ak cov) 4096 = 0) : ∃ r, r < 4096 ∧ VV vl iv M r = true ∧ ¬ gnB iv (VV vl iv M) (NN vl iv M) ak cov r = 0 := by
  obtain ⟨i, hi, hf⟩ := cB_ex h
  unfold plX at hf
  rw [Bool.and_eq_true, decide_eq_true_iff] at hf
  obtain ⟨r, hr, hg, h2⟩ := open_gn hP0 hak hi hf.1
  rcases h2 with h2 | h2
  · exact ⟨r, hr, h2.2, hg⟩
  · exact absurd hf.2 h2.1
theorem op_ex (hP0 : ¬ P = 0) (hak : AKP P ak) (hpl : cB (plX P vl iv (kkI P vl iv M) ak cov) 4096 = 0) (h : ¬ cB (opX P vl iv (kkI P vl iv M) ak cov) 4096 = 0) : ∃ r, r < 4096 ∧ NN vl iv M r = true ∧ ¬ gnB iv (VV vl iv M) (NN vl iv M) ak cov r = 0 := by
  obtain ⟨i, hi, hf⟩ := cB_ex h
  obtain ⟨r, hr, hg, h2⟩ := open_gn hP0 hak hi hf
  rcases h2 with h2 | h2
  · have := cB_zero.mp hpl i hi
    unfold plX at this
    rw [hf, decide_eq_true h2.1] at this
    cases this
  · exact ⟨r, hr, h2.2, hg⟩
theorem V_none (hP0 : ¬ P = 0) (hak : AKP P ak) (hpl : cB (plX P vl iv (kkI P vl iv M) ak cov) 4096 = 0) {s : Nat} (hs : s < 4096) (hV : VV vl iv M s = true) : gnB iv (VV vl iv M) (NN vl iv M) ak cov s = 0 := by
  apply Classical.byContradiction
  intro h
  obtain ⟨i, hi, ho, hw⟩ := gn_open hP0 hak hs (by rw [hV]; rfl) h
  have := cB_zero.mp hpl i hi
  unfold plX at this
  rw [ho, decide_eq_true (hw hV)] at this
  cases this
theorem nx_g (hP0 : ¬ P = 0) (hP6 : P ≤ 6) (hak : AKP P ak) (hkf : ∀ s, s < 4096 → kf s = kkI P vl iv M s) (ho : ∀ i, i < 4096 → opf i = opX P vl iv (kkI P vl iv M) ak cov i) {s : Nat} (hs : s < 4096) (hkd : (VV vl iv M s || NN vl iv M s) = true) : cB (cnB vl iv (kf s) opf s) (2 ^ P) = gnB iv (VV vl iv M) (NN vl iv M) ak cov s := by
  rw [hkf s hs, cnt_tk hP0 hP6 hak hs hkd ho]; rfl
theorem nx_2 (hP0 : ¬ P = 0) (hP6 : P ≤ 6) (hv1 : ∀ p, P ≤ p → p < 6 → vl p = 1) (hak : AKP P ak) (hkf : ∀ s, s < 4096 → kf s = kkI P vl iv M s) (ho : ∀ i, i < 4096 → opf i = opX P vl iv (kkI P vl iv M) ak cov i) (hpl : ¬ cB (plX P vl iv (kkI P vl iv M) ak cov) 4096 = 0) {n : Nat} (hq : bsQ (fun r => decide (kf r = nI 2)) (fun r => cB (cnB vl iv (kf r) opf r) (2 ^ P)) 4096 (some n)) : bst2 (VV vl iv M) (NN vl iv M) (gnB iv (VV vl iv M) (NN vl iv M) ak cov) (4 ^ P) (some n) := by
  obtain ⟨r0, hr0, hV0, hg0⟩ := pl_ex hP0 hak hpl
  obtain ⟨hn4, hR, hmax⟩ := hq
  have h4 : 4 ^ P ≤ 4096 := p4le (b := 6) hP6
  have hVk : ∀ s, s < 4096 → (decide (kf s = nI 2) = true ↔ VV vl iv M s = true) := fun s hs => by rw [decide_eq_true_iff, hkf s hs, kk_kd hP0, kd_2]
  have hVn := (hVk n hn4).mp hR
  have hge : ∀ s, s < 4096 → VV vl iv M s = true → cB (cnB vl iv (kf s) opf s) (2 ^ P) = gnB iv (VV vl iv M) (NN vl iv M) ak cov s := fun s hs hV => nx_g hP0 hP6 hak hkf ho hs (by rw [hV]; rfl)
  refine Or.inl ⟨⟨V_lt hv1 hn4 (by rw [hVn]; rfl), hVn, ?_, fun s hs hV => ?_⟩, fun z => by cases z⟩
  · have := (hmax r0 hr0 ((hVk r0 hr0).mpr hV0)).1
    simp only [hge r0 hr0 hV0, hge n hn4 hVn] at this
    omega
  · have := hmax s (by omega) ((hVk s (by omega)).mpr hV)
    simp only [hge s (by omega) hV, hge n hn4 hVn] at this
    exact this
theorem nx_1 (hP0 : ¬ P = 0) (hP6 : P ≤ 6) (hv1 : ∀ p, P ≤ p → p < 6 → vl p = 1) (hak : AKP P ak) (hkf : ∀ s, s < 4096 → kf s = kkI P vl iv M s) (ho : ∀ i, i < 4096 → opf i = opX P vl iv (kkI P vl iv M) ak cov i) (hpl : cB (plX P vl iv (kkI P vl iv M) ak cov) 4096 = 0) (hop : ¬ cB (opX P vl iv (kkI P vl iv M) ak cov) 4096 = 0) {n : Nat} (hq : bsQ (fun r => decide (kf r = nI 1)) (fun r => cB (cnB vl iv (kf r) opf r) (2 ^ P)) 4096 (some n)) : bst2 (VV vl iv M) (NN vl iv M) (gnB iv (VV vl iv M) (NN vl iv M) ak cov) (4 ^ P) (some n) := by
  obtain ⟨r0, hr0, hN0, hg0⟩ := op_ex hP0 hak hpl hop
  obtain ⟨hn4, hR, hmax⟩ := hq
  have h4 : 4 ^ P ≤ 4096 := p4le (b := 6) hP6
  have hNk : ∀ s, s < 4096 → (decide (kf s = nI 1) = true ↔ NN vl iv M s = true) := fun s hs => by rw [decide_eq_true_iff, hkf s hs, kk_kd hP0, kd_n]
  have hNn := (hNk n hn4).mp hR
  have hge : ∀ s, s < 4096 → NN vl iv M s = true → cB (cnB vl iv (kf s) opf s) (2 ^ P) = gnB iv (VV vl iv M) (NN vl iv M) ak cov s := fun s hs hN => nx_g hP0 hP6 hak hkf ho hs (by rw [hN, Bool.or_true])
  refine Or.inr ⟨fun s hs hV => V_none hP0 hak hpl (by omega) hV, ⟨V_lt hv1 hn4 (by rw [hNn, Bool.or_true]), hNn, ?_, fun s hs hN => ?_⟩⟩
  · have := (hmax r0 hr0 ((hNk r0 hr0).mpr hN0)).1
    simp only [hge r0 hr0 hN0, hge n hn4 hNn] at this
    omega
  · have := hmax s (by omega) ((hNk s (by omega)).mpr hN)
    simp only [hge s (by omega) hN, hge n hn4 hNn] at this
    exact this
theorem nx_0 (hP0 : ¬ P = 0) (hP6 : P ≤ 6) (hak : AKP P ak) (hop : cB (opX P vl iv (kkI P vl iv M) ak cov) 4096 = 0) : bst2 (VV vl iv M) (NN vl iv M) (gnB iv (VV vl iv M) (NN vl iv M) ak cov) (4 ^ P) none := by
  have h4 : 4 ^ P ≤ 4096 := p4le (b := 6) hP6
  have key : ∀ s, s < 4096 → (VV vl iv M s || NN vl iv M s) = true → gnB iv (VV vl iv M) (NN vl iv M) ak cov s = 0 := fun s hs hk => by
    apply Classical.byContradiction
    intro h
    obtain ⟨i, hi, ho, _⟩ := gn_open hP0 hak hs hk h
    rw [cB_zero.mp hop i hi] at ho
    cases ho
  exact Or.inr ⟨fun s hs hV => key s (by omega) (by rw [hV]; rfl), fun s hs hN => key s (by omega) (by rw [hN, Bool.or_true])⟩
theorem ex_2 (hP0 : ¬ P = 0) (hak : AKP P ak) (hkf : ∀ s, s < 4096 → kf s = kkI P vl iv M s) (hpl : ¬ cB (plX P vl iv (kkI P vl iv M) ak cov) 4096 = 0) : ∃ s, s < 4096 ∧ (fun r => decide (kf r = nI 2)) s = true := by
  obtain ⟨r, hr, hV, _⟩ := pl_ex hP0 hak hpl
  exact ⟨r, hr, decide_eq_true (by rw [hkf r hr, kk_kd hP0, kd_2]; exact hV)⟩
theorem ex_1 (hP0 : ¬ P = 0) (hak : AKP P ak) (hkf : ∀ s, s < 4096 → kf s = kkI P vl iv M s) (hpl : cB (plX P vl iv (kkI P vl iv M) ak cov) 4096 = 0) (hop : ¬ cB (opX P vl iv (kkI P vl iv M) ak cov) 4096 = 0) : ∃ s, s < 4096 ∧ (fun r => decide (kf r = nI 1)) s = true := by
  obtain ⟨r, hr, hN, _⟩ := op_ex hP0 hak hpl hop
  exact ⟨r, hr, decide_eq_true (by rw [hkf r hr, kk_kd hP0, kd_n]; exact hN)⟩
/-! gain and kind -/
theorem rk_lt1 {n : Nat} (hn : n < 4096) : rkF vl (VV vl iv M) (NN vl iv M) (nI n) < nI 1 ↔ kdI vl iv M n ≤ 0 := by rw [rkF_kd hn, k_0 (kd_4 _ _ _ _)]
theorem gain_eq {on : Bool} {gs : Nat → Nat} {x : Int32} (hP0 : on = true → ¬ P = 0) (hP6 : P ≤ 6) (hv1 : ∀ p, P ≤ p → p < 6 → vl p = 1) (hak : AKP P ak) (hkf : on = true → ∀ s, s < 4096 → kf s = kkI P vl iv M s) (ho : on = true → ∀ i, i < 4096 → opf i = opX P vl iv (kkI P vl iv M) ak cov i) (hgn : on = true → gnI iv (VV vl iv M) (NN vl iv M) ak P gs cov) : gaA on vl (VV vl iv M) (NN vl iv M) gs x = gaR on kf (fun r => cB (cnB vl iv (kf r) opf r) (2 ^ P)) x := by
  cases on
  · rfl
  · have hP0 := hP0 rfl
    have hkf := hkf rfl
    unfold gaA
    by_cases h0 : x < 0
    · rw [decide_eq_true (rkF_lo h0)]
      exact gr_a (by decide) h0
    · by_cases h1 : nI 4095 < x
      · rw [decide_eq_true (rkF_hi h0 (by
          rw [Int32.lt_iff_toInt_lt, nI_toInt (by decide)] at h1
          rw [Int32.le_iff_toInt_le, nI_toInt (by decide)]
          omega))]
        exact gr_b (by decide) h1
      · obtain ⟨n, hn, rfl⟩ := kn_of2 h0 h1
        by_cases hk : kdI vl iv M n ≤ 0
        · rw [decide_eq_true ((rk_lt1 hn).mpr hk)]
          exact gr_c (by decide) hn (by rw [hkf n hn, kk_kd hP0]; exact nle_lt hk)
        · rw [decide_eq_false (fun z => hk ((rk_lt1 hn).mp z)), nI_clamp (by omega), ← gr_1 (on := true) (g := fun r => cB (cnB vl iv (kf r) opf r) (2 ^ P)) (by decide) hn (by rw [hkf n hn, kk_kd hP0]; exact nle_gt hk)]
          have hp := k_pos hk
          show nI (gs n) = nI (cB (cnB vl iv (kf n) opf n) (2 ^ P))
          rw [nx_g hP0 hP6 hak hkf (ho rfl) hn hp, hgn rfl n (V_lt hv1 hn hp) hp]
theorem kind_eq {x : Int32} : knA P vl (VV vl iv M) (NN vl iv M) x = knR (kkI P vl iv M) x := by
  unfold knA
  by_cases hP0 : P = 0
  · subst hP0
    show -1 = _
    unfold knR
    cases decide (¬ x < 0 ∧ x ≤ nI 4095) <;> rfl
  · rw [beq_false_of_ne hP0]
    show rkF vl _ _ x = _
    by_cases h0 : x < 0
    · rw [← rk_a h0]; exact kn_a h0
    · by_cases h1 : x ≤ nI 4095
      · obtain ⟨n, hn, rfl⟩ := kn_of h0 h1
        rw [rkF_kd hn, ← kk_kd hP0]
        exact kn_1 hn
      · rw [← kn_b h1]
        obtain ⟨n, hn, rfl⟩ := nI_of h0
        rw [nI_leI hn (by decide)] at h1
        rw [rkF_n hn]
        unfold rkN
        rw [if_neg (fun z => by omega)]
/-! partial rows -/
theorem ft_iff {v r : Nat} : ∀ {k : Nat}, ftB v r k = true ↔ ∀ p, p < k → oc v p = 7 ∨ dg r p = oc v p
  | 0 => ⟨fun _ p hp => absurd hp (Nat.not_lt_zero _), fun _ => rfl⟩
  | k + 1 => by
    show (ftB v r k && (oc v k == 7 || dg r k == oc v k)) = true ↔ _
    rw [Bool.and_eq_true, ft_iff, Bool.or_eq_true, beq_iff_eq, beq_iff_eq]
    constructor
    · rintro ⟨h1, h2⟩ p hp
      by_cases e : p = k
      · subst e; exact h2
      · exact h1 p (by omega)
    · intro h
      exact ⟨fun p hp => h p (by omega), h k (by omega)⟩
theorem exK_iff {v : Nat} : ∀ {k : Nat}, exK vl v k = true ↔ ∀ p, p < k → oc v p = 7 ∨ oc v p < vl p
  | 0 => ⟨fun _ p hp => absurd hp (Nat.not_lt_zero _), fun _ => rfl⟩
  | k + 1 => by
    show (exK vl v k && (oc v k == 7 || decide (oc v k < vl k))) = true ↔ _
    rw [Bool.and_eq_true, exK_iff, Bool.or_eq_true, beq_iff_eq, decide_eq_true_iff]
    constructor
    · rintro ⟨h1, h2⟩ p hp
      by_cases e : p = k
      · subst e; exact h2
      · exact h1 p (by omega)
    · intro h
      exact ⟨fun p hp => h p (by omega), h k (by omega)⟩
theorem ft_fo (hP6 : P ≤ 6) (hvl : ∀ p, p < 6 → 1 ≤ vl p ∧ vl p ≤ 4) {v r : Nat} (hr : r < 4096) (hk : exK vl v P = true) : (r &&& fo (exN v P) 6 == sd (exG v) P) = ftB v r P := by
  have hsd : sd (exG v) P < 4096 := Nat.lt_of_lt_of_le (sd_lt (exG4 v) P) (pw4le hP6)
  rw [Bool.eq_iff_iff, beq_iff_eq, and_dg hr hsd (ex_bs hP6), ft_iff]
  have hg : ∀ p, p < P → ¬ oc v p = 7 → dg (sd (exG v) P) p = oc v p := fun p hp h7 => by
    have hlt := (exK_iff.mp hk p hp).resolve_left h7
    have := hvl p (by omega)
    rw [dg_sd (exG4 v), if_pos hp]
    unfold exG
    rw [beq_false_of_ne h7]
    exact Nat.mod_eq_of_lt (by omega)
  constructor
  · intro h p hp
    by_cases h7 : oc v p = 7
    · exact Or.inl h7
    · right
      rw [h p (by omega) (by rw [exN_bit, decide_eq_true hp, beq_false_of_ne h7]; rfl), hg p hp h7]
  · intro h p hp hb
    rw [exN_bit, Bool.and_eq_true, decide_eq_true_iff, Bool.not_eq_true'] at hb
    have h7 : ¬ oc v p = 7 := fun z => by rw [z] at hb; exact absurd hb.2 (by decide)
    rw [(h p hb.1).resolve_left h7, hg p hb.1 h7]
theorem mx_val {kk : Nat → Int32} {f : Nat → Bool} (h4 : ∀ r, kk r = -1 ∨ kk r = nI 0 ∨ kk r = nI 1 ∨ kk r = nI 2) : ∀ k, mxE kk f k = bif exB k (fun r => decide (kk r = nI 2) && f r) then nI 2 else bif exB k (fun r => decide (kk r = nI 1) && f r) then nI 1 else nI 0
  | 0 => rfl
  | k + 1 => by
    have ih := mx_val (kk := kk) (f := f) h4 k
    rw [exB_s, exB_s]
    cases hf : f k
    · rw [mx_f hf, ih, Bool.and_false, Bool.and_false, Bool.or_false, Bool.or_false]
    · show (bif f k && decide (¬ kk k ≤ mxE kk f k) then kk k else mxE kk f k) = _
      rw [hf, ih, Bool.and_true, Bool.and_true, Bool.true_and]
      cases exB k (fun r => decide (kk r = nI 2) && f r) <;> cases exB k (fun r => decide (kk r = nI 1) && f r) <;> rcases h4 k with h | h | h | h <;> rw [h] <;> decide
theorem ext_eq (hP6 : P ≤ 6) (hvl : ∀ p, p < 6 → 1 ≤ vl p ∧ vl p ≤ 4) {x : Int32} : exX P vl (VV vl iv M) (NN vl iv M) x = erX P vl (kkI P vl iv M) x := by
  unfold exX erX
  cases hT : exT P x
  · rw [cond_false, cond_false]
  · rw [cond_true, cond_true]
    have hP0 : ¬ P = 0 := by
      unfold exT at hT
      rw [decide_eq_true_iff] at hT
      exact hT.1
    unfold exA exR
    cases hk : exK vl x.toNatClampNeg P
    · rw [cond_false, cond_false]
    · rw [cond_true, cond_true, mx_val (kk_4 P vl iv M)]
      have e2 : anyR (VV vl iv M) (exN x.toNatClampNeg P) (sd (exG x.toNatClampNeg) P) = exB 4096 (fun r => decide (kkI P vl iv M r = nI 2) && ftB x.toNatClampNeg r P) := exB_congr (fun r hr => by
        rw [ft_fo hP6 hvl hr hk, kk_kd hP0, show VV vl iv M r = decide (kdI vl iv M r = nI 2) from by rw [Bool.eq_iff_iff, decide_eq_true_iff, kd_2]])
      have e1 : anyR (NN vl iv M) (exN x.toNatClampNeg P) (sd (exG x.toNatClampNeg) P) = exB 4096 (fun r => decide (kkI P vl iv M r = nI 1) && ftB x.toNatClampNeg r P) := exB_congr (fun r hr => by
        rw [ft_fo hP6 hvl hr hk, kk_kd hP0, show NN vl iv M r = decide (kdI vl iv M r = nI 1) from by rw [Bool.eq_iff_iff, decide_eq_true_iff, kd_n]])
      rw [e1, e2]
end LK4
