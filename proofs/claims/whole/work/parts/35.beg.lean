theorem go_1 {P i : Nat} {vl iv : Nat → Nat} {kk : Nat → Int32} {ak : Nat → Bool} (h1 : i / 64 < 2 ^ P) (h2 : ¬ ak (i / 64) = false) (h3 : (wgI vl iv (i / 64) (i % 64) = 0 ∧ ¬ inV P kk (nI 2) 4096 i = false) ∨ (wgI vl iv (i / 64) (i % 64) = nI 1 ∧ ¬ inV P kk (nI 1) 4096 i = false)) : true = goG P vl iv kk ak i := by
  unfold goG
  rw [decide_eq_true h1, ts_nf h2]
  rcases h3 with ⟨a, b⟩ | ⟨a, b⟩
  · rw [decide_eq_true a, ts_nf b]; rfl
  · rw [decide_eq_true a, ts_nf b, Bool.and_true, Bool.or_true]; rfl
theorem go_a {P i : Nat} {vl iv : Nat → Nat} {kk : Nat → Int32} {ak : Nat → Bool} (h : ¬ i / 64 < 2 ^ P) : false = goG P vl iv kk ak i := by unfold goG; rw [decide_eq_false h]; rfl
theorem go_b {P i : Nat} {vl iv : Nat → Nat} {kk : Nat → Int32} {ak : Nat → Bool} (h : ak (i / 64) = false) : false = goG P vl iv kk ak i := by unfold goG; rw [h, Bool.false_and, Bool.and_false]
theorem go_c {P i : Nat} {vl iv : Nat → Nat} {kk : Nat → Int32} {ak : Nat → Bool} (h1 : ¬ wgI vl iv (i / 64) (i % 64) = 0 ∨ inV P kk (nI 2) 4096 i = false) (h2 : ¬ wgI vl iv (i / 64) (i % 64) = nI 1 ∨ inV P kk (nI 1) 4096 i = false) : false = goG P vl iv kk ak i := by
  unfold goG
  have e1 : (decide (wgI vl iv (i / 64) (i % 64) = 0) && inV P kk (nI 2) 4096 i) = false := by
    rcases h1 with h | h
    · rw [decide_eq_false h, Bool.false_and]
    · rw [h, Bool.and_false]
  have e2 : (decide (wgI vl iv (i / 64) (i % 64) = nI 1) && inV P kk (nI 1) 4096 i) = false := by
    rcases h2 with h | h
    · rw [decide_eq_false h, Bool.false_and]
    · rw [h, Bool.and_false]
  rw [e1, e2, Bool.or_false, Bool.and_false, Bool.and_false]
theorem wg_01 {w : Int32} (h : w = 0) : ¬ w = nI 1 := fun z => by rw [h] at z; exact absurd z (by decide)
theorem ca1 {f : Nat → Bool} {k : Nat} (h : true = f k) : nI (cB f k) + nI 1 = nI (cB f (k + 1)) := cB_add1 (by rw [← h]; decide)
theorem ca0 {f : Nat → Bool} {k : Nat} (h : false = f k) : nI (cB f k) + nI 0 = nI (cB f (k + 1)) := by rw [cB_f h.symm, nI_add]; rfl
def plG (P : Nat) (vl iv : Nat → Nat) (kk : Nat → Int32) (ak : Nat → Bool) (i : Nat) : Bool := goG P vl iv kk ak i && decide (wgI vl iv (i / 64) (i % 64) = 0)
theorem pg_0 {P i : Nat} {vl iv : Nat → Nat} {kk : Nat → Int32} {ak : Nat → Bool} (h : false = goG P vl iv kk ak i) : false = plG P vl iv kk ak i := by unfold plG; rw [← h]; rfl
theorem pg_n {P i : Nat} {vl iv : Nat → Nat} {kk : Nat → Int32} {ak : Nat → Bool} (h : ¬ wgI vl iv (i / 64) (i % 64) = 0) : false = plG P vl iv kk ak i := by unfold plG; rw [decide_eq_false h, Bool.and_false]
theorem pg_1 {P i : Nat} {vl iv : Nat → Nat} {kk : Nat → Int32} {ak : Nat → Bool} (h : true = goG P vl iv kk ak i) (hw : wgI vl iv (i / 64) (i % 64) = 0) : true = plG P vl iv kk ak i := by unfold plG; rw [← h, decide_eq_true hw]; rfl
theorem gz_s {g f : Nat → Bool} {i : Nat} {b : Bool} (h : ∀ j, j < i → g j = f j) (hb : b = f i) : ∀ j, j < i + 1 → upB g i b j = f j := by
  intro j hj
  by_cases e : j = i
  · rw [e, upB_s, hb]
  · rw [upB_n e]; exact h j (by omega)
/-- open plain tuples -/
def plX (P : Nat) (vl iv : Nat → Nat) (kk : Nat → Int32) (ak : Nat → Bool) (cov : Nat → Nat → Bool) (i : Nat) : Bool := opX P vl iv kk ak cov i && decide (wgI vl iv (i / 64) (i % 64) = 0)
theorem opX_0 {P : Nat} {vl iv : Nat → Nat} {kk : Nat → Int32} {ak : Nat → Bool} (i : Nat) : opX P vl iv kk ak (fun _ _ => false) i = goG P vl iv kk ak i := by unfold opX; rw [Bool.not_false, Bool.and_true]
theorem plX_0 {P : Nat} {vl iv : Nat → Nat} {kk : Nat → Int32} {ak : Nat → Bool} (i : Nat) : plX P vl iv kk ak (fun _ _ => false) i = plG P vl iv kk ak i := by unfold plX plG; rw [opX_0]
/-! how many stay open -/
theorem opA_c {vl iv : Nat → Nat} {kr : Int32} {opf : Nat → Bool} {rr : Nat} (q : Nat → Bool) : ∀ n, n ≤ 64 → cB (fun i => opA vl iv kr opf rr n i && q i) 4096 + cB (fun m => cnB vl iv kr opf rr m && (decide (cn m 6 ≤ 3) && q (64 * m + tp m rr))) n = cB (fun i => opf i && q i) 4096
  | 0, _ => by
    show _ + 0 = _
    rw [Nat.add_zero]
    apply cB_congr
    intro i _
    unfold opA
    rw [decide_eq_false (Nat.not_lt_zero _), Bool.false_and, Bool.not_false, Bool.and_true]
  | n + 1, hn => by
    have ih := opA_c (vl := vl) (iv := iv) (kr := kr) (opf := opf) (rr := rr) q n (by omega)
    by_cases hc : (cnB vl iv kr opf rr n && (decide (cn n 6 ≤ 3) && q (64 * n + tp n rr))) = true
    · have hc2 := hc
      rw [Bool.and_eq_true, Bool.and_eq_true, decide_eq_true_iff] at hc2
      obtain ⟨h1, h3, hq⟩ := hc2
      have ht := tp_64 rr h3
      have ho : opf (64 * n + tp n rr) = true := by
        unfold cnB at h1
        rw [Bool.and_eq_true, Bool.and_eq_true, ix_3 h3] at h1
        exact h1.2.1
      rw [cB_t (f := fun m => cnB vl iv kr opf rr m && (decide (cn m 6 ≤ 3) && q (64 * m + tp m rr))) hc, ← ih]
      have hd := cB_drop (f := fun i => opA vl iv kr opf rr n i && q i) (g := fun i => opA vl iv kr opf rr (n + 1) i && q i) (n := 64 * n + tp n rr) (k := 4096) (by omega)
        (by show (opA vl iv kr opf rr n (64 * n + tp n rr) && q (64 * n + tp n rr)) = true
            unfold opA
            rw [ho, hq, show (64 * n + tp n rr) / 64 = n by omega, decide_eq_false (Nat.lt_irrefl _)]; rfl)
        (by show (opA vl iv kr opf rr (n + 1) (64 * n + tp n rr) && q (64 * n + tp n rr)) = false
            unfold opA
            rw [show (64 * n + tp n rr) / 64 = n by omega, decide_eq_true (Nat.lt_succ_self _), ix_3 h3, beq_self_eq_true, h1, ho]; rfl)
        (fun i _ hi => by
            show (opA vl iv kr opf rr (n + 1) i && q i) = (opA vl iv kr opf rr n i && q i)
            unfold opA
            rw [lt_sB]
            by_cases e : i / 64 = n
            · rw [e, ix_3 h3, beq_false_of_ne hi, Bool.false_and, Bool.and_false, Bool.and_false]
            · rw [beq_false_of_ne e, Bool.or_false])
      omega
    · rw [cB_f (f := fun m => cnB vl iv kr opf rr m && (decide (cn m 6 ≤ 3) && q (64 * m + tp m rr))) (ts_nt hc), ← ih]
      suffices e : cB (fun i => opA vl iv kr opf rr (n + 1) i && q i) 4096 = cB (fun i => opA vl iv kr opf rr n i && q i) 4096 by rw [e]
      apply cB_congr
      intro i hi
      show (opA vl iv kr opf rr (n + 1) i && q i) = (opA vl iv kr opf rr n i && q i)
      unfold opA
      rw [lt_sB]
      by_cases e : i / 64 = n
      · by_cases ei : i = ixN n rr
        · cases hcn : cnB vl iv kr opf rr n
          · rw [e, hcn, Bool.and_false, Bool.and_false, Bool.and_false]
          · cases hq : q i
            · rw [Bool.and_false, Bool.and_false]
            · exfalso
              apply hc
              by_cases h3 : cn n 6 ≤ 3
              · rw [ix_3 h3] at ei
                rw [hcn, decide_eq_true h3, ← ei, hq]; rfl
              · rw [ix_n (by omega)] at ei
                rw [ei] at e
                have e0 : n = 0 := by omega
                rw [e0, ct_z] at hcn
                cases hcn
        · rw [e, beq_false_of_ne ei, Bool.false_and, Bool.and_false, Bool.and_false]
      · rw [beq_false_of_ne e, Bool.or_false]
theorem nI_subN {a b c : Nat} (h : a + b = c) : nI c - nI b = nI a := by rw [← h, pk_sub (by omega), Nat.add_sub_cancel]
section LK2
variable {P : Nat} {vl iv : Nat → Nat} {M ak : Nat → Bool} {cov : Nat → Nat → Bool}
theorem cn_3 (hP0 : ¬ P = 0) (hak : AKP P ak) {r n : Nat} (hr : r < 4096) (hkd : (VV vl iv M r || NN vl iv M r) = true) {opf : Nat → Bool} (ho : ∀ i, i < 4096 → opf i = opX P vl iv (kkI P vl iv M) ak cov i) (hn : n < 64) (h : cnB vl iv (kkI P vl iv M r) opf r n = true) : cn n 6 ≤ 3 := by
  have hx : ixN n r < 4096 := by
    unfold ixN
    by_cases h3 : cn n 6 ≤ 3
    · rw [if_pos h3]; have := tp_64 r h3; omega
    · rw [if_neg h3]; decide
  have h2 : cnB vl iv (kkI P vl iv M r) (opX P vl iv (kkI P vl iv M) ak cov) r n = true := by
    unfold cnB at h ⊢
    rw [← ho _ hx]; exact h
  rw [cn_tk hP0 hak hr hkd] at h2
  unfold tkG at h2
  rw [Bool.and_eq_true] at h2
  exact (ak_3 hak (cs_ak h2.1)).2.1
/-- the numbers of open tuples when r is taken -/
theorem left_tk (hP0 : ¬ P = 0) (hP6 : P ≤ 6) (hak : AKP P ak) {r : Nat} (hr : r < 4096) (hkd : (VV vl iv M r || NN vl iv M r) = true) : nI (cB (opX P vl iv (kkI P vl iv M) ak cov) 4096) - nI (cB (tkG iv (VV vl iv M) (NN vl iv M) ak cov r) 64) = nI (cB (opX P vl iv (kkI P vl iv M) ak (cvT iv (VV vl iv M) (NN vl iv M) ak cov r 64)) 4096) := by
  apply nI_subN
  have h := opA_c (vl := vl) (iv := iv) (kr := kkI P vl iv M r) (opf := opX P vl iv (kkI P vl iv M) ak cov) (rr := r) (fun _ => true) (2 ^ P) (pw2le hP6)
  have e1 : cB (fun i => opA vl iv (kkI P vl iv M r) (opX P vl iv (kkI P vl iv M) ak cov) r (2 ^ P) i && true) 4096 = cB (opX P vl iv (kkI P vl iv M) ak (cvT iv (VV vl iv M) (NN vl iv M) ak cov r 64)) 4096 := cB_congr (fun i hi => by
    rw [Bool.and_true]
    exact op_tk (g := opA vl iv (kkI P vl iv M r) (opX P vl iv (kkI P vl iv M) ak cov) r (2 ^ P)) hP0 hP6 hak hr hkd (fun _ _ => rfl) (fun _ _ => rfl) i hi)
  have e2 : cB (fun m => cnB vl iv (kkI P vl iv M r) (opX P vl iv (kkI P vl iv M) ak cov) r m && (decide (cn m 6 ≤ 3) && true)) (2 ^ P) = cB (tkG iv (VV vl iv M) (NN vl iv M) ak cov r) 64 := by
    rw [← cnt_tk hP0 hP6 hak hr hkd (fun _ _ => rfl)]
    apply cB_congr
    intro m hm
    have h64 := pw2le hP6
    cases hc : cnB vl iv (kkI P vl iv M r) (opX P vl iv (kkI P vl iv M) ak cov) r m
    · rfl
    · rw [decide_eq_true (cn_3 hP0 hak hr hkd (fun _ _ => rfl) (by omega) hc)]; rfl
  have e3 : cB (fun i => opX P vl iv (kkI P vl iv M) ak cov i && true) 4096 = cB (opX P vl iv (kkI P vl iv M) ak cov) 4096 := cB_congr (fun i _ => Bool.and_true _)
  rw [e1, e2, e3] at h
  exact h
theorem plain_tk (hP0 : ¬ P = 0) (hP6 : P ≤ 6) (hak : AKP P ak) {r : Nat} (hr : r < 4096) (hkd : (VV vl iv M r || NN vl iv M r) = true) {opf : Nat → Bool} (ho : ∀ i, i < 4096 → opf i = opX P vl iv (kkI P vl iv M) ak cov i) : nI (cB (plX P vl iv (kkI P vl iv M) ak cov) 4096) - nI (cB (plB vl iv (kkI P vl iv M r) opf r) (2 ^ P)) = nI (cB (plX P vl iv (kkI P vl iv M) ak (cvT iv (VV vl iv M) (NN vl iv M) ak cov r 64)) 4096) := by
  apply nI_subN
  have h := opA_c (vl := vl) (iv := iv) (kr := kkI P vl iv M r) (opf := opf) (rr := r) (fun i => decide (wgI vl iv (i / 64) (i % 64) = 0)) (2 ^ P) (pw2le hP6)
  have e1 : cB (fun i => opA vl iv (kkI P vl iv M r) opf r (2 ^ P) i && decide (wgI vl iv (i / 64) (i % 64) = 0)) 4096 = cB (plX P vl iv (kkI P vl iv M) ak (cvT iv (VV vl iv M) (NN vl iv M) ak cov r 64)) 4096 := cB_congr (fun i hi => by
    unfold plX
    rw [← op_tk (g := opA vl iv (kkI P vl iv M r) opf r (2 ^ P)) hP0 hP6 hak hr hkd ho (fun _ _ => rfl) i hi])
  have e2 : cB (fun m => cnB vl iv (kkI P vl iv M r) opf r m && (decide (cn m 6 ≤ 3) && decide (wgI vl iv ((64 * m + tp m r) / 64) ((64 * m + tp m r) % 64) = 0))) (2 ^ P) = cB (plB vl iv (kkI P vl iv M r) opf r) (2 ^ P) := by
    apply cB_congr
    intro m hm
    have h64 := pw2le hP6
    unfold plB
    cases hc : cnB vl iv (kkI P vl iv M r) opf r m
    · rfl
    · have h3 := cn_3 hP0 hak hr hkd ho (by omega) hc
      have ht := tp_64 r h3
      rw [decide_eq_true h3, show (64 * m + tp m r) / 64 = m by omega, show (64 * m + tp m r) % 64 = tp m r by omega]; rfl
  have e3 : cB (fun i => opf i && decide (wgI vl iv (i / 64) (i % 64) = 0)) 4096 = cB (plX P vl iv (kkI P vl iv M) ak cov) 4096 := cB_congr (fun i hi => by unfold plX; rw [ho i hi])
  rw [e1, e2, e3] at h
  exact h
end LK2
theorem kn_of3 {x : Int32} (h1 : ¬ x < 0) (h2 : ¬ nI 4096 ≤ x) : ∃ n, n < 4096 ∧ x = nI n := by
  obtain ⟨n, hn, rfl⟩ := nI_of h1
  rw [nI_leI (by decide) hn] at h2
  exact ⟨n, by omega, rfl⟩
theorem rkF_lo {vl : Nat → Nat} {V N : Nat → Bool} {x : Int32} (h : x < 0) : rkF vl V N x < nI 1 := by rw [← rk_a (vl := vl) (V := V) (N := N) h]; decide
theorem rkF_hi {vl : Nat → Nat} {V N : Nat → Bool} {x : Int32} (h0 : ¬ x < 0) (h : nI 4096 ≤ x) : rkF vl V N x < nI 1 := by
  obtain ⟨n, hn, rfl⟩ := nI_of h0
  rw [nI_leI (by decide) hn] at h
  rw [rkF_n hn]
  unfold rkN
  rw [if_neg (fun z => by omega)]
  decide
theorem rkF_kd {vl iv : Nat → Nat} {M : Nat → Bool} {n : Nat} (hn : n < 4096) : rkF vl (VV vl iv M) (NN vl iv M) (nI n) = kdI vl iv M n := by rw [rkF_n (by omega), rk_kd hn]
theorem k_0 {x : Int32} (h : x = -1 ∨ x = nI 0 ∨ x = nI 1 ∨ x = nI 2) : x ≤ 0 ↔ x < nI 1 := by rcases h with h | h | h | h <;> rw [h] <;> decide
theorem k_pos {vl iv : Nat → Nat} {M : Nat → Bool} {n : Nat} (h : ¬ kdI vl iv M n ≤ 0) : (VV vl iv M n || NN vl iv M n) = true := by
  rcases kd_4 vl iv M n with e | e | e | e
  · rw [e] at h; exact absurd (by decide) h
  · rw [e] at h; exact absurd (by decide) h
  · have : NN vl iv M n = true := kd_n.mp e
    rw [this, Bool.or_true]
  · have : VV vl iv M n = true := kd_2.mp e
    rw [this, Bool.true_or]
theorem opX_z {P : Nat} {vl iv : Nat → Nat} {kk : Nat → Int32} {ak : Nat → Bool} {cov : Nat → Nat → Bool} (h : AKP P ak) : opX P vl iv kk ak cov 0 = false := by unfold opX goG; rw [show 0 / 64 = 0 from rfl, h.1, Bool.false_and, Bool.and_false, Bool.false_and]
