/-! class and reference say the same -/
theorem kk_kd {P : Nat} {vl iv : Nat → Nat} {M : Nat → Bool} (hP : ¬ P = 0) (r : Nat) : kkI P vl iv M r = kdI vl iv M r := by unfold kkI; rw [beq_false_of_ne hP]; rfl
theorem kd_c {vl iv : Nat → Nat} {M : Nat → Bool} {r : Nat} (ha : all6 vl r 6 = true) (hm : M r = true) (hw : wrg iv r 6 ≤ 1) : kdI vl iv M r = nI (2 - wrg iv r 6) := by unfold kdI; rw [ha, hm, decide_eq_true hw]; rfl
theorem kd_z {vl iv : Nat → Nat} {M : Nat → Bool} {r : Nat} (h : all6 vl r 6 = false ∨ M r = false ∨ ¬ wrg iv r 6 ≤ 1) : kdI vl iv M r = -1 ∨ kdI vl iv M r = nI 0 := by
  unfold kdI
  cases ha : all6 vl r 6
  · exact Or.inl rfl
  · rcases h with h | h | h
    · rw [ha] at h; cases h
    · rw [h]; exact Or.inr rfl
    · rw [decide_eq_false h, Bool.and_false]; exact Or.inr rfl
theorem kd_2 {vl iv : Nat → Nat} {M : Nat → Bool} {r : Nat} : kdI vl iv M r = nI 2 ↔ vK vl iv M r 6 = true := by
  rw [vK_eq, Bool.and_eq_true, Bool.and_eq_true, beq_iff_eq]
  constructor
  · intro h
    apply Classical.byContradiction
    intro hn
    by_cases hc : all6 vl r 6 = true ∧ M r = true ∧ wrg iv r 6 ≤ 1
    · rw [kd_c hc.1 hc.2.1 hc.2.2] at h
      have : ¬ wrg iv r 6 = 0 := fun z => hn ⟨hc.2.1, hc.1, z⟩
      rw [show wrg iv r 6 = 1 by omega] at h
      exact absurd h (by decide)
    · have hz : all6 vl r 6 = false ∨ M r = false ∨ ¬ wrg iv r 6 ≤ 1 := by
        cases h1 : all6 vl r 6
        · exact Or.inl rfl
        · cases h2 : M r
          · exact Or.inr (Or.inl rfl)
          · exact Or.inr (Or.inr (fun z => hc ⟨h1, h2, z⟩))
      rcases kd_z hz with e | e <;> rw [e] at h <;> exact absurd h (by decide)
  · rintro ⟨h1, h2, h3⟩
    rw [kd_c h2 h1 (by omega), h3]
theorem kd_n {vl iv : Nat → Nat} {M : Nat → Bool} {r : Nat} : kdI vl iv M r = nI 1 ↔ nK vl iv M r 6 = true := by
  rw [nK_eq, Bool.and_eq_true, Bool.and_eq_true, beq_iff_eq]
  constructor
  · intro h
    apply Classical.byContradiction
    intro hn
    by_cases hc : all6 vl r 6 = true ∧ M r = true ∧ wrg iv r 6 ≤ 1
    · rw [kd_c hc.1 hc.2.1 hc.2.2] at h
      have : ¬ wrg iv r 6 = 1 := fun z => hn ⟨hc.2.1, hc.1, z⟩
      rw [show wrg iv r 6 = 0 by omega] at h
      exact absurd h (by decide)
    · have hz : all6 vl r 6 = false ∨ M r = false ∨ ¬ wrg iv r 6 ≤ 1 := by
        cases h1 : all6 vl r 6
        · exact Or.inl rfl
        · cases h2 : M r
          · exact Or.inr (Or.inl rfl)
          · exact Or.inr (Or.inr (fun z => hc ⟨h1, h2, z⟩))
      rcases kd_z hz with e | e <;> rw [e] at h <;> exact absurd h (by decide)
  · rintro ⟨h1, h2, h3⟩
    rw [kd_c h2 h1 (by omega), h3]
abbrev VV (vl iv : Nat → Nat) (M : Nat → Bool) : Nat → Bool := fun r => vK vl iv M r 6
abbrev NN (vl iv : Nat → Nat) (M : Nat → Bool) : Nat → Bool := fun r => nK vl iv M r 6
/-- class's rank and reference's kind -/
theorem rk_kd {vl iv : Nat → Nat} {M : Nat → Bool} {n : Nat} (hn : n < 4096) : rkN vl (VV vl iv M) (NN vl iv M) n = kdI vl iv M n := by
  unfold rkN
  cases ha : all6 vl n 6
  · rw [if_neg (fun z => by cases z.2)]
    unfold kdI; rw [ha]; rfl
  · rw [if_pos ⟨hn, rfl⟩]
    cases hV : VV vl iv M n
    · rw [if_neg (by decide)]
      cases hN : NN vl iv M n
      · rw [if_neg (by decide)]
        rcases kd_4 vl iv M n with e | e | e | e
        · unfold kdI at e
          rw [ha] at e
          cases hm : (M n && decide (wrg iv n 6 ≤ 1))
          · unfold kdI; rw [ha, hm]; rfl
          · rw [hm] at e
            have e : nI (2 - wrg iv n 6) = -1 := e
            have := nI_pos (n := 2 - wrg iv n 6) (by omega)
            rw [e] at this
            exact absurd (by decide) this
        · exact e.symm
        · rw [kd_n] at e; have hN : nK vl iv M n 6 = false := hN; rw [hN] at e; cases e
        · rw [kd_2] at e; have hV : vK vl iv M n 6 = false := hV; rw [hV] at e; cases e
      · rw [if_pos rfl]; exact (kd_n.mpr hN).symm
    · rw [if_pos rfl]; exact (kd_2.mpr hV).symm
/-- invalid values of r in n -/
def wrn (iv : Nat → Nat) (r n : Nat) : Nat := cB (fun p => n.testBit p && (iv p).testBit (dg r p)) 6
theorem wg_row {vl iv : Nat → Nat} {r : Nat} (n : Nat) (ha : all6 vl r 6 = true) : wgI vl iv n (tp n r) = nI (wrn iv r n) := by
  unfold wgI
  rw [if_pos ⟨tp_lt4 n r, okT_iff.mpr (fun p hp hb => by rw [dg_tp hp hb]; exact all6_iff.mp ha p hp)⟩]
  congr 1
  unfold wT wrn
  apply cB_congr
  intro p hp
  cases hb : n.testBit p
  · rfl
  · rw [dg_tp hp hb]
theorem wrn_0 {iv : Nat → Nat} {r : Nat} (n : Nat) (h : wrg iv r 6 = 0) : wrn iv r n = 0 := cB_zero.mpr (fun p hp => by
  have : (iv p).testBit (dg r p) = false := cB_zero.mp h p hp
  rw [this, Bool.and_false])
theorem wrn_1 {iv : Nat → Nat} {r n : Nat} (h : wrg iv r 6 = 1) (hi : inb iv r n 6 = true) : wrn iv r n = 1 := by
  rw [← h]
  apply cB_congr
  intro p hp
  cases hb : (iv p).testBit (dg r p)
  · rw [Bool.and_false]
  · rw [inb_iff.mp hi p hp hb]; rfl
theorem wrn_n {iv : Nat → Nat} {r n : Nat} (h : wrg iv r 6 = 1) (hi : inb iv r n 6 = false) : wrn iv r n = 0 := by
  apply cB_zero.mpr
  intro p hp
  cases hb : (iv p).testBit (dg r p)
  · rw [Bool.and_false]
  · rw [Bool.and_true]
    apply ts_nt
    intro hnp
    have : inb iv r n 6 = true := inb_iff.mpr (fun q hq hbq => by
      obtain rfl := cB_uniq (f := fun p => (iv p).testBit (dg r p)) h hp hq hb hbq
      exact hnp)
    rw [hi] at this; cases this
/-- a goal of the reference -/
def goG (P : Nat) (vl iv : Nat → Nat) (kk : Nat → Int32) (ak : Nat → Bool) (i : Nat) : Bool := decide (i / 64 < 2 ^ P) && (ak (i / 64) && ((decide (wgI vl iv (i / 64) (i % 64) = 0) && inV P kk (nI 2) 4096 i) || (decide (wgI vl iv (i / 64) (i % 64) = nI 1) && inV P kk (nI 1) 4096 i)))
def opX (P : Nat) (vl iv : Nat → Nat) (kk : Nat → Int32) (ak : Nat → Bool) (cov : Nat → Nat → Bool) (i : Nat) : Bool := goG P vl iv kk ak i && !(cov (i / 64) (i % 64))
theorem in_row {P n r : Nat} {kk : Nat → Int32} {c : Int32} (hr : r < 4096) (hk : kk r = c) (hn : n < 2 ^ P) (h3 : cn n 6 ≤ 3) : inV P kk c 4096 (64 * n + tp n r) = true := by
  have ht := tp_64 r h3
  refine exB_t.mpr ⟨r, hr, ?_⟩
  unfold inF hitB
  rw [show (64 * n + tp n r) / 64 = n by omega, show (64 * n + tp n r) % 64 = tp n r by omega, decide_eq_true hk, decide_eq_true hn, decide_eq_true h3, beq_self_eq_true]
  rfl
def AKP (P : Nat) (ak : Nat → Bool) : Prop := ak 0 = false ∧ (∀ n, n < 64 → ak n = true → cn n 6 ≤ 3 ∧ n < 2 ^ P) ∧ ∀ n, 64 ≤ n → ak n = false
theorem ak_3 {P : Nat} {ak : Nat → Bool} (h : AKP P ak) {n : Nat} (hn : ak n = true) : n < 64 ∧ cn n 6 ≤ 3 ∧ n < 2 ^ P := by
  by_cases e : n < 64
  · exact ⟨e, (h.2.1 n e hn).1, (h.2.1 n e hn).2⟩
  · rw [h.2.2 n (by omega)] at hn; cases hn
theorem all_of {vl iv : Nat → Nat} {M : Nat → Bool} {r : Nat} (h : (VV vl iv M r || NN vl iv M r) = true) : all6 vl r 6 = true := by
  have h : (vK vl iv M r 6 || nK vl iv M r 6) = true := h
  rw [vK_eq, nK_eq, Bool.or_eq_true, Bool.and_eq_true, Bool.and_eq_true, Bool.and_eq_true, Bool.and_eq_true] at h
  rcases h with h | h
  · exact h.2.1
  · exact h.2.1
section LK
variable {P : Nat} {vl iv : Nat → Nat} {M ak : Nat → Bool} {cov : Nat → Nat → Bool}
theorem cn_tk (hP0 : ¬ P = 0) (hak : AKP P ak) {r n : Nat} (hr : r < 4096) (hkd : (VV vl iv M r || NN vl iv M r) = true) : cnB vl iv (kkI P vl iv M r) (opX P vl iv (kkI P vl iv M) ak cov) r n = tkG iv (VV vl iv M) (NN vl iv M) ak cov r n := by
  have hVN := VN_K vl iv M r
  cases han : ak n
  · have h1 : tkG iv (VV vl iv M) (NN vl iv M) ak cov r n = false := tkG_f (by unfold csB; rw [han]; rfl)
    rw [h1]
    apply ct_0
    unfold opX goG
    by_cases h3 : cn n 6 ≤ 3
    · have ht := tp_64 r h3
      rw [ix_3 h3, show (64 * n + tp n r) / 64 = n by omega, han, Bool.false_and, Bool.and_false, Bool.false_and]
    · rw [ix_n (by omega), show 0 / 64 = 0 from rfl, hak.1, Bool.false_and, Bool.and_false, Bool.false_and]
  · obtain ⟨h64, h3, hnP⟩ := ak_3 hak han
    have ht := tp_64 r h3
    have h0 : 0 < n := by
      rcases Nat.eq_zero_or_pos n with e | e
      · rw [e, hak.1] at han; cases han
      · exact e
    have hw := wg_row (iv := iv) n (all_of hkd)
    have e1 : (64 * n + tp n r) / 64 = n := by omega
    have e2 : (64 * n + tp n r) % 64 = tp n r := by omega
    unfold cnB tkG opX goG csB
    rw [ix_3 h3, e1, e2, han, hw, decide_eq_true h0, decide_eq_true hnP, kk_kd hP0]
    cases hV : VV vl iv M r
    · have hN : NN vl iv M r = true := by rw [hV, Bool.false_or] at hkd; exact hkd
      have hk1 : kdI vl iv M r = nI 1 := kd_n.mpr hN
      have hw1 := hVN.2 hN
      have i1 := in_row (P := P) (n := n) (kk := kkI P vl iv M) hr ((kk_kd hP0 r).trans hk1) hnP h3
      rw [hN, hk1, i1]
      cases hi : inb iv r n 6
      · rw [wrn_n hw1 hi]
        simp only [Bool.and_false, Bool.false_and, Bool.or_false, show decide (nI 1 = nI 2) = false from rfl, show decide (nI 0 = nI 1) = false from rfl]
      · rw [wrn_1 hw1 hi]
        simp only [decide_true, Bool.and_true, Bool.true_and, Bool.or_true, Bool.false_or, show decide (nI 1 = nI 2) = false from rfl, show decide (nI 1 = nI 1) = true from rfl, show decide (nI 1 = 0) = false from rfl, Bool.false_and]
    · have hk2 : kdI vl iv M r = nI 2 := kd_2.mpr hV
      have hw0 := hVN.1 hV
      have i2 := in_row (P := P) (n := n) (kk := kkI P vl iv M) hr ((kk_kd hP0 r).trans hk2) hnP h3
      have hi : inb iv r n 6 = true := inb_iff.mpr (fun p hp hb => by rw [cB_zero.mp hw0 p hp] at hb; cases hb)
      rw [hk2, i2, hi, wrn_0 n hw0]
      simp only [decide_true, Bool.and_true, Bool.true_and, Bool.true_or, show decide (nI 2 = nI 2) = true from rfl, show decide (nI 0 = 0) = true from rfl]
theorem cB_ext {f : Nat → Bool} {a : Nat} : ∀ {b : Nat}, a ≤ b → (∀ i, a ≤ i → i < b → f i = false) → cB f b = cB f a
  | 0, h, _ => by rw [show a = 0 by omega]
  | b + 1, h, hf => by
    by_cases e : a = b + 1
    · rw [e]
    · rw [cB_f (hf b (by omega) (by omega)), cB_ext (b := b) (by omega) (fun i h1 h2 => hf i h1 (by omega))]
theorem cnt_tk (hP0 : ¬ P = 0) (hP6 : P ≤ 6) (hak : AKP P ak) {r : Nat} (hr : r < 4096) (hkd : (VV vl iv M r || NN vl iv M r) = true) {opf : Nat → Bool} (ho : ∀ i, i < 4096 → opf i = opX P vl iv (kkI P vl iv M) ak cov i) : cB (cnB vl iv (kkI P vl iv M r) opf r) (2 ^ P) = cB (tkG iv (VV vl iv M) (NN vl iv M) ak cov r) 64 := by
  rw [cB_ext (f := tkG iv (VV vl iv M) (NN vl iv M) ak cov r) (a := 2 ^ P) (b := 64) (pw2le hP6) (fun i h1 h2 => tkG_f (by
    unfold csB
    cases h : ak i
    · rfl
    · have := ak_3 hak h; omega))]
  apply cB_congr
  intro n hn
  have h64 := pw2le hP6
  rw [← cn_tk hP0 hak hr hkd]
  unfold cnB
  have hx : ixN n r < 4096 := by
    unfold ixN
    by_cases h3 : cn n 6 ≤ 3
    · rw [if_pos h3]; have := tp_64 r h3; omega
    · rw [if_neg h3]; decide
  rw [ho _ hx]
theorem op_tk (hP0 : ¬ P = 0) (hP6 : P ≤ 6) (hak : AKP P ak) {r : Nat} (hr : r < 4096) (hkd : (VV vl iv M r || NN vl iv M r) = true) {opf g : Nat → Bool} (ho : ∀ i, i < 4096 → opf i = opX P vl iv (kkI P vl iv M) ak cov i) (hg : opI vl iv (kkI P vl iv M r) opf r (2 ^ P) g) : ∀ i, i < 4096 → g i = opX P vl iv (kkI P vl iv M) ak (cvT iv (VV vl iv M) (NN vl iv M) ak cov r 64) i := by
  intro i hi
  rw [hg i hi]
  unfold opA
  have hx : ∀ n, n < 64 → ixN n r < 4096 := fun n hn => by
    unfold ixN
    by_cases h3 : cn n 6 ≤ 3
    · rw [if_pos h3]; have := tp_64 r h3; omega
    · rw [if_neg h3]; decide
  have hcn : cnB vl iv (kkI P vl iv M r) opf r (i / 64) = tkG iv (VV vl iv M) (NN vl iv M) ak cov r (i / 64) := by
    rw [← cn_tk hP0 hak hr hkd]
    unfold cnB
    rw [ho _ (hx _ (by omega))]
  rw [ho i hi, hcn]
  unfold opX
  cases hG : goG P vl iv (kkI P vl iv M) ak i
  · rfl
  · have hG2 := hG
    unfold goG at hG2
    rw [Bool.and_eq_true, Bool.and_eq_true, decide_eq_true_iff] at hG2
    obtain ⟨h64, h3, hnP⟩ := ak_3 hak hG2.2.1
    have ht := tp_64 r h3
    rw [decide_eq_true hnP, ix_3 h3]
    unfold cvT tkG
    rw [decide_eq_true h64]
    by_cases e : i % 64 = tp (i / 64) r
    · rw [e, beq_self_eq_true, show (i == 64 * (i / 64) + tp (i / 64) r) = true from beq_iff_eq.mpr (by omega)]
      cases cov (i / 64) (tp (i / 64) r) <;> cases csB iv (VV vl iv M) (NN vl iv M) ak r (i / 64) <;> rfl
    · rw [beq_false_of_ne e, show (i == 64 * (i / 64) + tp (i / 64) r) = false from beq_false_of_ne (by omega)]
      cases cov (i / 64) (i % 64) <;> cases csB iv (VV vl iv M) (NN vl iv M) ak r (i / 64) <;> rfl
end LK
