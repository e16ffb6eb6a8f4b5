/-! the state of a generation: covered, taken, rows, gains, left -/
abbrev GS : Type := (Nat → Nat → Bool) × Nat × (Nat → Nat) × (Nat → Nat) × Int32
def tkS (iv : Nat → Nat) (V N ak : Nat → Bool) (r : Nat) (g : GS) : GS := (cvT iv V N ak g.1 r 64, g.2.1 + 1, upN g.2.2.1 g.2.1 r, upN g.2.2.2.1 g.2.1 (cB (tkG iv V N ak g.1 r) 64), g.2.2.2.2 - nI (cB (tkG iv V N ak g.1 r) 64))
def seS (iv : Nat → Nat) (V N ak : Nat → Bool) (vl : Nat → Nat) (se : Nat → Int32) (g : GS) : Nat → GS
  | 0 => g
  | i + 1 => bif decide (rkF vl V N (se i) < nI 1) then seS iv V N ak vl se g i else tkS iv V N ak (se i).toNatClampNeg (seS iv V N ak vl se g i)
theorem seS_f {iv vl : Nat → Nat} {V N ak : Nat → Bool} {se : Nat → Int32} {g : GS} {i : Nat} (h : rkF vl V N (se i) < nI 1) : seS iv V N ak vl se g (i + 1) = seS iv V N ak vl se g i := by
  show (bif decide (rkF vl V N (se i) < nI 1) then seS iv V N ak vl se g i else _) = _
  rw [decide_eq_true h]; rfl
theorem seS_t {iv vl : Nat → Nat} {V N ak : Nat → Bool} {se : Nat → Int32} {g : GS} {i n : Nat} (h : ¬ rkF vl V N (se i) < nI 1) (hs : se i = nI n) (hn : n < 4096) : seS iv V N ak vl se g (i + 1) = tkS iv V N ak n (seS iv V N ak vl se g i) := by
  show (bif decide (rkF vl V N (se i) < nI 1) then seS iv V N ak vl se g i else tkS iv V N ak (se i).toNatClampNeg (seS iv V N ak vl se g i)) = _
  rw [decide_eq_false h, hs, nI_clamp (by omega)]; rfl
theorem seS_tk (iv vl : Nat → Nat) (V N ak : Nat → Bool) (se : Nat → Int32) (g : GS) : ∀ i, (seS iv V N ak vl se g i).2.1 ≤ g.2.1 + i
  | 0 => Nat.le_refl _
  | i + 1 => by
    have h := seS_tk iv vl V N ak se g i
    show (bif decide (rkF vl V N (se i) < nI 1) then seS iv V N ak vl se g i else tkS iv V N ak (se i).toNatClampNeg (seS iv V N ak vl se g i)).2.1 ≤ _
    cases decide (rkF vl V N (se i) < nI 1)
    · show (seS iv V N ak vl se g i).2.1 + 1 ≤ _
      omega
    · show (seS iv V N ak vl se g i).2.1 ≤ _
      omega
theorem cv0 {d : Nat → Int64} (h : ∀ j, j < 64 → d j = 0) : cvI d (fun _ _ => false) := fun n hn _ s => by rw [h n hn, bL_0]
theorem gn0 {iv : Nat → Nat} {V N ak : Nat → Bool} {P : Nat} {d : Nat → Nat} (h : ∀ s, s < 4 ^ P → d s = cB (csB iv V N ak s) 64) : gnI iv V N ak P d (fun _ _ => false) := fun s hs _ => by
  rw [h s hs]
  unfold gnB
  exact cB_congr (fun i _ => (Bool.and_true _).symm)
def bgO (on : Bool) (P : Nat) (V : Nat → Bool) : Bool := !on && (!(P == 0) && anyR V 0 0)
def bgA (on : Bool) (P : Nat) (V : Nat → Bool) (go : Nat) : Int32 := bif on then -1 else bif P == 0 then -2 else bif anyR V 0 0 then nI go else -3
def bgG (g : GS) (go : Nat) : GS := (fun _ _ => false, 0, g.2.2.1, g.2.2.2.1, nI go)
def bgS (iv : Nat → Nat) (V N ak : Nat → Bool) (vl : Nat → Nat) (se : Nat → Int32) (ns : Nat) (on : Bool) (P : Nat) (g : GS) : GS := bif bgO on P V then seS iv V N ak vl se (bgG g (sumN (gsF iv V N ak) 64)) ns else g
theorem bg_no {iv vl : Nat → Nat} {V N ak : Nat → Bool} {se : Nat → Int32} {ns P : Nat} {on : Bool} {g : GS} (h : bgO on P V = false) : bgS iv V N ak vl se ns on P g = g ∧ (on || bgO on P V) = on := by
  unfold bgS
  rw [h]
  exact ⟨rfl, Bool.or_false _⟩
theorem bg_yes {iv vl : Nat → Nat} {V N ak : Nat → Bool} {se : Nat → Int32} {ns P : Nat} {on : Bool} {g : GS} (h : bgO on P V = true) : bgS iv V N ak vl se ns on P g = seS iv V N ak vl se (bgG g (sumN (gsF iv V N ak) 64)) ns ∧ (on || bgO on P V) = true := by
  unfold bgS
  rw [h]
  exact ⟨rfl, Bool.or_true _⟩
theorem bg_on {on : Bool} {P go : Nat} {V : Nat → Bool} (h : ¬ on = false) : bgO on P V = false ∧ -1 = bgA on P V go := by unfold bgO bgA; rw [ts_nf h]; exact ⟨rfl, rfl⟩
theorem bg_P {on : Bool} {P go : Nat} {V : Nat → Bool} (h : on = false) (h1 : P = 0) : bgO on P V = false ∧ -2 = bgA on P V go := by unfold bgO bgA; rw [h, h1]; exact ⟨rfl, rfl⟩
theorem bg_V {on : Bool} {P go : Nat} {V : Nat → Bool} (h : on = false) (h1 : ¬ P = 0) (h2 : anyR V 0 0 = false) : bgO on P V = false ∧ -3 = bgA on P V go := by unfold bgO bgA; rw [h, beq_false_of_ne h1, h2]; exact ⟨rfl, rfl⟩
theorem bg_1 {on : Bool} {P go : Nat} {V : Nat → Bool} (h : on = false) (h1 : ¬ P = 0) (h2 : anyR V 0 0 = true) : bgO on P V = true ∧ nI go = bgA on P V go := by unfold bgO bgA; rw [h, beq_false_of_ne h1, h2]; exact ⟨rfl, rfl⟩
/-! next -/
def nxA (on : Bool) (b : Option Nat) : Int32 := bif on then (match b with | none => -2 | some n => nI n) else -1
def nxS (iv : Nat → Nat) (V N ak : Nat → Bool) (on : Bool) (b : Option Nat) (g : GS) : GS := bif on then (match b with | none => g | some n => tkS iv V N ak n g) else g
theorem bs_congr {R : Nat → Bool} {g g2 : Nat → Nat} {k : Nat} {b : Option Nat} (h : ∀ s, s < k → R s = true → g s = g2 s) (hb : bsP R g k b) : bsP R g2 k b := by
  cases b with
  | none => exact fun s hs hR => (h s hs hR).symm.trans (hb s hs hR)
  | some b =>
    obtain ⟨h1, h2, h3, h4⟩ := hb
    have e := h b h1 h2
    refine ⟨h1, h2, by omega, fun s hs hR => ?_⟩
    have := h4 s hs hR
    rw [h s hs hR] at this
    rw [← e]
    exact this
theorem b2_congr {iv : Nat → Nat} {V N ak : Nat → Bool} {P : Nat} {gs : Nat → Nat} {cov : Nat → Nat → Bool} {b : Option Nat} (h : gnI iv V N ak P gs cov) (hb : bst2 V N gs (4 ^ P) b) : bst2 V N (gnB iv V N ak cov) (4 ^ P) b := by
  have h1 : ∀ s, s < 4 ^ P → V s = true → gs s = gnB iv V N ak cov s := fun s hs hV => h s hs (by rw [hV]; rfl)
  have h2 : ∀ s, s < 4 ^ P → N s = true → gs s = gnB iv V N ak cov s := fun s hs hN => h s hs (by rw [hN, Bool.or_true])
  rcases hb with ⟨a, b⟩ | ⟨a, b⟩
  · exact Or.inl ⟨bs_congr h1 a, b⟩
  · exact Or.inr ⟨bs_congr h1 a, bs_congr h2 b⟩
theorem b2_some {V N : Nat → Bool} {g : Nat → Nat} {k n : Nat} (h : bst2 V N g k (some n)) : n < k ∧ (V n || N n) = true := by
  rcases h with ⟨a, _⟩ | ⟨_, a⟩
  · exact ⟨a.1, by rw [a.2.1]; rfl⟩
  · exact ⟨a.1, by rw [a.2.1, Bool.or_true]⟩
theorem bs_uniq {R : Nat → Bool} {g : Nat → Nat} {k : Nat} {a b : Option Nat} (ha : bsP R g k a) (hb : bsP R g k b) : a = b := by
  cases a with
  | none =>
    cases b with
    | none => rfl
    | some b => have := ha b hb.1 hb.2.1; have := hb.2.2.1; omega
  | some a =>
    cases b with
    | none => have := hb a ha.1 ha.2.1; have := ha.2.2.1; omega
    | some b =>
      have h1 := ha.2.2.2 b hb.1 hb.2.1
      have h2 := hb.2.2.2 a ha.1 ha.2.1
      rcases Nat.lt_trichotomy a b with h | h | h
      · have := h2.2 h; omega
      · rw [h]
      · have := h1.2 h; omega
theorem b2_uniq {V N : Nat → Bool} {g : Nat → Nat} {k : Nat} {a b : Option Nat} (ha : bst2 V N g k a) (hb : bst2 V N g k b) : a = b := by
  rcases ha with ⟨ha, na⟩ | ⟨za, ha⟩ <;> rcases hb with ⟨hb, nb⟩ | ⟨zb, hb⟩
  · exact bs_uniq ha hb
  · exact absurd (bs_uniq ha zb) na
  · exact absurd (bs_uniq hb za) nb
  · exact bs_uniq ha hb
theorem some_of {b : Option Nat} (h : ¬ b = none) : ∃ n, b = some n := by
  cases b with
  | none => exact absurd rfl h
  | some n => exact ⟨n, rfl⟩
/-! partial rows -/
def oc (v p : Nat) : Nat := v / 8 ^ p % 8
theorem oc_lt (v p : Nat) : oc v p < 8 := Nat.mod_lt _ (by decide)
theorem oc_eq (v i : Nat) : (v / 2 ^ (3 * i)) &&& 7 = oc v i := by
  have h : v / 2 ^ (3 * i) &&& 7 = v / 2 ^ (3 * i) % 8 := Nat.and_two_pow_sub_one_eq_mod _ 3
  have e : 2 ^ (3 * i) = 8 ^ i := Nat.pow_mul ..
  rw [h, e]; rfl
def exN (v : Nat) : Nat → Nat
  | 0 => 0
  | i + 1 => exN v i + cond (oc v i == 7) 0 (2 ^ i)
def exG (v p : Nat) : Nat := bif oc v p == 7 then 0 else oc v p % 4
def exK (vl : Nat → Nat) (v : Nat) : Nat → Bool
  | 0 => true
  | i + 1 => exK vl v i && (oc v i == 7 || decide (oc v i < vl i))
theorem exG4 (v p : Nat) : exG v p < 4 := by
  unfold exG
  cases (oc v p == 7)
  · exact Nat.mod_lt _ (by decide)
  · show 0 < 4
    decide
theorem exN_lt (v : Nat) : ∀ i, exN v i < 2 ^ i
  | 0 => by show 0 < 1; decide
  | i + 1 => by
    have h := exN_lt v i
    show exN v i + cond (oc v i == 7) 0 (2 ^ i) < 2 ^ (i + 1)
    rw [Nat.pow_succ]
    cases (oc v i == 7) <;> simp only [cond_true, cond_false] <;> omega
theorem exN_7 {v i : Nat} (h : oc v i = 7) : exN v (i + 1) = exN v i := by
  show exN v i + cond (oc v i == 7) 0 (2 ^ i) = _
  rw [h]; rfl
theorem exN_n {v i : Nat} (h : ¬ oc v i = 7) : exN v (i + 1) = exN v i + 2 ^ i := by
  show exN v i + cond (oc v i == 7) 0 (2 ^ i) = _
  rw [beq_false_of_ne h]; rfl
theorem fo_up : ∀ i, i < 6 → ∀ n, n < 2 ^ i → fo n 6 ||| 3 * 2 ^ (2 * i) = fo (n + 2 ^ i) 6 := by decide +kernel
theorem sd_or {f : Nat → Nat} (hf : ∀ p, f p < 4) (i : Nat) : sd f i ||| f i * 2 ^ (2 * i) = sd f (i + 1) := by
  have h1 : sd f i < 2 ^ (2 * i) := by rw [p24]; exact sd_lt hf i
  have h2 := Nat.shiftLeft_add_eq_or_of_lt h1 (f i)
  rw [Nat.shiftLeft_eq] at h2
  rw [Nat.or_comm, ← h2, p24]
  exact Nat.add_comm _ _
theorem exG_7 {v i : Nat} (h : oc v i = 7) : sd (exG v) (i + 1) = sd (exG v) i := by
  show sd (exG v) i + exG v i * 4 ^ i = _
  have e : exG v i = 0 := by unfold exG; rw [h]; rfl
  rw [e, Nat.zero_mul, Nat.add_zero]
theorem exG_n {v i : Nat} (h : ¬ oc v i = 7) (h4 : oc v i < 4) : sd (exG v) i ||| oc v i * 2 ^ (2 * i) = sd (exG v) (i + 1) := by
  have e : exG v i = oc v i := by unfold exG; rw [beq_false_of_ne h]; exact Nat.mod_eq_of_lt h4
  have := sd_or (exG4 v) i
  rw [e] at this
  exact this
theorem exK_7 {vl : Nat → Nat} {v i : Nat} (hk : exK vl v i = true) (h : oc v i = 7) : exK vl v (i + 1) = true := by
  show (exK vl v i && (oc v i == 7 || decide (oc v i < vl i))) = true
  rw [hk, h]; rfl
theorem exK_n {vl : Nat → Nat} {v i : Nat} (hk : exK vl v i = true) (h : oc v i < vl i) : exK vl v (i + 1) = true := by
  show (exK vl v i && (oc v i == 7 || decide (oc v i < vl i))) = true
  rw [hk, decide_eq_true h, Bool.or_true]; rfl
theorem exK_no {vl : Nat → Nat} {v i : Nat} (h7 : ¬ oc v i = 7) (h : ¬ oc v i < vl i) : ∀ {k : Nat}, i < k → exK vl v k = false
  | 0, hk => absurd hk (Nat.not_lt_zero _)
  | k + 1, hk => by
    show (exK vl v k && (oc v k == 7 || decide (oc v k < vl k))) = false
    by_cases e : i = k
    · subst e; rw [beq_false_of_ne h7, decide_eq_false h, Bool.or_false, Bool.and_false]
    · rw [exK_no h7 h (show i < k by omega), Bool.false_and]
theorem hv_n {P i w : Nat} {vl : Nat → Nat} (hP : P ≤ 6) (hi : i < P) (hw : w < 8) (hvi : vl i ≤ 4) : hvB P vl (nI i) (nI w) = decide (w < vl i) := by
  unfold hvB
  rw [nI_clamp (by omega)]
  by_cases h : w < vl i
  · rw [decide_eq_true h]
    exact decide_eq_true ⟨nI_pos (by omega), fun z => by rw [nI_leI (by omega) (by omega)] at z; omega, nI_pos (by omega), fun z => by rw [nI_leI (by omega) (by omega)] at z; omega⟩
  · rw [decide_eq_false h]
    exact decide_eq_false (fun z => z.2.2.2 ((nI_leI (by omega) (by omega)).mpr (by omega)))
def exT (P : Nat) (x : Int32) : Bool := decide (¬ P = 0 ∧ ¬ x < 0 ∧ x < nI (8 ^ P))
def exA (P : Nat) (vl : Nat → Nat) (V N : Nat → Bool) (v : Nat) : Int32 := bif exK vl v P then (bif anyR V (exN v P) (sd (exG v) P) then nI 2 else bif anyR N (exN v P) (sd (exG v) P) then nI 1 else nI 0) else -1
def exX (P : Nat) (vl : Nat → Nat) (V N : Nat → Bool) (x : Int32) : Int32 := bif exT P x then exA P vl V N x.toNatClampNeg else -1
theorem p8 {P : Nat} (h : P ≤ 6) : 8 ^ P ≤ 262144 := show 8 ^ P ≤ 8 ^ 6 from Nat.pow_le_pow_right (by decide) h
theorem s_u : ∀ n, n < 32 → (((nI n).toUInt32 &&& Int32.toUInt32 31).toBitVec % 32).toNat = n := by decide +kernel
theorem ex_sh {P : Nat} {x : Int32} (hP : P ≤ 6) : (x.toUInt32 >>> ((nI (3 * P)).toUInt32 &&& Int32.toUInt32 31)).toInt32 = 0 ↔ (¬ x < 0 ∧ x < nI (8 ^ P)) := by
  have h8 := p8 hP
  have e8 : 2 ^ (3 * P) = 8 ^ P := Nat.pow_mul ..
  have h1 := pk_ushr x (nI (3 * P)) (3 * P) (s_u _ (by omega))
  rw [e8] at h1
  have hz : ∀ y : Int32, y = 0 ↔ y.toBitVec.toNat = 0 := fun y => ⟨fun h => by rw [h]; rfl, fun h => Int32.toBitVec_inj.mp (BitVec.eq_of_toNat_eq h)⟩
  rw [hz, h1]
  have h0 : 0 < 8 ^ P := Nat.pow_pos (by decide)
  have hd : x.toBitVec.toNat / 8 ^ P = 0 ↔ x.toBitVec.toNat < 8 ^ P := by
    constructor
    · intro h
      exact (Nat.div_eq_zero_iff.mp h).resolve_left (by omega)
    · exact Nat.div_eq_of_lt
  rw [hd]
  constructor
  · intro h
    have e : x = nI x.toBitVec.toNat := Int32.toBitVec_inj.mp (by show _ = BitVec.ofNat 32 _; simp)
    rw [e]
    refine ⟨nI_pos (by omega), ?_⟩
    rw [nI_ltI (by omega) (by omega)]
    exact h
  · rintro ⟨ha, hb⟩
    obtain ⟨v, hv, rfl⟩ := nI_of ha
    rw [nI_ltI hv (by omega)] at hb
    rw [pk_tn (by omega)]
    exact hb
theorem ex_of {P : Nat} {x : Int32} (hP : P ≤ 6) (h : ¬ x < 0 ∧ x < nI (8 ^ P)) : ∃ v, v < 8 ^ P ∧ x = nI v := by
  have h8 := p8 hP
  obtain ⟨v, hv, rfl⟩ := nI_of h.1
  exact ⟨v, by rw [← nI_ltI hv (by omega)]; exact h.2, rfl⟩
theorem ex_P0 {P : Nat} {vl : Nat → Nat} {V N : Nat → Bool} {x : Int32} (h : P = 0) : -1 = exX P vl V N x := by
  unfold exX exT
  rw [decide_eq_false (fun z => z.1 h)]; rfl
theorem ex_x {P : Nat} {vl : Nat → Nat} {V N : Nat → Bool} {x : Int32} (h : ¬ (¬ x < 0 ∧ x < nI (8 ^ P))) : -1 = exX P vl V N x := by
  unfold exX exT
  rw [decide_eq_false (fun z => h z.2)]; rfl
theorem ex_v {P v : Nat} {vl : Nat → Nat} {V N : Nat → Bool} (hP : P ≤ 6) (h0 : ¬ P = 0) (hv : v < 8 ^ P) : exX P vl V N (nI v) = exA P vl V N v := by
  have h8 := p8 hP
  unfold exX exT
  rw [nI_clamp (by omega), decide_eq_true ⟨h0, nI_pos (by omega), (nI_ltI (by omega) (by omega)).mpr hv⟩]; rfl
theorem exN_bit (v : Nat) : ∀ i p, (exN v i).testBit p = (decide (p < i) && !(oc v p == 7))
  | 0, p => by rw [decide_eq_false (Nat.not_lt_zero _)]; exact Nat.zero_testBit p
  | i + 1, p => by
    have ih := exN_bit v i p
    have hlt := exN_lt v i
    rw [lt_sB]
    by_cases h7 : oc v i = 7
    · rw [exN_7 h7, ih]
      by_cases e : p = i
      · rw [e, h7]; simp
      · rw [beq_false_of_ne e, Bool.or_false]
    · rw [exN_n h7, Nat.add_comm]
      rcases Nat.lt_trichotomy p i with h | h | h
      · rw [Nat.testBit_two_pow_add_gt h, ih, beq_false_of_ne (show ¬ p = i by omega), Bool.or_false]
      · subst h
        rw [Nat.testBit_two_pow_add_eq, ih, decide_eq_false (Nat.lt_irrefl _), Bool.false_and, beq_self_eq_true, beq_false_of_ne h7]
        rfl
      · have h2 : 2 ^ (i + 1) ≤ 2 ^ p := Nat.pow_le_pow_right (by decide) h
        rw [Nat.pow_succ] at h2
        rw [Nat.testBit_lt_two_pow (show 2 ^ i + exN v i < 2 ^ p by omega), decide_eq_false (show ¬ p < i by omega), beq_false_of_ne (show ¬ p = i by omega)]
        rfl
theorem ex_bs {v P : Nat} (hP : P ≤ 6) : sd (exG v) P &&& fo (exN v P) 6 = sd (exG v) P := by
  have hlt : sd (exG v) P < 4096 := Nat.lt_of_lt_of_le (sd_lt (exG4 v) P) (p4le (b := 6) hP)
  refine dg_ext (k := 6) (and_lt _ hlt) hlt (fun p hp => ?_)
  rw [dg_and, dg_fo _ hp, dg_sd (exG4 v), exN_bit]
  by_cases h : p < P
  · rw [if_pos h, decide_eq_true h, Bool.true_and]
    by_cases h7 : oc v p = 7
    · have e : exG v p = 0 := by unfold exG; rw [h7]; rfl
      rw [e, h7]; rfl
    · rw [beq_false_of_ne h7]
      exact and3 _ (exG4 v p)
  · rw [if_neg h, decide_eq_false h]
    exact Nat.and_zero 0
theorem wP {X : Cx} {ws ws' : va_W} {H : Heap} (e : ws = ws') (h : va_P X.1 classes ws H) : va_P X.1 classes ws' H := e ▸ h
theorem wD {A : Nat → Prop} {ws ws' : va_W} (e : ws = ws') (h : va_D A ws) : va_D A ws' := e ▸ h
