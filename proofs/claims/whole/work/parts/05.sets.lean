/-! arrays filled and changed word by word -/
theorem fillK {g g2 : Nat → Int64} {v : Int64} {i : Nat} (hJ : ∀ j, j < i → g j = v) (h2 : vp_updL g i v = g2) : ∀ j, j < i + 1 → g2 j = v := by
  intro j hj
  rw [← h2]
  by_cases e : j = i
  · subst e; exact pk_uLs
  · rw [pk_uLn e]; exact hJ j (by omega)
theorem fillKI {g g2 : Nat → Int32} {v : Int32} {i : Nat} (hJ : ∀ j, j < i → g j = v) (h2 : upd g i v = g2) : ∀ j, j < i + 1 → g2 j = v := by
  intro j hj
  rw [← h2]
  by_cases e : j = i
  · subst e; exact pk_us
  · rw [pk_un e]; exact hJ j (by omega)
def flI (f : Nat → Int32) (n : Nat) (v : Int32) : Nat → Int32 := fun j => if j < n then v else f j
theorem fl_0 (f : Nat → Int32) (v : Int32) : flI f 0 v = f := by
  funext j
  exact if_neg (Nat.not_lt_zero _)
theorem fl_s (f : Nat → Int32) (v : Int32) (i : Nat) : upd (flI f i v) i v = flI f (i + 1) v := by
  funext j
  unfold upd flI
  by_cases e : j = i
  · rw [if_pos e, if_pos (by omega)]
  · rw [if_neg e]
    by_cases h : j < i
    · rw [if_pos h, if_pos (by omega)]
    · rw [if_neg h, if_neg (by omega)]
theorem opK (op : Int64 → Int64 → Int64) {f g d d2 : Nat → Int64} {i : Nat} (hd : ∀ w, w < 64 → d w = if w < i then op (f w) (g w) else f w) (hi : i < 64) (h2 : vp_updL d i (op (d i) (g i)) = d2) : ∀ w, w < 64 → d2 w = if w < i + 1 then op (f w) (g w) else f w := by
  intro w hw
  rw [← h2]
  by_cases e : w = i
  · subst e
    rw [pk_uLs, if_pos (Nat.lt_succ_self _), hd w hw, if_neg (Nat.lt_irrefl _)]
  · rw [pk_uLn e, hd w hw]
    by_cases h : w < i
    · rw [if_pos h, if_pos (by omega)]
    · rw [if_neg h, if_neg (by omega)]
theorem andDone {f g d : Nat → Int64} {S T : Nat → Bool} {i : Nat} (hf : RS f S) (hg : RS g T) (hd : ∀ w, w < 64 → d w = if w < i then f w &&& g w else f w) (hi : 64 ≤ i) : RS d (fun r => S r && T r) := fun w hw t ht => by
  rw [hd w hw, if_pos (by omega), bL_and, hf w hw t ht, hg w hw t ht]
theorem orDone {f g d : Nat → Int64} {S T : Nat → Bool} {i : Nat} (hf : RS f S) (hg : RS g T) (hd : ∀ w, w < 64 → d w = if w < i then f w ||| g w else f w) (hi : 64 ≤ i) : RS d (fun r => S r || T r) := fun w hw t ht => by
  rw [hd w hw, if_pos (by omega), bL_or, hf w hw t ht, hg w hw t ht]
theorem notDone {f d : Nat → Int64} {S : Nat → Bool} {i : Nat} (hf : RS f S) (hd : ∀ w, w < 64 → d w = if w < i then f w ^^^ (-1) else f w) (hi : 64 ≤ i) : RS d (fun r => !(S r)) := fun w hw t ht => by
  rw [hd w hw, if_pos (by omega), bL_not ht, hf w hw t ht]
theorem allDone {d : Nat → Int64} (hd : ∀ j, j < 64 → d j = -1) : RS d (fun _ => true) := fun w hw t ht => by
  rw [hd w hw]; exact bL_m1 ht
/-! a word's rows -/
theorem wordLo0 : ∀ q, q < 3 → ∀ v, v < 4 → ∀ t, t < 64 → bL (zw q <<< ((nI (v * 2 ^ (2 * q))).toInt64 &&& 63)) t = (dg t q == v) := by decide +kernel
theorem wordLo {q v w : Nat} (hq : q < 3) (hv : v < 4) : ∀ t, t < 64 → bL (zw q <<< ((nI (v * 2 ^ (2 * q))).toInt64 &&& 63)) t = (dg (64 * w + t) q == v) := fun t ht => by
  rw [wordLo0 q hq v hv t ht, dg_lo hq]
theorem wordHi1 {q v w : Nat} (hq : 3 ≤ q) (h : dg w (q - 3) = v) : ∀ t, t < 64 → bL (-1) t = (dg (64 * w + t) q == v) := fun t ht => by
  rw [bL_m1 ht, dg_hi ht hq, h, beq_self_eq_true]
theorem wordHi0 {q v w : Nat} (hq : 3 ≤ q) (h : ¬ dg w (q - 3) = v) : ∀ t, t < 64 → bL 0 t = (dg (64 * w + t) q == v) := fun t ht => by
  rw [bL_0, dg_hi ht hq, beq_false_of_ne h]
theorem becK {q v i : Nat} {d d2 : Nat → Int64} {x : Int64} (hd : ∀ w, w < i → ∀ t, t < 64 → bL (d w) t = (dg (64 * w + t) q == v)) (hx : ∀ t, t < 64 → bL x t = (dg (64 * i + t) q == v)) (h2 : vp_updL d i x = d2) : ∀ w, w < i + 1 → ∀ t, t < 64 → bL (d2 w) t = (dg (64 * w + t) q == v) := by
  intro w hw t ht
  rw [← h2]
  by_cases e : w = i
  · subst e; rw [pk_uLs]; exact hx t ht
  · rw [pk_uLn e]; exact hd w (by omega) t ht
/-! is there a row with these bits -/
def exB (N : Nat) (f : Nat → Bool) : Bool := (List.range N).any f
theorem exB_t {N : Nat} {f : Nat → Bool} : exB N f = true ↔ ∃ r, r < N ∧ f r = true := by
  unfold exB
  rw [List.any_eq_true]
  constructor
  · rintro ⟨x, hx, h⟩; exact ⟨x, List.mem_range.mp hx, h⟩
  · rintro ⟨x, hx, h⟩; exact ⟨x, List.mem_range.mpr hx, h⟩
theorem exB_f {N : Nat} {f : Nat → Bool} : exB N f = false ↔ ∀ r, r < N → f r = false := by
  constructor
  · intro h r hr
    cases hf : f r
    · rfl
    · rw [exB_t.mpr ⟨r, hr, hf⟩] at h; cases h
  · intro h
    apply ts_nt
    intro h1
    obtain ⟨r, hr, hf⟩ := exB_t.mp h1
    rw [h r hr] at hf; cases hf
def anyR (S : Nat → Bool) (n b : Nat) : Bool := exB 4096 (fun r => S r && (r &&& fo n 6 == b))
theorem anyR_t {S : Nat → Bool} {n b : Nat} : anyR S n b = true ↔ ∃ r, r < 4096 ∧ S r = true ∧ r &&& fo n 6 = b := by
  unfold anyR
  rw [exB_t]
  simp only [Bool.and_eq_true, beq_iff_eq]
def inW (n b t : Nat) : Nat → Bool
  | 0 => true
  | i + 1 => inW n b t i && (!(n.testBit i) || dg t i == dg b i)
theorem inW_iff {n b t : Nat} : ∀ {i : Nat}, inW n b t i = true ↔ ∀ p, p < i → n.testBit p = true → dg t p = dg b p
  | 0 => ⟨fun _ p hp => absurd hp (Nat.not_lt_zero _), fun _ => rfl⟩
  | i + 1 => by
    show (inW n b t i && (!(n.testBit i) || dg t i == dg b i)) = true ↔ _
    rw [Bool.and_eq_true, inW_iff, Bool.or_eq_true, Bool.not_eq_true', beq_iff_eq]
    constructor
    · rintro ⟨h1, h2⟩ p hp hb
      by_cases e : p = i
      · subst e
        rcases h2 with h2 | h2
        · rw [h2] at hb; cases hb
        · exact h2
      · exact h1 p (by omega) hb
    · intro h
      refine ⟨fun p hp hb => h p (by omega) hb, ?_⟩
      cases hb : n.testBit i
      · exact Or.inl rfl
      · exact Or.inr (h i (by omega) hb)
theorem inW_f {n b i : Nat} {x : Int64} (hi : i < 6) (hm : ∀ t, t < 64 → bL x t = inW n b t i) (hc : dg (fo n 6) i = 0) : ∀ t, t < 64 → bL x t = inW n b t (i + 1) := fun t ht => by
  rw [hm t ht]
  show _ = (inW n b t i && (!(n.testBit i) || dg t i == dg b i))
  rw [(dg_fo0 hi).mp hc]
  simp
theorem inW_t {n b i : Nat} {x : Int64} (hi : i < 3) (hm : ∀ t, t < 64 → bL x t = inW n b t i) (hc : ¬ dg (fo n 6) i = 0) : ∀ t, t < 64 → bL (x &&& (zw i <<< ((nI (dg b i * 2 ^ (2 * i))).toInt64 &&& 63))) t = inW n b t (i + 1) := fun t ht => by
  rw [bL_and, hm t ht, wordLo0 i hi _ (dg_lt b i) t ht]
  show _ = (inW n b t i && (!(n.testBit i) || dg t i == dg b i))
  rw [dg_fo0 (by omega)] at hc
  rw [ts_nf hc]
  simp
/-- the free parameters 3, 4, 5 of n, as a set of 0, 1, 2 -/
def hs (n : Nat) : Nat := 7 - n / 8
theorem hs_b : ∀ n, n < 64 → ∀ k, k < 6 → (hs n).testBit k = (decide (k < 3) && !(n.testBit (k + 3))) := by decide +kernel
theorem hs_fr : ∀ n, n < 64 → (nI ((fo n 6) / 2 ^ 6) ^^^ (-1)) &&& nI 63 = nI (fo (hs n) 6) := by decide +kernel
theorem fr_eq {n : Nat} (hn : n < 64) : (nI ((fo n 6) / 2 ^ 6) ^^^ (-1)) &&& nI 63 = nI (fo (hs n) 6) := hs_fr n hn
theorem hs_lt (n : Nat) : hs n < 64 := by unfold hs; omega
theorem hi6 {b : Nat} (hb : b < 4096) : nI (b / 2 ^ 6) &&& nI 63 = nI (b / 64) := by
  have h : b / 2 ^ 6 &&& 63 = b / 2 ^ 6 % 64 := Nat.and_two_pow_sub_one_eq_mod _ 6
  rw [nx_and, h]
  congr 1
  omega
theorem ux_lt64 {n : Nat} (hn : n < 64) (j : Nat) : ux (hs n) j < 64 := by
  have h : ∀ k, 3 ≤ k → k < 6 → uxf (hs n) j k = 0 := fun k h3 h6 => by
    unfold uxf
    rw [hs_b n hn k h6, decide_eq_false (by omega)]
    rfl
  have e : ux (hs n) j = sd (uxf (hs n) j) 3 + uxf (hs n) j 3 * 4 ^ 3 + uxf (hs n) j 4 * 4 ^ 4 + uxf (hs n) j 5 * 4 ^ 5 := rfl
  rw [e, h 3 (by omega) (by omega), h 4 (by omega) (by omega), h 5 (by omega) (by omega)]
  have := sd_lt (uxf4 (hs n) j) 3
  omega
theorem or64 {a b : Nat} (ha : a < 64) (hb : b < 64) : a ||| b < 64 := Nat.or_lt_two_pow (n := 6) ha hb
theorem dg_b0 {n b p : Nat} (hbs : b &&& fo n 6 = b) (hp : p < 6) (h : n.testBit p = false) : dg b p = 0 := by
  rw [← hbs, dg_and, (dg_fo0 hp).mpr h]
  exact Nat.and_zero _
theorem dg_up {b k : Nat} : dg b (k + 3) = dg (b / 64) k := by
  have h := dg_hi (w := b / 64) (t := b % 64) (q := k + 3) (by omega) (by omega)
  rwa [show 64 * (b / 64) + b % 64 = b by omega, Nat.add_sub_cancel] at h
theorem and_dg {n r b : Nat} (hr : r < 4096) (hb : b < 4096) (hbs : b &&& fo n 6 = b) : r &&& fo n 6 = b ↔ ∀ p, p < 6 → n.testBit p = true → dg r p = dg b p := by
  constructor
  · intro h p hp hbp
    have h1 := congrArg (fun x => dg x p) h
    simp only [dg_and] at h1
    rw [dg_fo n hp, hbp] at h1
    exact (and3 _ (dg_lt r p)).symm.trans h1
  · intro h
    refine dg_ext (k := 6) (Nat.lt_of_le_of_lt Nat.and_le_left hr) hb (fun p hp => ?_)
    rw [dg_and, dg_fo n hp]
    cases hbp : n.testBit p
    · rw [dg_b0 hbs hp hbp]; exact Nat.and_zero _
    · rw [← h p hp hbp]; exact and3 _ (dg_lt r p)
theorem hit_w {n b j t : Nat} (hn : n < 64) (hb : b < 4096) (hbs : b &&& fo n 6 = b) (ht : t < 64) (hi : inW n b t 3 = true) : (64 * (b / 64 ||| ux (hs n) j) + t) &&& fo n 6 = b := by
  have hw := or64 (show b / 64 < 64 by omega) (ux_lt64 hn j)
  rw [and_dg (by omega) hb hbs]
  intro p hp hbp
  by_cases h3 : p < 3
  · rw [dg_lo h3]; exact inW_iff.mp hi p h3 hbp
  · rw [dg_hi ht (by omega), dg_or, dg_ux _ _ (by omega), hs_b n hn _ (by omega), show p - 3 + 3 = p by omega, hbp]
    rw [← dg_up, show p - 3 + 3 = p by omega]
    simp
theorem hit_j {n b r : Nat} (hn : n < 64) (hr : r < 4096) (hb : b < 4096) (hbs : b &&& fo n 6 = b) (h : r &&& fo n 6 = b) : r / 64 = b / 64 ||| ux (hs n) (tp (hs n) (r / 64)) := by
  refine dg_ext (k := 3) (show r / 64 < 64 by omega) (or64 (show b / 64 < 64 by omega) (ux_lt64 hn _)) (fun p hp => ?_)
  rw [dg_or, dg_ux _ _ (by omega), ← dg_up, ← dg_up]
  have hd := (and_dg hr hb hbs).mp h
  cases hq : n.testBit (p + 3)
  · have e : (hs n).testBit p = true := by rw [hs_b n hn p (by omega), hq, decide_eq_true hp]; rfl
    rw [e, dg_b0 hbs (by omega) hq, dg_up]
    show _ = 0 ||| dg (tp (hs n) (r / 64)) (cn (hs n) p)
    rw [dg_tp (by omega) e, Nat.zero_or]
  · have e : (hs n).testBit p = false := by rw [hs_b n hn p (by omega), hq, decide_eq_true hp]; rfl
    rw [e, hd (p + 3) (by omega) hq]
    exact (Nat.or_zero _).symm
theorem hitYes {f : Nat → Int64} {S : Nat → Bool} {x : Int64} {n b j : Nat} (hf : RS f S) (hx : ∀ t, t < 64 → bL x t = inW n b t 3) (hn : n < 64) (hb : b < 4096) (hbs : b &&& fo n 6 = b) (h : ¬ f (b / 64 ||| ux (hs n) j) &&& x = 0) : anyR S n b = true := by
  apply Classical.byContradiction
  intro hno
  apply h
  apply bL_ext0
  intro t ht
  have hw := or64 (show b / 64 < 64 by omega) (ux_lt64 hn j)
  rw [bL_and, hf _ hw t ht, hx t ht]
  cases hi : inW n b t 3
  · exact Bool.and_false _
  · cases hS : S (64 * (b / 64 ||| ux (hs n) j) + t)
    · rfl
    · exact absurd (anyR_t.mpr ⟨_, by omega, hS, hit_w hn hb hbs ht hi⟩) hno
theorem hitNo {f : Nat → Int64} {S : Nat → Bool} {x : Int64} {n b j : Nat} (hf : RS f S) (hx : ∀ t, t < 64 → bL x t = inW n b t 3) (hn : n < 64) (hb : b < 4096) (hbs : b &&& fo n 6 = b) (hj : 4 ^ cn (hs n) 6 ≤ j) (h : ∀ k, k < j → f (b / 64 ||| ux (hs n) k) &&& x = 0) : anyR S n b = false := by
  apply ts_nt
  intro hy
  obtain ⟨r, hr, hS, hrb⟩ := anyR_t.mp hy
  have h1 := h (tp (hs n) (r / 64)) (Nat.lt_of_lt_of_le (tp_lt4 _ _) hj)
  rw [← hit_j hn hr hb hbs hrb] at h1
  have h2 := congrArg (fun y => bL y (r % 64)) h1
  simp only [bL_and] at h2
  rw [hf.at hr, hx _ (by omega), hS, bL_0] at h2
  have h3 : inW n b (r % 64) 3 = true := inW_iff.mpr (fun p hp hbp => by
    have := (and_dg hr hb hbs).mp hrb p (by omega) hbp
    rw [← this, ← dg_lo (w := r / 64) hp, show 64 * (r / 64) + r % 64 = r by omega])
  rw [h3] at h2
  cases h2
/-! counts of bits -/
def bcI (x : Int32) : Int32 :=
  let a1 := x - ((x.toUInt32 >>> ((nI 1).toUInt32 &&& Int32.toUInt32 31)).toInt32 &&& 1431655765)
  let a2 := (a1 &&& 858993459) + ((a1.toUInt32 >>> ((nI 2).toUInt32 &&& Int32.toUInt32 31)).toInt32 &&& 858993459)
  let a3 := (a2 + (a2.toUInt32 >>> ((nI 4).toUInt32 &&& Int32.toUInt32 31)).toInt32) &&& 252645135
  let a4 := a3 + (a3.toUInt32 >>> ((nI 8).toUInt32 &&& Int32.toUInt32 31)).toInt32
  let a5 := a4 + (a4.toUInt32 >>> ((nI 16).toUInt32 &&& Int32.toUInt32 31)).toInt32
  a5 &&& nI 63
def bcL (x : Int64) : Int32 :=
  let a1 := x - ((x.toUInt64 >>> ((nI 1).toInt64.toUInt64 &&& Int64.toUInt64 63)).toInt64 &&& 6148914691236517205)
  let a2 := (a1 &&& 3689348814741910323) + ((a1.toUInt64 >>> ((nI 2).toInt64.toUInt64 &&& Int64.toUInt64 63)).toInt64 &&& 3689348814741910323)
  let a3 := (a2 + (a2.toUInt64 >>> ((nI 4).toInt64.toUInt64 &&& Int64.toUInt64 63)).toInt64) &&& 1085102592571150095
  let a4 := a3 + (a3.toUInt64 >>> ((nI 8).toInt64.toUInt64 &&& Int64.toUInt64 63)).toInt64
  let a5 := a4 + (a4.toUInt64 >>> ((nI 16).toInt64.toUInt64 &&& Int64.toUInt64 63)).toInt64
  let a6 := a5 + (a5.toUInt64 >>> ((nI 32).toInt64.toUInt64 &&& Int64.toUInt64 63)).toInt64
  a6.toInt32 &&& nI 127
theorem bc6_all : ∀ n, n < 64 → bcI (nI n) = nI (cn n 6) := by decide +kernel
theorem bc6 {n : Nat} (hn : n < 64) : bcI (nI n) = nI (cn n 6) := bc6_all n hn
theorem bcF_all : ∀ n, n < 64 → nI 1 <<< (bcI (nI (fo n 6)) &&& 31) = nI (4 ^ cn n 6) := by decide +kernel
theorem bcF {n : Nat} (hn : n < 64) : nI 1 <<< (bcI (nI (fo n 6)) &&& 31) = nI (4 ^ cn n 6) := bcF_all n hn
theorem p4cn (n : Nat) : 4 ^ cn n 6 ≤ 4096 := p4le (b := 6) (cn_le n 6)
