/-! how many -/
def cB (f : Nat → Bool) : Nat → Nat
  | 0 => 0
  | k + 1 => cB f k + cond (f k) 1 0
theorem cB_le (f : Nat → Bool) : ∀ k, cB f k ≤ k
  | 0 => Nat.le_refl _
  | k + 1 => by
    have h := cB_le f k
    show cB f k + cond (f k) 1 0 ≤ k + 1
    cases f k <;> simp only [cond_true, cond_false] <;> omega
theorem cB_t {f : Nat → Bool} {k : Nat} (h : f k = true) : cB f (k + 1) = cB f k + 1 := by show cB f k + cond (f k) 1 0 = _; rw [h]; rfl
theorem cB_f {f : Nat → Bool} {k : Nat} (h : f k = false) : cB f (k + 1) = cB f k := by show cB f k + cond (f k) 1 0 = _; rw [h]; rfl
theorem cB_congr {f g : Nat → Bool} : ∀ {k : Nat}, (∀ i, i < k → f i = g i) → cB f k = cB g k
  | 0, _ => rfl
  | k + 1, h => by
    show cB f k + cond (f k) 1 0 = cB g k + cond (g k) 1 0
    rw [cB_congr (k := k) (fun i hi => h i (by omega)), h k (by omega)]
theorem cB_zero {f : Nat → Bool} : ∀ {k : Nat}, cB f k = 0 ↔ ∀ i, i < k → f i = false
  | 0 => ⟨fun _ i hi => absurd hi (Nat.not_lt_zero _), fun _ => rfl⟩
  | k + 1 => by
    show cB f k + cond (f k) 1 0 = 0 ↔ _
    constructor
    · intro h i hi
      by_cases e : i = k
      · subst e; cases hf : f i
        · rfl
        · rw [hf] at h; exact absurd h (by show ¬ cB f i + 1 = 0; omega)
      · exact (cB_zero (f := f) (k := k)).mp (by omega) i (by omega)
    · intro h
      rw [cB_zero.mpr (fun i hi => h i (by omega)), h k (by omega)]
      rfl
theorem cB_add (f : Nat → Bool) (a : Nat) : ∀ b, cB f (a + b) = cB f a + cB (fun t => f (a + t)) b
  | 0 => rfl
  | b + 1 => by
    show cB f (a + b) + cond (f (a + b)) 1 0 = cB f a + (cB (fun t => f (a + t)) b + cond (f (a + b)) 1 0)
    rw [cB_add f a b, Nat.add_assoc]
/-- one place changed from true to false -/
theorem cB_drop {f g : Nat → Bool} {n : Nat} : ∀ {k : Nat}, n < k → f n = true → g n = false → (∀ i, i < k → i ≠ n → g i = f i) → cB g k + 1 = cB f k
  | 0, h, _, _, _ => absurd h (Nat.not_lt_zero _)
  | k + 1, h, hf, hg, ho => by
    by_cases e : n = k
    · subst e
      rw [cB_t hf, cB_f hg, cB_congr (fun i hi => ho i (by omega) (by omega))]
    · have h1 := cB_drop (k := k) (by omega) hf hg (fun i hi hn => ho i (by omega) hn)
      show cB g k + cond (g k) 1 0 + 1 = cB f k + cond (f k) 1 0
      rw [ho k (by omega) (by omega)]
      omega
/-! Long.bitCount counts the bits: bytes -/
theorem and256 {a m : Nat} (A M : Nat) (ha : a < 256) (hm : m < 256) : (a + 256 * A) &&& (m + 256 * M) = (a &&& m) + 256 * (A &&& M) := by
  have h1 : ((a + 256 * A) &&& (m + 256 * M)) / 256 = A &&& M := by
    rw [Nat.and_div_two_pow (n := 8)]
    congr 1
    · omega
    · omega
  have h2 : ((a + 256 * A) &&& (m + 256 * M)) % 256 = a &&& m := by
    rw [Nat.and_mod_two_pow (n := 8)]
    congr 1
    · omega
    · omega
  omega
def m8 (m : Nat) : Nat → Nat
  | 0 => 0
  | k + 1 => m + 256 * m8 m k
/-- the three steps in a byte -/
def bf1 (b : Nat) : Nat := b - (b / 2 &&& 85)
def bf2 (b : Nat) : Nat := (b &&& 51) + (b / 4 &&& 51)
def bf3 (b : Nat) : Nat := (b + b / 16) &&& 15
theorem f1_all : ∀ b, b < 256 → ∀ u, u < 2 → (b / 2 + 128 * u) &&& 85 = b / 2 &&& 85 := by decide +kernel
theorem f1_le : ∀ b, b < 256 → b / 2 &&& 85 ≤ b := by decide +kernel
theorem f2_all : ∀ b, b < 256 → ∀ u, u < 4 → (b / 4 + 64 * u) &&& 51 = b / 4 &&& 51 := by decide +kernel
theorem f2_lt : ∀ b, b < 256 → (bf2 (bf1 b)) % 16 ≤ 4 ∧ bf2 (bf1 b) / 16 ≤ 4 := by decide +kernel
theorem f3_all : ∀ b, b < 69 → ∀ u, u < 5 → (b + (b / 16 + 16 * u)) &&& 15 = bf3 b := by decide +kernel
theorem f321 : ∀ b, b < 256 → bf3 (bf2 (bf1 b)) = cB (fun t => b.testBit t) 8 := by decide +kernel
theorem f1_lt {b : Nat} (h : b < 256) : bf1 b < 256 := by unfold bf1; omega
def mp (f : Nat → Nat) (X : Nat) : Nat → Nat
  | 0 => 0
  | k + 1 => f (X % 256) + 256 * mp f (X / 256) k
theorem s1_mp : ∀ (k X : Nat), X < 256 ^ k → X - (X / 2 &&& m8 85 k) = mp bf1 X k
  | 0, X, h => by rw [Nat.pow_zero] at h; obtain rfl : X = 0 := by omega
                  rfl
  | k + 1, X, h => by
    have hY : X / 256 < 256 ^ k := by rw [Nat.pow_succ] at h; omega
    have ih := s1_mp k (X / 256) hY
    show X - (X / 2 &&& (85 + 256 * m8 85 k)) = bf1 (X % 256) + 256 * mp bf1 (X / 256) k
    rw [← ih, show X / 2 = (X % 256 / 2 + 128 * (X / 256 % 2)) + 256 * (X / 256 / 2) by omega, and256 _ _ (by omega) (by decide), f1_all _ (by omega) _ (by omega)]
    unfold bf1
    have h1 := f1_le (X % 256) (by omega)
    have h2 : X / 256 / 2 &&& m8 85 k ≤ X / 256 / 2 := Nat.and_le_left
    generalize X % 256 / 2 &&& 85 = c at h1 ⊢
    generalize X / 256 / 2 &&& m8 85 k = D at h2 ⊢
    omega
theorem s2_step {b : Nat} (Y k : Nat) (hb : b < 256) : ((b + 256 * Y) &&& m8 51 (k + 1)) + ((b + 256 * Y) / 4 &&& m8 51 (k + 1)) = bf2 b + 256 * ((Y &&& m8 51 k) + (Y / 4 &&& m8 51 k)) := by
  show ((b + 256 * Y) &&& (51 + 256 * m8 51 k)) + ((b + 256 * Y) / 4 &&& (51 + 256 * m8 51 k)) = _
  rw [show (b + 256 * Y) / 4 = (b / 4 + 64 * (Y % 4)) + 256 * (Y / 4) by omega, and256 _ _ hb (by decide), and256 _ _ (by omega) (by decide), f2_all b hb _ (by omega)]
  unfold bf2
  omega
theorem s2_mp : ∀ (k X : Nat), (mp bf1 X k &&& m8 51 k) + (mp bf1 X k / 4 &&& m8 51 k) = mp (fun b => bf2 (bf1 b)) X k
  | 0, X => by show (0 &&& 0) + (0 / 4 &&& 0) = 0; decide
  | k + 1, X => by
    show ((bf1 (X % 256) + 256 * mp bf1 (X / 256) k) &&& m8 51 (k + 1)) + ((bf1 (X % 256) + 256 * mp bf1 (X / 256) k) / 4 &&& m8 51 (k + 1)) = bf2 (bf1 (X % 256)) + 256 * mp (fun b => bf2 (bf1 b)) (X / 256) k
    rw [s2_step _ _ (f1_lt (by omega)), s2_mp k (X / 256)]
theorem mp16 (X : Nat) : ∀ k, mp (fun b => bf2 (bf1 b)) X k % 16 ≤ 4
  | 0 => by show 0 % 16 ≤ 4; decide
  | k + 1 => by
    show (bf2 (bf1 (X % 256)) + 256 * mp (fun b => bf2 (bf1 b)) (X / 256) k) % 16 ≤ 4
    have := f2_lt (X % 256) (by omega)
    omega
theorem s3_mp : ∀ (k X : Nat), (mp (fun b => bf2 (bf1 b)) X k + mp (fun b => bf2 (bf1 b)) X k / 16) &&& m8 15 k = mp (fun b => bf3 (bf2 (bf1 b))) X k
  | 0, X => by show (0 + 0 / 16) &&& 0 = 0; decide
  | k + 1, X => by
    have ih := s3_mp k (X / 256)
    have h16 := mp16 (X / 256) k
    have h2 := f2_lt (X % 256) (by omega)
    show ((bf2 (bf1 (X % 256)) + 256 * mp (fun b => bf2 (bf1 b)) (X / 256) k) + (bf2 (bf1 (X % 256)) + 256 * mp (fun b => bf2 (bf1 b)) (X / 256) k) / 16) &&& (15 + 256 * m8 15 k) = bf3 (bf2 (bf1 (X % 256))) + 256 * mp (fun b => bf3 (bf2 (bf1 b))) (X / 256) k
    rw [← ih]
    generalize mp (fun b => bf2 (bf1 b)) (X / 256) k = W at h16 ⊢
    generalize bf2 (bf1 (X % 256)) = c at h2 ⊢
    rw [show (c + 256 * W) + (c + 256 * W) / 16 = (c + (c / 16 + 16 * (W % 16))) + 256 * (W + W / 16) by omega, and256 _ _ (by omega) (by decide), f3_all c (by omega) _ (by omega)]
theorem by_bits : ∀ (k X : Nat), cB (fun t => X.testBit t) (8 * k) = (List.range k).foldl (fun a i => a + bf3 (bf2 (bf1 (X / 256 ^ i % 256)))) 0
  | 0, X => rfl
  | k + 1, X => by
    rw [List.range_succ, List.foldl_append, ← by_bits k X, show 8 * (k + 1) = 8 * k + 8 by omega, cB_add]
    show _ = cB (fun t => X.testBit t) (8 * k) + bf3 (bf2 (bf1 (X / 256 ^ k % 256)))
    rw [f321 _ (Nat.mod_lt _ (by decide))]
    congr 1
    apply cB_congr
    intro i hi
    rw [show (256 : Nat) = 2 ^ 8 from rfl, Nat.testBit_mod_two_pow, decide_eq_true hi, Bool.true_and, ← Nat.pow_mul, Nat.testBit_div_two_pow, Nat.add_comm i]
theorem mp_fold (f : Nat → Nat) (X : Nat) : mp f X 8 = f (X % 256) + 256 * (f (X / 256 % 256) + 256 * (f (X / 256 / 256 % 256) + 256 * (f (X / 256 / 256 / 256 % 256) + 256 * (f (X / 256 / 256 / 256 / 256 % 256) + 256 * (f (X / 256 / 256 / 256 / 256 / 256 % 256) + 256 * (f (X / 256 / 256 / 256 / 256 / 256 / 256 % 256) + 256 * (f (X / 256 / 256 / 256 / 256 / 256 / 256 / 256 % 256)))))))) := rfl
theorem f3_le (b : Nat) (h : b < 256) : bf3 (bf2 (bf1 b)) ≤ 8 := by rw [f321 b h]; exact cB_le _ 8
theorem dv1 {A p Z : Nat} (h : A = p + 256 * Z) (hp : p < 256) : A / 256 = Z := by omega
theorem dv2 {A p q Z : Nat} (h : A = p + 256 * (q + 256 * Z)) (hp : p < 256) (hq : q < 256) : A / 65536 = Z := by omega
theorem dv4 {A p q r t Z : Nat} (h : A = p + 256 * (q + 256 * (r + 256 * (t + 256 * Z)))) (hp : p < 256) (hq : q < 256) (hr : r < 256) (ht : t < 256) : A / 4294967296 = Z := by omega
theorem md1 {A p Z : Nat} (h : A = p + 256 * Z) (hp : p ≤ 64) : A % 128 = p := by omega
theorem bd8 {A a0 a1 a2 a3 a4 a5 a6 a7 : Nat} (h : A = a0 + 256 * (a1 + 256 * (a2 + 256 * (a3 + 256 * (a4 + 256 * (a5 + 256 * (a6 + 256 * a7))))))) (h0 : a0 ≤ 68) (h1 : a1 ≤ 68) (h2 : a2 ≤ 68) (h3 : a3 ≤ 68) (h4 : a4 ≤ 68) (h5 : a5 ≤ 68) (h6 : a6 ≤ 68) (h7 : a7 ≤ 68) : A < 2 ^ 63 := by omega
theorem fold_sum {p0 p1 p2 p3 p4 p5 p6 p7 A : Nat} (h0 : p0 ≤ 8) (h1 : p1 ≤ 8) (h2 : p2 ≤ 8) (h3 : p3 ≤ 8) (h4 : p4 ≤ 8) (h5 : p5 ≤ 8) (h6 : p6 ≤ 8) (h7 : p7 ≤ 8) (hA : A = p0 + 256 * (p1 + 256 * (p2 + 256 * (p3 + 256 * (p4 + 256 * (p5 + 256 * (p6 + 256 * p7))))))) :
    ∃ B C D, B = A + A / 256 ∧ B < 2 ^ 64 ∧ C = B + B / 65536 ∧ C < 2 ^ 64 ∧ D = C + C / 4294967296 ∧ D < 2 ^ 64 ∧ D % 128 = p0 + p1 + p2 + p3 + p4 + p5 + p6 + p7 := by
  have e1 := dv1 hA (by omega)
  obtain ⟨B, hB⟩ : ∃ B, B = A + A / 256 := ⟨_, rfl⟩
  have e2 : B = (p0 + p1) + 256 * ((p1 + p2) + 256 * ((p2 + p3) + 256 * ((p3 + p4) + 256 * ((p4 + p5) + 256 * ((p5 + p6) + 256 * ((p6 + p7) + 256 * p7)))))) := by rw [hB, e1, hA]; clear hA hB e1; omega
  have b2 : B < 2 ^ 63 := by clear hA hB e1; exact bd8 e2 (by omega) (by omega) (by omega) (by omega) (by omega) (by omega) (by omega) (by omega)
  have e3 := dv2 e2 (by clear hA hB e1 e2 b2; omega) (by clear hA hB e1 e2 b2; omega)
  obtain ⟨C, hC⟩ : ∃ C, C = B + B / 65536 := ⟨_, rfl⟩
  have e4 : C = (p0 + p1 + p2 + p3) + 256 * ((p1 + p2 + p3 + p4) + 256 * ((p2 + p3 + p4 + p5) + 256 * ((p3 + p4 + p5 + p6) + 256 * ((p4 + p5 + p6 + p7) + 256 * ((p5 + p6 + p7) + 256 * ((p6 + p7) + 256 * p7)))))) := by rw [hC, e3, e2]; clear hA hB e1 hC e2 e3 b2; omega
  have b4 : C < 2 ^ 63 := by clear hA hB e1 hC e2 e3 b2; exact bd8 e4 (by omega) (by omega) (by omega) (by omega) (by omega) (by omega) (by omega) (by omega)
  have e5 := dv4 e4 (by clear hA hB e1 hC e2 e3 b2 e4 b4; omega) (by clear hA hB e1 hC e2 e3 b2 e4 b4; omega) (by clear hA hB e1 hC e2 e3 b2 e4 b4; omega) (by clear hA hB e1 hC e2 e3 b2 e4 b4; omega)
  obtain ⟨D, hD⟩ : ∃ D, D = C + C / 4294967296 := ⟨_, rfl⟩
  have e6 : D = (p0 + p1 + p2 + p3 + p4 + p5 + p6 + p7) + 256 * ((p1 + p2 + p3 + p4 + p5 + p6 + p7) + 256 * ((p2 + p3 + p4 + p5 + p6 + p7) + 256 * ((p3 + p4 + p5 + p6 + p7) + 256 * ((p4 + p5 + p6 + p7) + 256 * ((p5 + p6 + p7) + 256 * ((p6 + p7) + 256 * p7)))))) := by rw [hD, e5, e4]; clear hA hB e1 hC e2 e3 b2 e4 b4 hD e5; omega
  have b6 : D < 2 ^ 63 := by clear hA hB e1 hC e2 e3 b2 e4 b4 hD e5; exact bd8 e6 (by omega) (by omega) (by omega) (by omega) (by omega) (by omega) (by omega) (by omega)
  exact ⟨B, C, D, hB, by clear hA hB e1 hC e2 e3 e4 b4 hD e5 e6 b6; omega, hC, by clear hA hB e1 hC e2 e3 b2 e4 hD e5 e6 b6; omega, hD, by clear hA hB e1 hC e2 e3 b2 e4 b4 hD e5 e6; omega, md1 e6 (by clear hA hB e1 hC e2 e3 b2 e4 b4 hD e5 e6 b6; omega)⟩
/-! Int64 as an unsigned number (pasted of kit/laws/BITS.to-paste, but for uN_sub, uN_and, uN_l) -/
def uN (x : Int64) : Nat := x.toUInt64.toNat
theorem uN_lt (x : Int64) : uN x < 18446744073709551616 := x.toUInt64.toNat_lt
theorem uN_inj {x y : Int64} (h : uN x = uN y) : x = y := congrArg UInt64.toInt64 (UInt64.toNat_inj.mp h)
theorem uN_add (x y : Int64) : uN (x + y) = (uN x + uN y) % 18446744073709551616 := by
  show (x.toUInt64 + y.toUInt64).toNat = _
  exact UInt64.toNat_add _ _
theorem uN_sub {x y : Int64} (h : uN y ≤ uN x) : uN (x - y) = uN x - uN y := by
  show (x.toUInt64 - y.toUInt64).toNat = _
  exact UInt64.toNat_sub_of_le _ _ (UInt64.le_iff_toNat_le.mpr h)
theorem uN_and (x y : Int64) : uN (x &&& y) = uN x &&& uN y := by
  show (x.toUInt64 &&& y.toUInt64).toNat = _
  exact UInt64.toNat_and _ _
theorem uN_shr (x : Int64) (s : UInt64) : uN (x.toUInt64 >>> s).toInt64 = uN x / 2 ^ (s.toNat % 64) := by
  show (x.toUInt64 >>> s).toNat = _
  rw [UInt64.toNat_shiftRight, Nat.shiftRight_eq_div_pow]
  rfl
theorem uN_sk (x : Int64) {k : Nat} (hk : k < 64) : uN (x.toUInt64 >>> ((nI k).toInt64.toUInt64 &&& Int64.toUInt64 63)).toInt64 = uN x / 2 ^ k := by
  have h : ((nI k).toInt64.toUInt64 &&& Int64.toUInt64 63).toNat % 64 = k := by
    rw [wb_cu k hk, u_tn (by omega)]
    omega
  rw [uN_shr, h]
theorem uN_l (x : Int64) : x = lN (uN x) := by
  apply Int64.toBitVec_inj.mp
  show x.toBitVec = BitVec.ofNat 64 x.toBitVec.toNat
  simp
theorem uN_bit (x : Int64) (t : Nat) : bL x t = (uN x).testBit t := rfl
theorem bcL_eq (x : Int64) : bcL x = nI (cB (bL x) 64) := by
  have hX := uN_lt x
  have c1 : uN 6148914691236517205 = m8 85 8 := by decide +kernel
  have c2 : uN 3689348814741910323 = m8 51 8 := by decide +kernel
  have c3 : uN 1085102592571150095 = m8 15 8 := by decide +kernel
  have hs1 := s1_mp 8 (uN x) hX
  have hs2 := s2_mp 8 (uN x)
  have hs3 := s3_mp 8 (uN x)
  have q1 : ∀ b, b < 256 → bf3 (bf2 (bf1 b)) ≤ 8 := f3_le
  obtain ⟨a1, e1⟩ : ∃ a, a = x - ((x.toUInt64 >>> ((nI 1).toInt64.toUInt64 &&& Int64.toUInt64 63)).toInt64 &&& 6148914691236517205) := ⟨_, rfl⟩
  have u1 : uN a1 = mp bf1 (uN x) 8 := by
    have h : uN ((x.toUInt64 >>> ((nI 1).toInt64.toUInt64 &&& Int64.toUInt64 63)).toInt64 &&& 6148914691236517205) = uN x / 2 &&& m8 85 8 := by rw [uN_and, uN_sk x (by decide), c1]
    rw [e1, uN_sub (by rw [h]; exact Nat.le_trans Nat.and_le_left (Nat.div_le_self _ _)), h, hs1]
  obtain ⟨a2, e2⟩ : ∃ a, a = (a1 &&& 3689348814741910323) + ((a1.toUInt64 >>> ((nI 2).toInt64.toUInt64 &&& Int64.toUInt64 63)).toInt64 &&& 3689348814741910323) := ⟨_, rfl⟩
  have q2 : ∀ b, b < 256 → bf2 (bf1 b) ≤ 68 := fun b hb => by have := f2_lt b hb; omega
  have z2 : mp (fun b => bf2 (bf1 b)) (uN x) 8 < 2 ^ 63 := bd8 (mp_fold (fun b => bf2 (bf1 b)) (uN x)) (q2 _ (Nat.mod_lt _ (by decide))) (q2 _ (Nat.mod_lt _ (by decide))) (q2 _ (Nat.mod_lt _ (by decide))) (q2 _ (Nat.mod_lt _ (by decide))) (q2 _ (Nat.mod_lt _ (by decide))) (q2 _ (Nat.mod_lt _ (by decide))) (q2 _ (Nat.mod_lt _ (by decide))) (q2 _ (Nat.mod_lt _ (by decide)))
  have u2 : uN a2 = mp (fun b => bf2 (bf1 b)) (uN x) 8 := by
    rw [e2, uN_add, uN_and, uN_and, uN_sk a1 (by decide), c2, u1]
    show ((mp bf1 (uN x) 8 &&& m8 51 8) + (mp bf1 (uN x) 8 / 4 &&& m8 51 8)) % 18446744073709551616 = _
    rw [hs2, Nat.mod_eq_of_lt (by omega)]
  obtain ⟨a3, e3⟩ : ∃ a, a = (a2 + (a2.toUInt64 >>> ((nI 4).toInt64.toUInt64 &&& Int64.toUInt64 63)).toInt64) &&& 1085102592571150095 := ⟨_, rfl⟩
  have u3 : uN a3 = mp (fun b => bf3 (bf2 (bf1 b))) (uN x) 8 := by
    rw [e3, uN_and, uN_add, uN_sk a2 (by decide), c3, u2]
    show ((mp (fun b => bf2 (bf1 b)) (uN x) 8 + mp (fun b => bf2 (bf1 b)) (uN x) 8 / 16) % 18446744073709551616) &&& m8 15 8 = _
    rw [Nat.mod_eq_of_lt (by omega), hs3]
  obtain ⟨B, C, D, hB, hB4, hC, hC4, hD, hD4, hsum⟩ := fold_sum (q1 (uN x % 256) (Nat.mod_lt _ (by decide))) (q1 (uN x / 256 % 256) (Nat.mod_lt _ (by decide))) (q1 (uN x / 256 / 256 % 256) (Nat.mod_lt _ (by decide))) (q1 (uN x / 256 / 256 / 256 % 256) (Nat.mod_lt _ (by decide))) (q1 (uN x / 256 / 256 / 256 / 256 % 256) (Nat.mod_lt _ (by decide))) (q1 (uN x / 256 / 256 / 256 / 256 / 256 % 256) (Nat.mod_lt _ (by decide))) (q1 (uN x / 256 / 256 / 256 / 256 / 256 / 256 % 256) (Nat.mod_lt _ (by decide))) (q1 (uN x / 256 / 256 / 256 / 256 / 256 / 256 / 256 % 256) (Nat.mod_lt _ (by decide))) (u3.trans (mp_fold (fun b => bf3 (bf2 (bf1 b))) (uN x)))
  obtain ⟨a4, e4⟩ : ∃ a, a = a3 + (a3.toUInt64 >>> ((nI 8).toInt64.toUInt64 &&& Int64.toUInt64 63)).toInt64 := ⟨_, rfl⟩
  have u4 : uN a4 = B := by
    rw [e4, uN_add, uN_sk a3 (by decide)]
    show (uN a3 + uN a3 / 256) % 18446744073709551616 = B
    rw [← hB, Nat.mod_eq_of_lt hB4]
  obtain ⟨a5, e5⟩ : ∃ a, a = a4 + (a4.toUInt64 >>> ((nI 16).toInt64.toUInt64 &&& Int64.toUInt64 63)).toInt64 := ⟨_, rfl⟩
  have u5 : uN a5 = C := by
    rw [e5, uN_add, uN_sk a4 (by decide), u4]
    show (B + B / 65536) % 18446744073709551616 = C
    rw [← hC, Nat.mod_eq_of_lt hC4]
  obtain ⟨a6, e6⟩ : ∃ a, a = a5 + (a5.toUInt64 >>> ((nI 32).toInt64.toUInt64 &&& Int64.toUInt64 63)).toInt64 := ⟨_, rfl⟩
  have u6 : uN a6 = D := by
    rw [e6, uN_add, uN_sk a5 (by decide), u5]
    show (C + C / 4294967296) % 18446744073709551616 = D
    rw [← hD, Nat.mod_eq_of_lt hD4]
  have hb : bcL x = a6.toInt32 &&& nI 127 := by subst e6 e5 e4 e3 e2 e1; rfl
  have hm : D &&& 127 = D % 128 := Nat.and_two_pow_sub_one_eq_mod _ 7
  rw [hb, uN_l a6, u6, lN_i, nx_and, hm, hsum]
  congr 1
  have h8 := by_bits 8 (uN x)
  show _ = cB (fun t => (uN x).testBit t) (8 * 8)
  rw [h8]
  show _ = 0 + bf3 (bf2 (bf1 (uN x / 256 ^ 0 % 256))) + bf3 (bf2 (bf1 (uN x / 256 ^ 1 % 256))) + bf3 (bf2 (bf1 (uN x / 256 ^ 2 % 256))) + bf3 (bf2 (bf1 (uN x / 256 ^ 3 % 256))) + bf3 (bf2 (bf1 (uN x / 256 ^ 4 % 256))) + bf3 (bf2 (bf1 (uN x / 256 ^ 5 % 256))) + bf3 (bf2 (bf1 (uN x / 256 ^ 6 % 256))) + bf3 (bf2 (bf1 (uN x / 256 ^ 7 % 256)))
  simp only [Nat.div_div_eq_div_mul, Nat.pow_zero, Nat.div_one, Nat.zero_add, Nat.reduceMul, Nat.reducePow]
