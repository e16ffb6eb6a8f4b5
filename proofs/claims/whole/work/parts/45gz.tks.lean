theorem tkS_1 {iv : Nat → Nat} {V N ak : Nat → Bool} {r : Nat} {g : GS} : (tkS iv V N ak r g).2.1 = g.2.1 + 1 := rfl
theorem tkS_2 {iv : Nat → Nat} {V N ak : Nat → Bool} {r : Nat} {g : GS} : (tkS iv V N ak r g).2.2.1 = upN g.2.2.1 g.2.1 r := rfl
theorem tkS_3 {iv : Nat → Nat} {V N ak : Nat → Bool} {r : Nat} {g : GS} : (tkS iv V N ak r g).2.2.2.1 = upN g.2.2.2.1 g.2.1 (cB (tkG iv V N ak g.1 r) 64) := rfl
theorem tkS_4 {iv : Nat → Nat} {V N ak : Nat → Bool} {r : Nat} {g : GS} : (tkS iv V N ak r g).2.2.2.2 = g.2.2.2.2 - nI (cB (tkG iv V N ak g.1 r) 64) := rfl
theorem nx_off {iv : Nat → Nat} {V N ak : Nat → Bool} {on : Bool} {b : Option Nat} {g : GS} (h : on = false) : nxS iv V N ak on b g = g := by rw [h]; rfl
theorem nx_none {iv : Nat → Nat} {V N ak : Nat → Bool} {on : Bool} {g : GS} : nxS iv V N ak on none g = g := by cases on <;> rfl
theorem nx_some {iv : Nat → Nat} {V N ak : Nat → Bool} {on : Bool} {n : Nat} {g : GS} (h : on = true) : nxS iv V N ak on (some n) g = tkS iv V N ak n g := by rw [h]; rfl
theorem rv_00 : rv 0 vl0 = fun _ => 0 := by
  funext j
  exact if_neg (Nat.not_lt_zero j)
theorem bdF_00 : bdF (fun _ => 0) = fun _ => false := by
  funext j
  exact Nat.zero_testBit _
theorem vl0_1 {p : Nat} (h : p < 6) : vl0 p = 1 := if_pos h
def lwG0 : GS := (fun _ _ => false, 0, fun _ => 0, fun _ => 0, nI 0)
def lwT0 : TS := (fun _ => 0, fun _ => 0, fun _ => 0, fun _ => 0, fun _ => 0, 0, 0)
theorem JL_0 {fM fV fN : Nat → Int64} (h0 : RS fM (fun _ => true)) (h1 : RS fV (fun r => vK vl0 (fun _ => 0) (fun _ => true) r 6)) (h2 : RS fN (fun r => nK vl0 (fun _ => 0) (fun _ => true) r 6)) :
    JLp 0 0 0 vl0 (fun _ => 0) fM fV fN 0 0 (fun _ => 0) (fun _ _ => 0) (fun _ _ => false) 0 false lwG0 (fun _ => 0) (fun _ => 0) (fun _ => 0) (fun _ => 0) lwT0 (fun _ => 0) (ia (fun _ => 0)) (fun _ => false) (fun _ => false) false (fun _ => false) (nI 0) := by
  have hM : MMf lwT0 (fun _ => 0) 0 = fun _ => true := rfl
  have a1 : iSp 0 vl0 (fun _ => 0) 0 := ⟨by decide, fun p h => (by rw [vl0_1 h]; decide), fun p _ h => vl0_1 h, fun _ _ => (show (0 : Nat) < 16 by decide), fun _ _ _ => rfl, by decide⟩
  have a2 : iRo vl0 (fun _ => 0) (MMf lwT0 (fun _ => 0) 0) fM fV fN := by rw [hM]; exact ⟨h0, h1, h2⟩
  have a3 : iRe 0 0 0 (fun _ => 0) (fun _ => 0) := ⟨by decide, ⟨bL_0 0, fun n _ h => (by rw [bL_0] at h; cases h), fun n _ => bL_0 n⟩, fun n _ => (bL_0 n).symm, fun _ => (show (0 : Nat) < 64 by decide), fun _ => (show (0 : Nat) < 64 by decide)⟩
  have a4 : iTe lwT0 (fun _ => 0) 0 (fun _ => 0) (fun _ _ => false) 0 := ⟨fun t h => absurd h (Nat.not_lt_zero t), Nat.zero_le _, Nat.le_refl _, fun j h => absurd h (Nat.not_lt_zero j), fun _ => Nat.zero_le _, fun _ => Nat.zero_le _, fun j h => absurd h (Nat.not_lt_zero j), fun j h => absurd h (Nat.not_lt_zero j), fun j h => absurd h (Nat.not_lt_zero j)⟩
  exact ⟨a1, a2, a3, a4, fun j h => absurd h (Nat.not_lt_zero j), Nat.zero_le _, fun _ => (show (0 : Nat) < 2 ^ 31 by decide), Nat.zero_le _, fun h => (by cases h), fun h => (by cases h), Nat.zero_le _, rfl⟩
