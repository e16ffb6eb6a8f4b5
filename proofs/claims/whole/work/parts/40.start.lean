theorem ar_of {args : Array Value} {s : State} {ty : FieldType} (h : (Cond.arrayClass ty).before args s = true) (hra : ∀ c, s.vm.findClass ("[" ++ ty.toString) = some c → va_RA s c ty) : ∃ cA, ArrOfT s cA ty ∧ va_RA s cA ty := by
  obtain ⟨c, k, comp, h1, h2, h3⟩ := Cond.arrayClass_spec h
  exact ⟨c, fun n z => ⟨fun k h => (by cases h), k, h2, comp, h3⟩, hra c h1⟩
theorem ao_of {s : State} (h : va_AO R_NS s) : ∃ cA, ArrOfT s cA (.object R_NS) ∧ va_RA s cA (.object R_NS) := by
  obtain ⟨comp, c, k, h1, _, h3, h4, h5⟩ := Cond.arrayOver_spec h
  exact ⟨c, fun n z => ⟨fun k h => (by cases h), k, h3, comp, h4⟩, k, comp, h3, h4, h1, h5⟩
theorem law_hg {args : Array Value} {s : State} (hts : ∀ w ∈ lw_tbl, w.before args s = true) : ∀ w ∈ gW, w.before args s = true := fun w hw => hts w (gW_good hw).1
theorem law_NW {args : Array Value} {s : State} (hts : ∀ w ∈ lw_tbl, w.before args s = true) : NW s := by
  refine ⟨fun w hw => va_Nw.of (nest_kind w hw) (hts w ?_), va_AO.of (A := args) (hts (.arrayOver (.object R_NS)) (List.mem_append_right _ (List.mem_of_getElem? (i := 115) (by decide +kernel))))⟩
  have h : nestW.all (fun w => decide (w ∈ tables_1)) = true := by decide +kernel
  have h1 := List.all_eq_true.mp h w hw
  exact List.mem_append_right _ (of_decide_eq_true h1)
theorem law_ZERO_IN_WORD {args : Array Value} {s : State} (hts : ∀ w ∈ lw_tbl, w.before args s = true) (hgv : (Jvm.Cond.and given_1 narrow_1).before args s = true) : ∃ t : Nat, va_Z R_CR "ZERO_IN_WORD" "[J" (.ref t) (fun q => s.heap.size ≤ q) s s.heap ∧ va_T .long t 3 (fun j => .long (zw j)) (fun q => s.heap.size ≤ q) s s.heap := by
  have hs := flat_of_before _ hgv
  have hA : ∀ a : Nat, a < s.heap.size → ¬ (fun q => s.heap.size ≤ q) a := fun a h1 h2 => by have h2 : s.heap.size ≤ a := h2; omega
  obtain ⟨t, ht, hT⟩ := va_Tof (args := args) (tm := .static "CombinationRows" "ZERO_IN_WORD" "[J") (ty := .long) (N := 3) (f := fun j => .long (zw j)) (by decide) (hs _ (by decide +kernel)) (va_eqt (z := 3) (hs _ (by decide +kernel))) (fun j hj => by
    rcases (show j = 0 ∨ j = 1 ∨ j = 2 by omega) with rfl | rfl | rfl
    · exact va_eqtl (z := zw 0) (hs _ (by decide +kernel))
    · exact va_eqtl (z := zw 1) (hs _ (by decide +kernel))
    · exact va_eqtl (z := zw 2) (hs _ (by decide +kernel))) hA
  exact ⟨t, va_Zref (args := args) (hts (.laysStatic "CombinationRows" "ZERO_IN_WORD" "[J") (List.mem_append_right _ (List.mem_of_getElem? (i := 62) (by decide +kernel)))) (law_hg hts _ m_1) ht hA, hT⟩
theorem law_SETS_WITH {args : Array Value} {s : State} (hts : ∀ w ∈ lw_tbl, w.before args s = true) (hgv : (Jvm.Cond.and given_1 narrow_1).before args s = true) : ∃ t : Nat, va_Z R_CR "SETS_WITH" "[J" (.ref t) (fun q => s.heap.size ≤ q) s s.heap ∧ va_T .long t 6 (fun j => .long (sw j)) (fun q => s.heap.size ≤ q) s s.heap := by
  have hs := flat_of_before _ hgv
  have hA : ∀ a : Nat, a < s.heap.size → ¬ (fun q => s.heap.size ≤ q) a := fun a h1 h2 => by have h2 : s.heap.size ≤ a := h2; omega
  obtain ⟨t, ht, hT⟩ := va_Tof (args := args) (tm := .static "CombinationRows" "SETS_WITH" "[J") (ty := .long) (N := 6) (f := fun j => .long (sw j)) (by decide) (hs _ (by decide +kernel)) (va_eqt (z := 6) (hs _ (by decide +kernel))) (fun j hj => by
    rcases (show j = 0 ∨ j = 1 ∨ j = 2 ∨ j = 3 ∨ j = 4 ∨ j = 5 by omega) with rfl | rfl | rfl | rfl | rfl | rfl
    · exact va_eqtl (z := sw 0) (hs _ (by decide +kernel))
    · exact va_eqtl (z := sw 1) (hs _ (by decide +kernel))
    · exact va_eqtl (z := sw 2) (hs _ (by decide +kernel))
    · exact va_eqtl (z := sw 3) (hs _ (by decide +kernel))
    · exact va_eqtl (z := sw 4) (hs _ (by decide +kernel))
    · exact va_eqtl (z := sw 5) (hs _ (by decide +kernel))) hA
  exact ⟨t, va_Zref (args := args) (hts (.laysStatic "CombinationRows" "SETS_WITH" "[J") (List.mem_append_right _ (List.mem_of_getElem? (i := 321) (by decide +kernel)))) (law_hg hts _ m_1) ht hA, hT⟩
theorem law_En {args : Array Value} {s : State} (hts : ∀ w ∈ lw_tbl, w.before args s = true) (hgv : (Jvm.Cond.and given_1 narrow_1).before args s = true) : ∃ X : Cx, En X (TY X) (fun q => s.heap.size ≤ q) s s.heap := by
  have hg := law_hg hts
  have hN := law_NW hts
  obtain ⟨c0, i0, k0⟩ := u_known hg in_NS (hg _ m_27)
  obtain ⟨c1, i1, k1⟩ := u_known hg in_Re (hg _ m_95)
  obtain ⟨c2, i2, k2⟩ := u_known hg in_Sp (hg _ m_21)
  obtain ⟨c3, i3, k3⟩ := u_known hg in_Te (hg _ m_109)
  obtain ⟨c4, i4, k4⟩ := u_known hg in_Ge (hg _ m_129)
  obtain ⟨c5, i5, k5⟩ := u_known hg in_CR (hg _ m_13)
  obtain ⟨c6, i6, k6⟩ := u_known hg in_Mo (hg _ m_470)
  obtain ⟨a0, r0⟩ := ar_of (hg _ m_37) (fun _ h => h)
  obtain ⟨a1, r1⟩ := ar_of (hg _ m_38) (fun _ h => h)
  obtain ⟨a2, r2⟩ := ar_of (hg _ m_563) (fun _ h => h)
  obtain ⟨a3, r3⟩ := ar_of (hg _ m_564) (fun _ h => h)
  obtain ⟨a4, r4⟩ := ar_of (hg _ m_565) (fun _ h => h)
  obtain ⟨a5, r5⟩ := ao_of hN.2
  obtain ⟨t1, z1, y1⟩ := law_ZERO_IN_WORD hts hgv
  obtain ⟨t2, z2, y2⟩ := law_SETS_WITH hts hgv
  refine ⟨((fun k => [c0, c1, c2, c3, c4, c5, c6].getD k c0, fun k => [i0, i1, i2, i3, i4, i5, i6].getD k i0), fun k => [a0, a1, a2, a3, a4, a5].getD k a0), ⟨fun c q hq => ?_, fun k q hq => ?_⟩, hN, t1, t2, z1, y1, z2, y2⟩
  · have hc : c < 7 := (List.getElem?_eq_some_iff.mp hq).1
    rcases (show c = 0 ∨ c = 1 ∨ c = 2 ∨ c = 3 ∨ c = 4 ∨ c = 5 ∨ c = 6 by omega) with rfl | rfl | rfl | rfl | rfl | rfl | rfl
    · cases hq; exact k0
    · cases hq; exact k1
    · cases hq; exact k2
    · cases hq; exact k3
    · cases hq; exact k4
    · cases hq; exact k5
    · cases hq; exact k6
  · have hc : k < 6 := (List.getElem?_eq_some_iff.mp hq).1
    rcases (show k = 0 ∨ k = 1 ∨ k = 2 ∨ k = 3 ∨ k = 4 ∨ k = 5 by omega) with rfl | rfl | rfl | rfl | rfl | rfl
    · cases hq; exact r0
    · cases hq; exact r1
    · cases hq; exact r2
    · cases hq; exact r3
    · cases hq; exact r4
    · cases hq; exact r5
