set_option maxHeartbeats 4000000 in
set_option maxRecDepth 100000 in
theorem k_CR_valueOf (l : Launch) (X : Cx) (q n : Nat) (hq : q < 6) (hn : n < 2 ^ 31) : CtI l X (TY X) y_CR_valueOf cw_CR_valueOf ({ frames := 0, cells := 0, slots := 0, locals := 0 } : Room) [.int (nI q), .int (nI n)] [] (S := Unit) (fun r _ => r = nI (dg n q)) (fun _ => []) 0 0 := by
  refine metI (by decide) (Nat.le_of_ble_eq_true rfl) ?_
  intro p e s m below meth c A ls hB hl
  obtain ⟨hx, hb, hr, hml, hown, hlk, hin, hg, hA, hD, hP, hE⟩ := hB
  have hS : va_S A s.heap s.heap [] := va_S.rf
  have hl : lv_has ls 2 [(0, .int (nI q)), (1, .int (nI n))] := hl
  refine lv_iload_n hx hb d_CR_valueOf_0 rfl (lv_at hl 1 rfl) ?_
  refine lv_iconst (v := nI 2) hx hb d_CR_valueOf_1 (by decide) ?_
  refine lv_iload_n hx hb d_CR_valueOf_2 rfl (lv_at hl 0 rfl) ?_
  refine lv_imul hx hb d_CR_valueOf_3 ?_
  refine topI (pk_mul _ _) ?_
  refine lv_ishr hx hb d_CR_valueOf_4 ?_
  refine topI (shrN (by omega) (by omega)) ?_
  refine lv_iconst (v := nI 3) hx hb d_CR_valueOf_5 (by decide) ?_
  refine lv_iand hx hb d_CR_valueOf_6 ?_
  refine topI (nx_and _ _) ?_
  exact retI (u := ()) hx hb hr hlk hP hD hS (by rw [dg_eq]) d_CR_valueOf_7
set_option maxHeartbeats 4000000 in
set_option maxRecDepth 100000 in
theorem k_CR_nextWithin (l : Launch) (X : Cx) (x y : Int32) : CtI l X (TY X) y_CR_nextWithin cw_CR_nextWithin ({ frames := 0, cells := 0, slots := 0, locals := 0 } : Room) [.int x, .int y] [] (S := Unit) (fun r _ => r = (y - x) &&& x) (fun _ => []) 0 0 := by
  refine metI (by decide) (Nat.le_of_ble_eq_true rfl) ?_
  intro p e s m below meth c A ls hB hl
  obtain ⟨hx, hb, hr, hml, hown, hlk, hin, hg, hA, hD, hP, hE⟩ := hB
  have hS : va_S A s.heap s.heap [] := va_S.rf
  have hl : lv_has ls 2 [(0, .int x), (1, .int y)] := hl
  refine lv_iload_n hx hb d_CR_nextWithin_0 rfl (lv_at hl 1 rfl) ?_
  refine lv_iload_n hx hb d_CR_nextWithin_1 rfl (lv_at hl 0 rfl) ?_
  refine lv_isub hx hb d_CR_nextWithin_2 ?_
  refine lv_iload_n hx hb d_CR_nextWithin_3 rfl (lv_at hl 0 rfl) ?_
  refine lv_iand hx hb d_CR_nextWithin_4 ?_
  exact retI (u := ()) hx hb hr hlk hP hD hS (rfl) d_CR_nextWithin_5
set_option maxHeartbeats 4000000 in
set_option maxRecDepth 100000 in
theorem k_CR_fieldsOf (l : Launch) (X : Cx) (n : Nat) (hn : n < 64) : CtI l X (TY X) y_CR_fieldsOf cw_CR_fieldsOf ({ frames := 0, cells := 0, slots := 0, locals := 0 } : Room) [.int (nI n)] [] (S := Unit) (fun r _ => r = nI (fo n 6)) (fun _ => []) 0 0 := by
  refine metI (by decide) (Nat.le_of_ble_eq_true rfl) ?_
  intro p e s m below meth c A ls hB hl
  obtain ⟨hx, hb, hr, hml, hown, hlk, hin, hg, hA, hD, hP, hE⟩ := hB
  have hS : va_S A s.heap s.heap [] := va_S.rf
  have hl : lv_has ls 3 [(0, .int (nI n))] := hl
  refine lv_iconst (v := nI 0) hx hb d_CR_fieldsOf_0 (by decide) ?_
  refine lv_istore_n hx hb d_CR_fieldsOf_1 rfl hl (by decide) rfl (fun ls hl => ?_)
  have hl : lv_has ls 3 [(1, .int (nI 0)), (0, .int (nI n))] := hl
  refine lv_iconst (v := nI 0) hx hb d_CR_fieldsOf_2 (by decide) ?_
  refine lv_istore_n hx hb d_CR_fieldsOf_3 rfl hl (by decide) rfl (fun ls hl => ?_)
  have hl : lv_has ls 3 [(2, .int (nI 0)), (1, .int (nI 0)), (0, .int (nI n))] := hl
  refine wLoop (nL := 3) (σ := (Nat)) (fun i => 6 - i) (fun i => i ≤ 6) (fun i => []) (fun i => [(0, .int (nI n)), (1, .int (nI (fo n i))), (2, .int (nI i))]) ?_ 0 (by omega) hP hD hS (lv_sub hl [2, 1, 0] rfl)
  rintro i H locs ls hJ hP hD hS hl ih4
  have hJ : i ≤ 6 := hJ
  have hP : va_P X.1 classes [] H := hP
  have hD : va_D A [] := hD
  have hl : lv_has ls 3 [(0, .int (nI n)), (1, .int (nI (fo n i))), (2, .int (nI i))] := hl
  refine lv_iload_n hx hb d_CR_fieldsOf_4 rfl (lv_at hl 2 rfl) ?_
  refine lv_bipush (v := nI 6) hx hb d_CR_fieldsOf_5 (by decide) ?_
  refine lv_icmp_ge (tgt := 32) hx hb d_CR_fieldsOf_7 (by decide) (fun hc7 => ?_) (fun hc7 => ?_)
  · rw [nI_leI (by omega) (by omega)] at hc7
    obtain rfl : i = 6 := by omega
    refine lv_iload_n hx hb d_CR_fieldsOf_32 rfl (lv_at hl 1 rfl) ?_
    exact retI (u := ()) hx hb hr hlk hP hD hS (rfl) d_CR_fieldsOf_33
  · rw [nI_leI (by omega) (by omega)] at hc7
    refine lv_iload_n hx hb d_CR_fieldsOf_10 rfl (lv_at hl 0 rfl) ?_
    refine lv_iload_n hx hb d_CR_fieldsOf_11 rfl (lv_at hl 2 rfl) ?_
    refine lv_ishr hx hb d_CR_fieldsOf_12 ?_
    refine topI (shrN (by omega) (by omega)) ?_
    refine lv_iconst (v := nI 1) hx hb d_CR_fieldsOf_13 (by decide) ?_
    refine lv_iand hx hb d_CR_fieldsOf_14 ?_
    refine topI (nx_and _ _) ?_
    refine lv_if_eq (tgt := 26) hx hb d_CR_fieldsOf_15 (by decide) (fun hc15 => ?_) (fun hc15 => ?_)
    · rw [tb_z] at hc15
      have hl : lv_has ls 3 [(0, .int (nI n)), (1, .int (nI (fo n (i + 1)))), (2, .int (nI i))] := by rw [fo_f hc15]; exact hl
      refine lv_iinc (k := 2) (v := nI (i + 1)) hx hb d_CR_fieldsOf_26 hl rfl (nI_1 _) (by decide) rfl (fun ls hl => ?_)
      have hl : lv_has ls 3 [(2, .int (nI (i + 1))), (0, .int (nI n)), (1, .int (nI (fo n (i + 1))))] := hl
      refine lv_goto (tgt := 4) hx hb d_CR_fieldsOf_29 (by decide) ?_
      exact ih4 (i + 1) H locs ls (by (try dsimp only); omega) (by show i + 1 ≤ 6; omega) hP hD hS (lv_sub hl [1, 2, 0] rfl)
    · rw [tb_z] at hc15
      have hc15 := ts_nf hc15
      refine lv_iload_n hx hb d_CR_fieldsOf_18 rfl (lv_at hl 1 rfl) ?_
      refine lv_iconst (v := nI 3) hx hb d_CR_fieldsOf_19 (by decide) ?_
      refine lv_iconst (v := nI 2) hx hb d_CR_fieldsOf_20 (by decide) ?_
      refine lv_iload_n hx hb d_CR_fieldsOf_21 rfl (lv_at hl 2 rfl) ?_
      refine lv_imul hx hb d_CR_fieldsOf_22 ?_
      refine topI (pk_mul _ _) ?_
      refine lv_ishl hx hb d_CR_fieldsOf_23 ?_
      refine topI (shlN (by omega) (p3 (by omega))) ?_
      refine lv_ior hx hb d_CR_fieldsOf_24 ?_
      refine topI (y := nI (fo n (i + 1))) (by rw [nx_or, fo_t hc15]) ?_
      refine lv_istore_n hx hb d_CR_fieldsOf_25 rfl hl (by decide) rfl (fun ls hl => ?_)
      have hl : lv_has ls 3 [(1, .int (nI (fo n (i + 1)))), (0, .int (nI n)), (2, .int (nI i))] := hl
      refine lv_iinc (k := 2) (v := nI (i + 1)) hx hb d_CR_fieldsOf_26 hl rfl (nI_1 _) (by decide) rfl (fun ls hl => ?_)
      have hl : lv_has ls 3 [(2, .int (nI (i + 1))), (1, .int (nI (fo n (i + 1)))), (0, .int (nI n))] := hl
      refine lv_goto (tgt := 4) hx hb d_CR_fieldsOf_29 (by decide) ?_
      exact ih4 (i + 1) H locs ls (by (try dsimp only); omega) (by show i + 1 ≤ 6; omega) hP hD hS (lv_sub hl [2, 1, 0] rfl)
set_option maxHeartbeats 4000000 in
set_option maxRecDepth 100000 in
theorem k_JI_bitCount (l : Launch) (X : Cx) (x : Int32) : CtI l X (TY X) y_JI_bitCount cw_JI_bitCount ({ frames := 0, cells := 0, slots := 0, locals := 0 } : Room) [.int x] [] (S := Unit) (fun r _ => r = bcI x) (fun _ => []) 0 0 := by
  refine metI (by decide) (Nat.le_of_ble_eq_true rfl) ?_
  intro p e s m below meth c A ls hB hl
  obtain ⟨hx, hb, hr, hml, hown, hlk, hin, hg, hA, hD, hP, hE⟩ := hB
  have hS : va_S A s.heap s.heap [] := va_S.rf
  have hl : lv_has ls 1 [(0, .int x)] := hl
  refine lv_iload_n hx hb d_JI_bitCount_0 rfl (lv_at hl 0 rfl) ?_
  refine lv_iload_n hx hb d_JI_bitCount_1 rfl (lv_at hl 0 rfl) ?_
  refine lv_iconst (v := nI 1) hx hb d_JI_bitCount_2 (by decide) ?_
  refine lv_iushr hx hb d_JI_bitCount_3 rfl ?_
  refine lv_ldcw hx hb hown (hg _ m_221) d_JI_bitCount_4 ?_
  refine lv_iand hx hb d_JI_bitCount_7 ?_
  refine lv_isub hx hb d_JI_bitCount_8 ?_
  refine lv_topi (fun a1 e_a1 => ?_)
  refine lv_istore_n hx hb d_JI_bitCount_9 rfl hl (by decide) rfl (fun ls hl => ?_)
  have hl : lv_has ls 1 [(0, .int a1)] := hl
  refine lv_iload_n hx hb d_JI_bitCount_10 rfl (lv_at hl 0 rfl) ?_
  refine lv_ldcw hx hb hown (hg _ m_222) d_JI_bitCount_11 ?_
  refine lv_iand hx hb d_JI_bitCount_14 ?_
  refine lv_iload_n hx hb d_JI_bitCount_15 rfl (lv_at hl 0 rfl) ?_
  refine lv_iconst (v := nI 2) hx hb d_JI_bitCount_16 (by decide) ?_
  refine lv_iushr hx hb d_JI_bitCount_17 rfl ?_
  refine lv_ldcw hx hb hown (hg _ m_222) d_JI_bitCount_18 ?_
  refine lv_iand hx hb d_JI_bitCount_21 ?_
  refine lv_iadd hx hb d_JI_bitCount_22 ?_
  refine lv_topi (fun a2 e_a2 => ?_)
  refine lv_istore_n hx hb d_JI_bitCount_23 rfl hl (by decide) rfl (fun ls hl => ?_)
  have hl : lv_has ls 1 [(0, .int a2)] := hl
  refine lv_iload_n hx hb d_JI_bitCount_24 rfl (lv_at hl 0 rfl) ?_
  refine lv_iload_n hx hb d_JI_bitCount_25 rfl (lv_at hl 0 rfl) ?_
  refine lv_iconst (v := nI 4) hx hb d_JI_bitCount_26 (by decide) ?_
  refine lv_iushr hx hb d_JI_bitCount_27 rfl ?_
  refine lv_iadd hx hb d_JI_bitCount_28 ?_
  refine lv_ldcw hx hb hown (hg _ m_223) d_JI_bitCount_29 ?_
  refine lv_iand hx hb d_JI_bitCount_32 ?_
  refine lv_topi (fun a3 e_a3 => ?_)
  refine lv_istore_n hx hb d_JI_bitCount_33 rfl hl (by decide) rfl (fun ls hl => ?_)
  have hl : lv_has ls 1 [(0, .int a3)] := hl
  refine lv_iload_n hx hb d_JI_bitCount_34 rfl (lv_at hl 0 rfl) ?_
  refine lv_iload_n hx hb d_JI_bitCount_35 rfl (lv_at hl 0 rfl) ?_
  refine lv_bipush (v := nI 8) hx hb d_JI_bitCount_36 (by decide) ?_
  refine lv_iushr hx hb d_JI_bitCount_38 rfl ?_
  refine lv_iadd hx hb d_JI_bitCount_39 ?_
  refine lv_topi (fun a4 e_a4 => ?_)
  refine lv_istore_n hx hb d_JI_bitCount_40 rfl hl (by decide) rfl (fun ls hl => ?_)
  have hl : lv_has ls 1 [(0, .int a4)] := hl
  refine lv_iload_n hx hb d_JI_bitCount_41 rfl (lv_at hl 0 rfl) ?_
  refine lv_iload_n hx hb d_JI_bitCount_42 rfl (lv_at hl 0 rfl) ?_
  refine lv_bipush (v := nI 16) hx hb d_JI_bitCount_43 (by decide) ?_
  refine lv_iushr hx hb d_JI_bitCount_45 rfl ?_
  refine lv_iadd hx hb d_JI_bitCount_46 ?_
  refine lv_topi (fun a5 e_a5 => ?_)
  refine lv_istore_n hx hb d_JI_bitCount_47 rfl hl (by decide) rfl (fun ls hl => ?_)
  have hl : lv_has ls 1 [(0, .int a5)] := hl
  refine lv_iload_n hx hb d_JI_bitCount_48 rfl (lv_at hl 0 rfl) ?_
  refine lv_bipush (v := nI 63) hx hb d_JI_bitCount_49 (by decide) ?_
  refine lv_iand hx hb d_JI_bitCount_51 ?_
  exact retI (u := ()) hx hb hr hlk hP hD hS (by subst e_a5 e_a4 e_a3 e_a2 e_a1; rfl) d_JI_bitCount_52
set_option maxHeartbeats 4000000 in
set_option maxRecDepth 100000 in
theorem k_JL_bitCount (l : Launch) (X : Cx) (x : Int64) : CtI l X (TY X) y_JL_bitCount cw_JL_bitCount ({ frames := 0, cells := 0, slots := 0, locals := 0 } : Room) [.long x] [] (S := Unit) (fun r _ => r = bcL x) (fun _ => []) 0 0 := by
  refine metI (by decide) (Nat.le_of_ble_eq_true rfl) ?_
  intro p e s m below meth c A ls hB hl
  obtain ⟨hx, hb, hr, hml, hown, hlk, hin, hg, hA, hD, hP, hE⟩ := hB
  have hS : va_S A s.heap s.heap [] := va_S.rf
  have hl : lv_has ls 2 [(0, .long x)] := hl
  refine lv_lload_n hx hb d_JL_bitCount_0 rfl (lv_at hl 0 rfl) ?_
  refine lv_lload_n hx hb d_JL_bitCount_1 rfl (lv_at hl 0 rfl) ?_
  refine lv_iconst (v := nI 1) hx hb d_JL_bitCount_2 (by decide) ?_
  refine lv_lushr hx hb d_JL_bitCount_3 rfl ?_
  refine lv_ldc2 hx hb hown (hg _ m_367) d_JL_bitCount_4 ?_
  refine lv_land hx hb d_JL_bitCount_7 ?_
  refine lv_lsub hx hb d_JL_bitCount_8 ?_
  refine lv_topl (fun a1 e_a1 => ?_)
  refine lv_lstore_n hx hb d_JL_bitCount_9 rfl hl (by decide) rfl (fun ls hl => ?_)
  have hl : lv_has ls 2 [(0, .long a1)] := hl
  refine lv_lload_n hx hb d_JL_bitCount_10 rfl (lv_at hl 0 rfl) ?_
  refine lv_ldc2 hx hb hown (hg _ m_368) d_JL_bitCount_11 ?_
  refine lv_land hx hb d_JL_bitCount_14 ?_
  refine lv_lload_n hx hb d_JL_bitCount_15 rfl (lv_at hl 0 rfl) ?_
  refine lv_iconst (v := nI 2) hx hb d_JL_bitCount_16 (by decide) ?_
  refine lv_lushr hx hb d_JL_bitCount_17 rfl ?_
  refine lv_ldc2 hx hb hown (hg _ m_368) d_JL_bitCount_18 ?_
  refine lv_land hx hb d_JL_bitCount_21 ?_
  refine lv_ladd hx hb d_JL_bitCount_22 ?_
  refine lv_topl (fun a2 e_a2 => ?_)
  refine lv_lstore_n hx hb d_JL_bitCount_23 rfl hl (by decide) rfl (fun ls hl => ?_)
  have hl : lv_has ls 2 [(0, .long a2)] := hl
  refine lv_lload_n hx hb d_JL_bitCount_24 rfl (lv_at hl 0 rfl) ?_
  refine lv_lload_n hx hb d_JL_bitCount_25 rfl (lv_at hl 0 rfl) ?_
  refine lv_iconst (v := nI 4) hx hb d_JL_bitCount_26 (by decide) ?_
  refine lv_lushr hx hb d_JL_bitCount_27 rfl ?_
  refine lv_ladd hx hb d_JL_bitCount_28 ?_
  refine lv_ldc2 hx hb hown (hg _ m_369) d_JL_bitCount_29 ?_
  refine lv_land hx hb d_JL_bitCount_32 ?_
  refine lv_topl (fun a3 e_a3 => ?_)
  refine lv_lstore_n hx hb d_JL_bitCount_33 rfl hl (by decide) rfl (fun ls hl => ?_)
  have hl : lv_has ls 2 [(0, .long a3)] := hl
  refine lv_lload_n hx hb d_JL_bitCount_34 rfl (lv_at hl 0 rfl) ?_
  refine lv_lload_n hx hb d_JL_bitCount_35 rfl (lv_at hl 0 rfl) ?_
  refine lv_bipush (v := nI 8) hx hb d_JL_bitCount_36 (by decide) ?_
  refine lv_lushr hx hb d_JL_bitCount_38 rfl ?_
  refine lv_ladd hx hb d_JL_bitCount_39 ?_
  refine lv_topl (fun a4 e_a4 => ?_)
  refine lv_lstore_n hx hb d_JL_bitCount_40 rfl hl (by decide) rfl (fun ls hl => ?_)
  have hl : lv_has ls 2 [(0, .long a4)] := hl
  refine lv_lload_n hx hb d_JL_bitCount_41 rfl (lv_at hl 0 rfl) ?_
  refine lv_lload_n hx hb d_JL_bitCount_42 rfl (lv_at hl 0 rfl) ?_
  refine lv_bipush (v := nI 16) hx hb d_JL_bitCount_43 (by decide) ?_
  refine lv_lushr hx hb d_JL_bitCount_45 rfl ?_
  refine lv_ladd hx hb d_JL_bitCount_46 ?_
  refine lv_topl (fun a5 e_a5 => ?_)
  refine lv_lstore_n hx hb d_JL_bitCount_47 rfl hl (by decide) rfl (fun ls hl => ?_)
  have hl : lv_has ls 2 [(0, .long a5)] := hl
  refine lv_lload_n hx hb d_JL_bitCount_48 rfl (lv_at hl 0 rfl) ?_
  refine lv_lload_n hx hb d_JL_bitCount_49 rfl (lv_at hl 0 rfl) ?_
  refine lv_bipush (v := nI 32) hx hb d_JL_bitCount_50 (by decide) ?_
  refine lv_lushr hx hb d_JL_bitCount_52 rfl ?_
  refine lv_ladd hx hb d_JL_bitCount_53 ?_
  refine lv_topl (fun a6 e_a6 => ?_)
  refine lv_lstore_n hx hb d_JL_bitCount_54 rfl hl (by decide) rfl (fun ls hl => ?_)
  have hl : lv_has ls 2 [(0, .long a6)] := hl
  refine lv_lload_n hx hb d_JL_bitCount_55 rfl (lv_at hl 0 rfl) ?_
  refine lv_l2i hx hb d_JL_bitCount_56 rfl ?_
  refine lv_bipush (v := nI 127) hx hb d_JL_bitCount_57 (by decide) ?_
  refine lv_iand hx hb d_JL_bitCount_59 ?_
  exact retI (u := ()) hx hb hr hlk hP hD hS (by subst e_a6 e_a5 e_a4 e_a3 e_a2 e_a1; rfl) d_JL_bitCount_60
set_option maxHeartbeats 4000000 in
set_option maxRecDepth 100000 in
theorem k_JA_fillL (l : Launch) (X : Cx) (ha n : Nat) (hn : n < 2 ^ 31) (f : Nat → Int64) (v : Int64) : CtV l X (TY X) y_JA_fillL cw_JA_fillL ({ frames := 0, cells := 0, slots := 0, locals := 0 } : Room) [.ref ha, .long v] [(ha, .inl (X.2 1, n, .inr (.inl f)))] (S := Nat → Int64) (fun g => ∀ j, j < n → g j = v) (fun g => [(ha, .inl (X.2 1, n, .inr (.inl g)))]) 0 0 := by
  refine metV (by decide) (Nat.le_of_ble_eq_true rfl) ?_
  intro p e s m below meth c A ls hB hl
  obtain ⟨hx, hb, hr, hml, hown, hlk, hin, hg, hA, hD, hP, hE⟩ := hB
  have hS : va_S A s.heap s.heap [] := va_S.rf
  have hl : lv_has ls 5 [(0, .ref ha), (1, .long v)] := hl
  refine lv_iconst (v := nI 0) hx hb d_JA_fillL_0 (by decide) ?_
  refine lv_istore_n hx hb d_JA_fillL_1 rfl hl (by decide) rfl (fun ls hl => ?_)
  have hl : lv_has ls 5 [(3, .int (nI 0)), (0, .ref ha), (1, .long v)] := hl
  refine lv_aload_n hx hb d_JA_fillL_2 rfl (lv_at hl 1 rfl) ?_
  refine va_alen (v := nI n) hx hb hE.1 hP 0 1 rfl rfl rfl d_JA_fillL_3 ?_
  refine lv_istore hx hb d_JA_fillL_4 hl (by decide) rfl (fun ls hl => ?_)
  have hl : lv_has ls 5 [(4, .int (nI n)), (3, .int (nI 0)), (0, .ref ha), (1, .long v)] := hl
  refine wLoop (nL := 5) (σ := (Nat) × (Nat → Int64)) (fun x9 => (fun (i : Nat) (g : Nat → Int64) => n - i) x9.1 x9.2) (fun x9 => (fun (i : Nat) (g : Nat → Int64) => i ≤ n ∧ ∀ j, j < i → g j = v) x9.1 x9.2) (fun x9 => (fun (i : Nat) (g : Nat → Int64) => [(ha, .inl (X.2 1, n, .inr (.inl g)))]) x9.1 x9.2) (fun x9 => (fun (i : Nat) (g : Nat → Int64) => [(0, .ref ha), (1, .long v), (3, .int (nI i)), (4, .int (nI n))]) x9.1 x9.2) ?_ (0, f) (⟨by omega, fun j h => absurd h (by omega)⟩) hP hD hS (lv_sub hl [2, 3, 1, 0] rfl)
  rintro ⟨i, g⟩ H locs ls hJ hP hD hS hl ih6
  have hJ : i ≤ n ∧ ∀ j, j < i → g j = v := hJ
  obtain ⟨hi, hJ⟩ := hJ
  have hP : va_P X.1 classes [(ha, .inl (X.2 1, n, .inr (.inl g)))] H := hP
  have hD : va_D A [(ha, .inl (X.2 1, n, .inr (.inl g)))] := hD
  have hl : lv_has ls 5 [(0, .ref ha), (1, .long v), (3, .int (nI i)), (4, .int (nI n))] := hl
  refine lv_iload_n hx hb d_JA_fillL_6 rfl (lv_at hl 2 rfl) ?_
  refine lv_iload hx hb d_JA_fillL_7 (lv_at hl 3 rfl) ?_
  refine lv_icmp_ge (tgt := 22) hx hb d_JA_fillL_9 (by decide) (fun hc9 => ?_) (fun hc9 => ?_)
  · rw [nI_leI (by omega) (by omega)] at hc9
    exact retV (u := g) hx hb hr hlk hP hD hS (fun j h => hJ j (by omega)) d_JA_fillL_22
  · rw [nI_leI (by omega) (by omega)] at hc9
    refine lv_aload_n hx hb d_JA_fillL_12 rfl (lv_at hl 0 rfl) ?_
    refine lv_iload_n hx hb d_JA_fillL_13 rfl (lv_at hl 2 rfl) ?_
    refine lv_lload_n hx hb d_JA_fillL_14 rfl (lv_at hl 1 rfl) ?_
    refine va_last hx hb hE.1 hP hD hS 0 1 rfl rfl (vp_in_nI (by omega) (by omega)) d_JA_fillL_15 (fun H locs hP hD hS => ?_)
    have hP : va_P X.1 classes [(ha, .inl (X.2 1, n, .inr (.inl (vp_updL g (nI i).toNatClampNeg v))))] H := hP
    have hD : va_D A [(ha, .inl (X.2 1, n, .inr (.inl (vp_updL g (nI i).toNatClampNeg v))))] := hD
    rw [nI_clamp (show i < 2 ^ 31 by omega)] at hP hD
    generalize hg2 : vp_updL g i v = g2 at hP hD
    refine lv_iinc (k := 2) (v := nI (i + 1)) hx hb d_JA_fillL_16 hl rfl (nI_1 _) (by decide) rfl (fun ls hl => ?_)
    have hl : lv_has ls 5 [(3, .int (nI (i + 1))), (0, .ref ha), (1, .long v), (4, .int (nI n))] := hl
    refine lv_goto (tgt := 6) hx hb d_JA_fillL_19 (by decide) ?_
    exact ih6 (i + 1, g2) H locs ls (by (try dsimp only); omega) (⟨by (try dsimp only); omega, fillK hJ hg2⟩) hP hD hS (lv_sub hl [1, 2, 0, 3] rfl)
set_option maxHeartbeats 4000000 in
set_option maxRecDepth 100000 in
theorem k_JA_fillI (l : Launch) (X : Cx) (ha n : Nat) (hn : n < 2 ^ 31) (f : Nat → Int32) (v : Int32) : CtV l X (TY X) y_JA_fillI cw_JA_fillI ({ frames := 0, cells := 0, slots := 0, locals := 0 } : Room) [.ref ha, .int v] [(ha, .inl (X.2 0, n, .inl f))] (S := Unit) (fun _ => True) (fun _ => [(ha, .inl (X.2 0, n, .inl (flI f n v)))]) 0 0 := by
  refine metV (by decide) (Nat.le_of_ble_eq_true rfl) ?_
  intro p e s m below meth c A ls hB hl
  obtain ⟨hx, hb, hr, hml, hown, hlk, hin, hg, hA, hD, hP, hE⟩ := hB
  have hS : va_S A s.heap s.heap [] := va_S.rf
  have hl : lv_has ls 4 [(0, .ref ha), (1, .int v)] := hl
  refine lv_iconst (v := nI 0) hx hb d_JA_fillI_0 (by decide) ?_
  refine lv_istore_n hx hb d_JA_fillI_1 rfl hl (by decide) rfl (fun ls hl => ?_)
  have hl : lv_has ls 4 [(2, .int (nI 0)), (0, .ref ha), (1, .int v)] := hl
  refine lv_aload_n hx hb d_JA_fillI_2 rfl (lv_at hl 1 rfl) ?_
  refine va_alen (v := nI n) hx hb hE.1 hP 0 0 rfl rfl rfl d_JA_fillI_3 ?_
  refine lv_istore_n hx hb d_JA_fillI_4 rfl hl (by decide) rfl (fun ls hl => ?_)
  have hl : lv_has ls 4 [(3, .int (nI n)), (2, .int (nI 0)), (0, .ref ha), (1, .int v)] := hl
  rw [show f = flI f 0 v from (fl_0 f v).symm] at hP hD
  refine wLoop (nL := 4) (σ := (Nat)) (fun i => n - i) (fun i => i ≤ n) (fun i => [(ha, .inl (X.2 0, n, .inl (flI f i v)))]) (fun i => [(0, .ref ha), (1, .int v), (2, .int (nI i)), (3, .int (nI n))]) ?_ 0 (Nat.zero_le _) hP hD hS (lv_sub hl [2, 3, 1, 0] rfl)
  rintro i H locs ls hJ hP hD hS hl ih5
  have hJ : i ≤ n := hJ
  have hP : va_P X.1 classes [(ha, .inl (X.2 0, n, .inl (flI f i v)))] H := hP
  have hD : va_D A [(ha, .inl (X.2 0, n, .inl (flI f i v)))] := hD
  have hl : lv_has ls 4 [(0, .ref ha), (1, .int v), (2, .int (nI i)), (3, .int (nI n))] := hl
  refine lv_iload_n hx hb d_JA_fillI_5 rfl (lv_at hl 2 rfl) ?_
  refine lv_iload_n hx hb d_JA_fillI_6 rfl (lv_at hl 3 rfl) ?_
  refine lv_icmp_ge (tgt := 20) hx hb d_JA_fillI_7 (by decide) (fun hc7 => ?_) (fun hc7 => ?_)
  · rw [nI_leI (by omega) (by omega)] at hc7
    obtain rfl : i = n := by omega
    exact retV (u := ()) hx hb hr hlk hP hD hS (trivial) d_JA_fillI_20
  · rw [nI_leI (by omega) (by omega)] at hc7
    refine lv_aload_n hx hb d_JA_fillI_10 rfl (lv_at hl 0 rfl) ?_
    refine lv_iload_n hx hb d_JA_fillI_11 rfl (lv_at hl 2 rfl) ?_
    refine lv_iload_n hx hb d_JA_fillI_12 rfl (lv_at hl 1 rfl) ?_
    refine va_iast hx hb hE.1 hP hD hS 0 0 rfl rfl (vp_in_nI (by omega) (by omega)) d_JA_fillI_13 (fun H locs hP hD hS => ?_)
    have hP : va_P X.1 classes [(ha, .inl (X.2 0, n, .inl (upd (flI f i v) (nI i).toNatClampNeg v)))] H := hP
    have hD : va_D A [(ha, .inl (X.2 0, n, .inl (upd (flI f i v) (nI i).toNatClampNeg v)))] := hD
    rw [nI_clamp (show i < 2 ^ 31 by omega)] at hP hD
    have e9 : upd (flI f i v) i v = flI f (i + 1) v := fl_s f v i
    rw [e9] at hP hD
    clear e9
    refine lv_iinc (k := 2) (v := nI (i + 1)) hx hb d_JA_fillI_14 hl rfl (nI_1 _) (by decide) rfl (fun ls hl => ?_)
    have hl : lv_has ls 4 [(2, .int (nI (i + 1))), (0, .ref ha), (1, .int v), (3, .int (nI n))] := hl
    refine lv_goto (tgt := 5) hx hb d_JA_fillI_17 (by decide) ?_
    exact ih5 (i + 1) H locs ls (by (try dsimp only); omega) (by (try dsimp only); omega) hP hD hS (lv_sub hl [1, 2, 0, 3] rfl)
set_option maxHeartbeats 4000000 in
set_option maxRecDepth 100000 in
theorem k_NS_has (l : Launch) (X : Cx) (h0 hw : Nat) (f : Nat → Int64) (S : Nat → Bool) (hf : RS f S) (n : Nat) (hn : n < 4096) : CtI l X (TY X) y_NS_has cw_NS_has ({ frames := 0, cells := 0, slots := 0, locals := 0 } : Room) [.ref h0, .int (nI n)] [(h0, .inr (0, [.ref hw])), (hw, .inl (X.2 1, 64, .inr (.inl f)))] (S := Unit) (fun r _ => r = bI (S n)) (fun _ => [(h0, .inr (0, [.ref hw])), (hw, .inl (X.2 1, 64, .inr (.inl f)))]) 0 0 := by
  refine metI (by decide) (Nat.le_of_ble_eq_true rfl) ?_
  intro p e s m below meth c A ls hB hl
  obtain ⟨hx, hb, hr, hml, hown, hlk, hin, hg, hA, hD, hP, hE⟩ := hB
  have hS : va_S A s.heap s.heap [] := va_S.rf
  have hl : lv_has ls 2 [(0, .ref h0), (1, .int (nI n))] := hl
  refine lv_iload_n hx hb d_NS_has_0 rfl (lv_at hl 1 rfl) ?_
  refine lv_if_lt (tgt := 36) hx hb d_NS_has_1 (by decide) (fun hc1 => ?_) (fun hc1 => ?_)
  · exfalso; rw [n_lt0 (by omega)] at hc1; omega
  · rw [n_lt0 (by omega)] at hc1
    refine lv_iload_n hx hb d_NS_has_4 rfl (lv_at hl 1 rfl) ?_
    refine lv_sipush (v := nI 4096) hx hb d_NS_has_5 (by decide) ?_
    refine lv_icmp_ge (tgt := 36) hx hb d_NS_has_8 (by decide) (fun hc8 => ?_) (fun hc8 => ?_)
    · exfalso; rw [nI_leI (by omega) (by omega)] at hc8; omega
    · rw [nI_leI (by omega) (by omega)] at hc8
      refine lv_aload_n hx hb d_NS_has_11 rfl (lv_at hl 0 rfl) ?_
      refine va_get (D := X.1) (ci := 0) (v := .ref hw) (C := R_NS) (T := F_NS) (N := 1) hx hb hg in_NS hown hE.1 hP 0 rfl rfl 0 (by decide) (hg _ m_32) (fun _ h9 => h9) rfl d_NS_has_12 ?_
      refine lv_iload_n hx hb d_NS_has_15 rfl (lv_at hl 1 rfl) ?_
      refine lv_bipush (v := nI 6) hx hb d_NS_has_16 (by decide) ?_
      refine lv_ishr hx hb d_NS_has_18 ?_
      refine topI (shrN (by omega) (by omega)) ?_
      refine va_lald hx hb hE.1 hP 1 1 rfl rfl (vp_in_nI (by omega) (by decide)) d_NS_has_19 ?_
      refine topL (y := f (n / 2 ^ 6)) (by rw [nI_clamp (by omega)]) ?_
      refine lv_iload_n hx hb d_NS_has_20 rfl (lv_at hl 1 rfl) ?_
      refine lv_bipush (v := nI 63) hx hb d_NS_has_21 (by decide) ?_
      refine lv_iand hx hb d_NS_has_23 ?_
      refine topI (y := nI (n % 64)) (pk_andN (by omega) 6 (by decide)) ?_
      refine lv_lushr hx hb d_NS_has_24 rfl ?_
      refine lv_lconst (v := 1) hx hb d_NS_has_25 (by decide) ?_
      refine lv_land hx hb d_NS_has_26 ?_
      refine lv_lconst (v := 0) hx hb d_NS_has_27 (by decide) ?_
      refine W.lcmp hx hb d_NS_has_28 ?_
      refine lv_if_eq (tgt := 36) hx hb d_NS_has_29 (by decide) (fun hc29 => ?_) (fun hc29 => ?_)
      · rw [lcz] at hc29
        rw [bit_at _ (by omega)] at hc29
        have hv : S n = false := by rw [← hf.at hn]; exact hc29
        refine lv_iconst (v := nI 0) hx hb d_NS_has_36 (by decide) ?_
        exact retZ (u := ()) hx hb hr hlk (by decide) hP hD hS (by rw [hv]; rfl) d_NS_has_37
      · rw [lcz] at hc29
        rw [bit_at _ (by omega)] at hc29
        have hv : S n = true := by rw [← hf.at hn]; exact ts_nf hc29
        refine lv_iconst (v := nI 1) hx hb d_NS_has_32 (by decide) ?_
        refine lv_goto (tgt := 37) hx hb d_NS_has_33 (by decide) ?_
        exact retZ (u := ()) hx hb hr hlk (by decide) hP hD hS (by rw [hv]; rfl) d_NS_has_37
set_option maxHeartbeats 4000000 in
set_option maxRecDepth 100000 in
theorem k_NS_becomeAnd (l : Launch) (X : Cx) (h0 hw k0 kw : Nat) (f g : Nat → Int64) (S T : Nat → Bool) (hf : RS f S) (hgT : RS g T) : CtV l X (TY X) y_NS_becomeAnd cw_NS_becomeAnd ({ frames := 0, cells := 0, slots := 0, locals := 0 } : Room) [.ref h0, .ref k0] [(h0, .inr (0, [.ref hw])), (hw, .inl (X.2 1, 64, .inr (.inl f))), (k0, .inr (0, [.ref kw])), (kw, .inl (X.2 1, 64, .inr (.inl g)))] (S := Nat → Int64) (fun d => RS d (fun r => S r && T r)) (fun d => [(h0, .inr (0, [.ref hw])), (hw, .inl (X.2 1, 64, .inr (.inl d))), (k0, .inr (0, [.ref kw])), (kw, .inl (X.2 1, 64, .inr (.inl g)))]) 0 0 := by
  refine metV (by decide) (Nat.le_of_ble_eq_true rfl) ?_
  intro p e s m below meth c A ls hB hl
  obtain ⟨hx, hb, hr, hml, hown, hlk, hin, hg, hA, hD, hP, hE⟩ := hB
  have hS : va_S A s.heap s.heap [] := va_S.rf
  have hl : lv_has ls 3 [(0, .ref h0), (1, .ref k0)] := hl
  refine lv_iconst (v := nI 0) hx hb d_NS_becomeAnd_0 (by decide) ?_
  refine lv_istore_n hx hb d_NS_becomeAnd_1 rfl hl (by decide) rfl (fun ls hl => ?_)
  have hl : lv_has ls 3 [(2, .int (nI 0)), (0, .ref h0), (1, .ref k0)] := hl
  refine wLoop (nL := 3) (σ := (Nat) × (Nat → Int64)) (fun x9 => (fun (i : Nat) (d : Nat → Int64) => 64 - i) x9.1 x9.2) (fun x9 => (fun (i : Nat) (d : Nat → Int64) => i ≤ 64 ∧ ∀ w, w < 64 → d w = if w < i then f w &&& g w else f w) x9.1 x9.2) (fun x9 => (fun (i : Nat) (d : Nat → Int64) => [(h0, .inr (0, [.ref hw])), (hw, .inl (X.2 1, 64, .inr (.inl d))), (k0, .inr (0, [.ref kw])), (kw, .inl (X.2 1, 64, .inr (.inl g)))]) x9.1 x9.2) (fun x9 => (fun (i : Nat) (d : Nat → Int64) => [(0, .ref h0), (1, .ref k0), (2, .int (nI i))]) x9.1 x9.2) ?_ (0, f) (⟨by omega, fun w _ => by rw [if_neg (by omega)]⟩) hP hD hS (lv_sub hl [1, 2, 0] rfl)
  rintro ⟨i, d⟩ H locs ls hJ hP hD hS hl ih2
  have hJ : i ≤ 64 ∧ ∀ w, w < 64 → d w = if w < i then f w &&& g w else f w := hJ
  obtain ⟨hi, hd⟩ := hJ
  have hP : va_P X.1 classes [(h0, .inr (0, [.ref hw])), (hw, .inl (X.2 1, 64, .inr (.inl d))), (k0, .inr (0, [.ref kw])), (kw, .inl (X.2 1, 64, .inr (.inl g)))] H := hP
  have hD : va_D A [(h0, .inr (0, [.ref hw])), (hw, .inl (X.2 1, 64, .inr (.inl d))), (k0, .inr (0, [.ref kw])), (kw, .inl (X.2 1, 64, .inr (.inl g)))] := hD
  have hl : lv_has ls 3 [(0, .ref h0), (1, .ref k0), (2, .int (nI i))] := hl
  refine lv_iload_n hx hb d_NS_becomeAnd_2 rfl (lv_at hl 2 rfl) ?_
  refine lv_bipush (v := nI 64) hx hb d_NS_becomeAnd_3 (by decide) ?_
  refine lv_icmp_ge (tgt := 29) hx hb d_NS_becomeAnd_5 (by decide) (fun hc5 => ?_) (fun hc5 => ?_)
  · rw [nI_leI (by omega) (by omega)] at hc5
    exact retV (u := d) hx hb hr hlk hP hD hS (andDone hf hgT hd (by omega)) d_NS_becomeAnd_29
  · rw [nI_leI (by omega) (by omega)] at hc5
    refine lv_aload_n hx hb d_NS_becomeAnd_8 rfl (lv_at hl 0 rfl) ?_
    refine va_get (D := X.1) (ci := 0) (v := .ref hw) (C := R_NS) (T := F_NS) (N := 1) hx hb hg in_NS hown hE.1 hP 0 rfl rfl 0 (by decide) (hg _ m_32) (fun _ h9 => h9) rfl d_NS_becomeAnd_9 ?_
    refine lv_iload_n hx hb d_NS_becomeAnd_12 rfl (lv_at hl 2 rfl) ?_
    refine lv_dup2_11 hx hb d_NS_becomeAnd_13 rfl rfl ?_
    refine va_lald hx hb hE.1 hP 1 1 rfl rfl (vp_in_nI (by omega) (by decide)) d_NS_becomeAnd_14 ?_
    refine topL (y := d i) (by rw [nI_clamp (by omega)]) ?_
    refine lv_aload_n hx hb d_NS_becomeAnd_15 rfl (lv_at hl 1 rfl) ?_
    refine va_get (D := X.1) (ci := 0) (v := .ref kw) (C := R_NS) (T := F_NS) (N := 1) hx hb hg in_NS hown hE.1 hP 2 rfl rfl 0 (by decide) (hg _ m_32) (fun _ h9 => h9) rfl d_NS_becomeAnd_16 ?_
    refine lv_iload_n hx hb d_NS_becomeAnd_19 rfl (lv_at hl 2 rfl) ?_
    refine va_lald hx hb hE.1 hP 3 1 rfl rfl (vp_in_nI (by omega) (by decide)) d_NS_becomeAnd_20 ?_
    refine topL (y := g i) (by rw [nI_clamp (by omega)]) ?_
    refine lv_land hx hb d_NS_becomeAnd_21 ?_
    refine va_last hx hb hE.1 hP hD hS 1 1 rfl rfl (vp_in_nI (by omega) (by decide)) d_NS_becomeAnd_22 (fun H locs hP hD hS => ?_)
    have hP : va_P X.1 classes [(h0, .inr (0, [.ref hw])), (hw, .inl (X.2 1, 64, .inr (.inl (vp_updL d (nI i).toNatClampNeg ((d i) &&& (g i)))))), (k0, .inr (0, [.ref kw])), (kw, .inl (X.2 1, 64, .inr (.inl g)))] H := hP
    have hD : va_D A [(h0, .inr (0, [.ref hw])), (hw, .inl (X.2 1, 64, .inr (.inl (vp_updL d (nI i).toNatClampNeg ((d i) &&& (g i)))))), (k0, .inr (0, [.ref kw])), (kw, .inl (X.2 1, 64, .inr (.inl g)))] := hD
    rw [nI_clamp (show i < 2 ^ 31 by omega)] at hP hD
    generalize hd2 : vp_updL d i ((d i) &&& (g i)) = d2 at hP hD
    refine lv_iinc (k := 2) (v := nI (i + 1)) hx hb d_NS_becomeAnd_23 hl rfl (nI_1 _) (by decide) rfl (fun ls hl => ?_)
    have hl : lv_has ls 3 [(2, .int (nI (i + 1))), (0, .ref h0), (1, .ref k0)] := hl
    refine lv_goto (tgt := 2) hx hb d_NS_becomeAnd_26 (by decide) ?_
    exact ih2 (i + 1, d2) H locs ls (by (try dsimp only); omega) (⟨by (try dsimp only); omega, opK (fun a b => a &&& b) hd (by omega) hd2⟩) hP hD hS (lv_sub hl [1, 2, 0] rfl)
set_option maxHeartbeats 4000000 in
set_option maxRecDepth 100000 in
theorem k_NS_becomeOr (l : Launch) (X : Cx) (h0 hw k0 kw : Nat) (f g : Nat → Int64) (S T : Nat → Bool) (hf : RS f S) (hgT : RS g T) : CtV l X (TY X) y_NS_becomeOr cw_NS_becomeOr ({ frames := 0, cells := 0, slots := 0, locals := 0 } : Room) [.ref h0, .ref k0] [(h0, .inr (0, [.ref hw])), (hw, .inl (X.2 1, 64, .inr (.inl f))), (k0, .inr (0, [.ref kw])), (kw, .inl (X.2 1, 64, .inr (.inl g)))] (S := Nat → Int64) (fun d => RS d (fun r => S r || T r)) (fun d => [(h0, .inr (0, [.ref hw])), (hw, .inl (X.2 1, 64, .inr (.inl d))), (k0, .inr (0, [.ref kw])), (kw, .inl (X.2 1, 64, .inr (.inl g)))]) 0 0 := by
  refine metV (by decide) (Nat.le_of_ble_eq_true rfl) ?_
  intro p e s m below meth c A ls hB hl
  obtain ⟨hx, hb, hr, hml, hown, hlk, hin, hg, hA, hD, hP, hE⟩ := hB
  have hS : va_S A s.heap s.heap [] := va_S.rf
  have hl : lv_has ls 3 [(0, .ref h0), (1, .ref k0)] := hl
  refine lv_iconst (v := nI 0) hx hb d_NS_becomeOr_0 (by decide) ?_
  refine lv_istore_n hx hb d_NS_becomeOr_1 rfl hl (by decide) rfl (fun ls hl => ?_)
  have hl : lv_has ls 3 [(2, .int (nI 0)), (0, .ref h0), (1, .ref k0)] := hl
  refine wLoop (nL := 3) (σ := (Nat) × (Nat → Int64)) (fun x9 => (fun (i : Nat) (d : Nat → Int64) => 64 - i) x9.1 x9.2) (fun x9 => (fun (i : Nat) (d : Nat → Int64) => i ≤ 64 ∧ ∀ w, w < 64 → d w = if w < i then f w ||| g w else f w) x9.1 x9.2) (fun x9 => (fun (i : Nat) (d : Nat → Int64) => [(h0, .inr (0, [.ref hw])), (hw, .inl (X.2 1, 64, .inr (.inl d))), (k0, .inr (0, [.ref kw])), (kw, .inl (X.2 1, 64, .inr (.inl g)))]) x9.1 x9.2) (fun x9 => (fun (i : Nat) (d : Nat → Int64) => [(0, .ref h0), (1, .ref k0), (2, .int (nI i))]) x9.1 x9.2) ?_ (0, f) (⟨by omega, fun w _ => by rw [if_neg (by omega)]⟩) hP hD hS (lv_sub hl [1, 2, 0] rfl)
  rintro ⟨i, d⟩ H locs ls hJ hP hD hS hl ih2
  have hJ : i ≤ 64 ∧ ∀ w, w < 64 → d w = if w < i then f w ||| g w else f w := hJ
  obtain ⟨hi, hd⟩ := hJ
  have hP : va_P X.1 classes [(h0, .inr (0, [.ref hw])), (hw, .inl (X.2 1, 64, .inr (.inl d))), (k0, .inr (0, [.ref kw])), (kw, .inl (X.2 1, 64, .inr (.inl g)))] H := hP
  have hD : va_D A [(h0, .inr (0, [.ref hw])), (hw, .inl (X.2 1, 64, .inr (.inl d))), (k0, .inr (0, [.ref kw])), (kw, .inl (X.2 1, 64, .inr (.inl g)))] := hD
  have hl : lv_has ls 3 [(0, .ref h0), (1, .ref k0), (2, .int (nI i))] := hl
  refine lv_iload_n hx hb d_NS_becomeOr_2 rfl (lv_at hl 2 rfl) ?_
  refine lv_bipush (v := nI 64) hx hb d_NS_becomeOr_3 (by decide) ?_
  refine lv_icmp_ge (tgt := 29) hx hb d_NS_becomeOr_5 (by decide) (fun hc5 => ?_) (fun hc5 => ?_)
  · rw [nI_leI (by omega) (by omega)] at hc5
    exact retV (u := d) hx hb hr hlk hP hD hS (orDone hf hgT hd (by omega)) d_NS_becomeOr_29
  · rw [nI_leI (by omega) (by omega)] at hc5
    refine lv_aload_n hx hb d_NS_becomeOr_8 rfl (lv_at hl 0 rfl) ?_
    refine va_get (D := X.1) (ci := 0) (v := .ref hw) (C := R_NS) (T := F_NS) (N := 1) hx hb hg in_NS hown hE.1 hP 0 rfl rfl 0 (by decide) (hg _ m_32) (fun _ h9 => h9) rfl d_NS_becomeOr_9 ?_
    refine lv_iload_n hx hb d_NS_becomeOr_12 rfl (lv_at hl 2 rfl) ?_
    refine lv_dup2_11 hx hb d_NS_becomeOr_13 rfl rfl ?_
    refine va_lald hx hb hE.1 hP 1 1 rfl rfl (vp_in_nI (by omega) (by decide)) d_NS_becomeOr_14 ?_
    refine topL (y := d i) (by rw [nI_clamp (by omega)]) ?_
    refine lv_aload_n hx hb d_NS_becomeOr_15 rfl (lv_at hl 1 rfl) ?_
    refine va_get (D := X.1) (ci := 0) (v := .ref kw) (C := R_NS) (T := F_NS) (N := 1) hx hb hg in_NS hown hE.1 hP 2 rfl rfl 0 (by decide) (hg _ m_32) (fun _ h9 => h9) rfl d_NS_becomeOr_16 ?_
    refine lv_iload_n hx hb d_NS_becomeOr_19 rfl (lv_at hl 2 rfl) ?_
    refine va_lald hx hb hE.1 hP 3 1 rfl rfl (vp_in_nI (by omega) (by decide)) d_NS_becomeOr_20 ?_
    refine topL (y := g i) (by rw [nI_clamp (by omega)]) ?_
    refine lv_lor hx hb d_NS_becomeOr_21 ?_
    refine va_last hx hb hE.1 hP hD hS 1 1 rfl rfl (vp_in_nI (by omega) (by decide)) d_NS_becomeOr_22 (fun H locs hP hD hS => ?_)
    have hP : va_P X.1 classes [(h0, .inr (0, [.ref hw])), (hw, .inl (X.2 1, 64, .inr (.inl (vp_updL d (nI i).toNatClampNeg ((d i) ||| (g i)))))), (k0, .inr (0, [.ref kw])), (kw, .inl (X.2 1, 64, .inr (.inl g)))] H := hP
    have hD : va_D A [(h0, .inr (0, [.ref hw])), (hw, .inl (X.2 1, 64, .inr (.inl (vp_updL d (nI i).toNatClampNeg ((d i) ||| (g i)))))), (k0, .inr (0, [.ref kw])), (kw, .inl (X.2 1, 64, .inr (.inl g)))] := hD
    rw [nI_clamp (show i < 2 ^ 31 by omega)] at hP hD
    generalize hd2 : vp_updL d i ((d i) ||| (g i)) = d2 at hP hD
    refine lv_iinc (k := 2) (v := nI (i + 1)) hx hb d_NS_becomeOr_23 hl rfl (nI_1 _) (by decide) rfl (fun ls hl => ?_)
    have hl : lv_has ls 3 [(2, .int (nI (i + 1))), (0, .ref h0), (1, .ref k0)] := hl
    refine lv_goto (tgt := 2) hx hb d_NS_becomeOr_26 (by decide) ?_
    exact ih2 (i + 1, d2) H locs ls (by (try dsimp only); omega) (⟨by (try dsimp only); omega, opK (fun a b => a ||| b) hd (by omega) hd2⟩) hP hD hS (lv_sub hl [1, 2, 0] rfl)
set_option maxHeartbeats 4000000 in
set_option maxRecDepth 100000 in
theorem k_NS_becomeNot (l : Launch) (X : Cx) (h0 hw : Nat) (f : Nat → Int64) (S : Nat → Bool) (hf : RS f S) : CtV l X (TY X) y_NS_becomeNot cw_NS_becomeNot ({ frames := 0, cells := 0, slots := 0, locals := 0 } : Room) [.ref h0] [(h0, .inr (0, [.ref hw])), (hw, .inl (X.2 1, 64, .inr (.inl f)))] (S := Nat → Int64) (fun d => RS d (fun r => !(S r))) (fun d => [(h0, .inr (0, [.ref hw])), (hw, .inl (X.2 1, 64, .inr (.inl d)))]) 0 0 := by
  refine metV (by decide) (Nat.le_of_ble_eq_true rfl) ?_
  intro p e s m below meth c A ls hB hl
  obtain ⟨hx, hb, hr, hml, hown, hlk, hin, hg, hA, hD, hP, hE⟩ := hB
  have hS : va_S A s.heap s.heap [] := va_S.rf
  have hl : lv_has ls 2 [(0, .ref h0)] := hl
  refine lv_iconst (v := nI 0) hx hb d_NS_becomeNot_0 (by decide) ?_
  refine lv_istore_n hx hb d_NS_becomeNot_1 rfl hl (by decide) rfl (fun ls hl => ?_)
  have hl : lv_has ls 2 [(1, .int (nI 0)), (0, .ref h0)] := hl
  refine wLoop (nL := 2) (σ := (Nat) × (Nat → Int64)) (fun x9 => (fun (i : Nat) (d : Nat → Int64) => 64 - i) x9.1 x9.2) (fun x9 => (fun (i : Nat) (d : Nat → Int64) => i ≤ 64 ∧ ∀ w, w < 64 → d w = if w < i then f w ^^^ (-1) else f w) x9.1 x9.2) (fun x9 => (fun (i : Nat) (d : Nat → Int64) => [(h0, .inr (0, [.ref hw])), (hw, .inl (X.2 1, 64, .inr (.inl d)))]) x9.1 x9.2) (fun x9 => (fun (i : Nat) (d : Nat → Int64) => [(0, .ref h0), (1, .int (nI i))]) x9.1 x9.2) ?_ (0, f) (⟨by omega, fun w _ => by rw [if_neg (by omega)]⟩) hP hD hS (lv_sub hl [1, 0] rfl)
  rintro ⟨i, d⟩ H locs ls hJ hP hD hS hl ih2
  have hJ : i ≤ 64 ∧ ∀ w, w < 64 → d w = if w < i then f w ^^^ (-1) else f w := hJ
  obtain ⟨hi, hd⟩ := hJ
  have hP : va_P X.1 classes [(h0, .inr (0, [.ref hw])), (hw, .inl (X.2 1, 64, .inr (.inl d)))] H := hP
  have hD : va_D A [(h0, .inr (0, [.ref hw])), (hw, .inl (X.2 1, 64, .inr (.inl d)))] := hD
  have hl : lv_has ls 2 [(0, .ref h0), (1, .int (nI i))] := hl
  refine lv_iload_n hx hb d_NS_becomeNot_2 rfl (lv_at hl 1 rfl) ?_
  refine lv_bipush (v := nI 64) hx hb d_NS_becomeNot_3 (by decide) ?_
  refine lv_icmp_ge (tgt := 30) hx hb d_NS_becomeNot_5 (by decide) (fun hc5 => ?_) (fun hc5 => ?_)
  · rw [nI_leI (by omega) (by omega)] at hc5
    exact retV (u := d) hx hb hr hlk hP hD hS (notDone hf hd (by omega)) d_NS_becomeNot_30
  · rw [nI_leI (by omega) (by omega)] at hc5
    refine lv_aload_n hx hb d_NS_becomeNot_8 rfl (lv_at hl 0 rfl) ?_
    refine va_get (D := X.1) (ci := 0) (v := .ref hw) (C := R_NS) (T := F_NS) (N := 1) hx hb hg in_NS hown hE.1 hP 0 rfl rfl 0 (by decide) (hg _ m_32) (fun _ h9 => h9) rfl d_NS_becomeNot_9 ?_
    refine lv_iload_n hx hb d_NS_becomeNot_12 rfl (lv_at hl 1 rfl) ?_
    refine lv_aload_n hx hb d_NS_becomeNot_13 rfl (lv_at hl 0 rfl) ?_
    refine va_get (D := X.1) (ci := 0) (v := .ref hw) (C := R_NS) (T := F_NS) (N := 1) hx hb hg in_NS hown hE.1 hP 0 rfl rfl 0 (by decide) (hg _ m_32) (fun _ h9 => h9) rfl d_NS_becomeNot_14 ?_
    refine lv_iload_n hx hb d_NS_becomeNot_17 rfl (lv_at hl 1 rfl) ?_
    refine va_lald hx hb hE.1 hP 1 1 rfl rfl (vp_in_nI (by omega) (by decide)) d_NS_becomeNot_18 ?_
    refine topL (y := d i) (by rw [nI_clamp (by omega)]) ?_
    refine lv_ldc2 hx hb hown (hg _ m_46) d_NS_becomeNot_19 ?_
    refine lv_lxor hx hb d_NS_becomeNot_22 ?_
    refine va_last hx hb hE.1 hP hD hS 1 1 rfl rfl (vp_in_nI (by omega) (by decide)) d_NS_becomeNot_23 (fun H locs hP hD hS => ?_)
    have hP : va_P X.1 classes [(h0, .inr (0, [.ref hw])), (hw, .inl (X.2 1, 64, .inr (.inl (vp_updL d (nI i).toNatClampNeg ((d i) ^^^ ((-1)))))))] H := hP
    have hD : va_D A [(h0, .inr (0, [.ref hw])), (hw, .inl (X.2 1, 64, .inr (.inl (vp_updL d (nI i).toNatClampNeg ((d i) ^^^ ((-1)))))))] := hD
    rw [nI_clamp (show i < 2 ^ 31 by omega)] at hP hD
    generalize hd2 : vp_updL d i ((d i) ^^^ ((-1))) = d2 at hP hD
    refine lv_iinc (k := 1) (v := nI (i + 1)) hx hb d_NS_becomeNot_24 hl rfl (nI_1 _) (by decide) rfl (fun ls hl => ?_)
    have hl : lv_has ls 2 [(1, .int (nI (i + 1))), (0, .ref h0)] := hl
    refine lv_goto (tgt := 2) hx hb d_NS_becomeNot_27 (by decide) ?_
    exact ih2 (i + 1, d2) H locs ls (by (try dsimp only); omega) (⟨by (try dsimp only); omega, opK (fun a b => a ^^^ b) (g := fun _ => -1) hd (by omega) hd2⟩) hP hD hS (lv_sub hl [1, 0] rfl)
set_option maxHeartbeats 4000000 in
set_option maxRecDepth 100000 in
theorem k_NS_becomeAll (l : Launch) (X : Cx) (h0 hw : Nat) (f : Nat → Int64) : CtV l X (TY X) y_NS_becomeAll cw_NS_becomeAll ({ frames := 1, cells := 0, slots := 0, locals := 24 } : Room) [.ref h0] [(h0, .inr (0, [.ref hw])), (hw, .inl (X.2 1, 64, .inr (.inl f)))] (S := Nat → Int64) (fun d => RS d (fun _ => true)) (fun d => [(h0, .inr (0, [.ref hw])), (hw, .inl (X.2 1, 64, .inr (.inl d)))]) 0 0 := by
  refine metV (by decide) (Nat.le_of_ble_eq_true rfl) ?_
  intro p e s m below meth c A ls hB hl
  obtain ⟨hx, hb, hr, hml, hown, hlk, hin, hg, hA, hD, hP, hE⟩ := hB
  have hS : va_S A s.heap s.heap [] := va_S.rf
  have hl : lv_has ls 1 [(0, .ref h0)] := hl
  refine lv_aload_n hx hb d_NS_becomeAll_0 rfl (lv_at hl 0 rfl) ?_
  refine va_get (D := X.1) (ci := 0) (v := .ref hw) (C := R_NS) (T := F_NS) (N := 1) hx hb hg in_NS hown hE.1 hP 0 rfl rfl 0 (by decide) (hg _ m_32) (fun _ h9 => h9) rfl d_NS_becomeAll_1 ?_
  refine lv_ldc2 hx hb hown (hg _ m_46) d_NS_becomeAll_4 ?_
  refine clSV (n := 2) (As := [.ref hw, .long ((-1))]) (rest := []) (wc := [(hw, .inl (X.2 1, 64, .inr (.inl f)))]) (wr := [(h0, .inr (0, [.ref hw]))]) hx hb hml hown hg hE hA hP hD hS (k_JA_fillL l X hw 64 (by decide) f (-1)) (gcons m_47 (gcons m_48 (gcons m_4 (gcons m_49 gG)))) (by decide +kernel) [1] [0] rfl rfl (by decide) (by decide) (by decide) rfl hl.1 (Nat.le_of_ble_eq_true rfl) rfl d_NS_becomeAll_7 ⟨rfl, rfl, Nat.le_of_ble_eq_true rfl, Nat.le_of_ble_eq_true rfl⟩ (⟨Nat.le_of_ble_eq_true rfl, Nat.le_of_ble_eq_true rfl⟩) (fun d H locs hd hP hD hS => ?_)
  have hP : va_P X.1 classes [(h0, .inr (0, [.ref hw])), (hw, .inl (X.2 1, 64, .inr (.inl d)))] H := hP
  have hD : va_D A [(h0, .inr (0, [.ref hw])), (hw, .inl (X.2 1, 64, .inr (.inl d)))] := hD
  exact retV (u := d) hx hb hr hlk hP hD hS (allDone hd) d_NS_becomeAll_10
set_option maxHeartbeats 4000000 in
set_option maxRecDepth 100000 in
theorem k_NS_wordOf (l : Launch) (X : Cx) (q v w : Nat) (hq : q < 6) (hv : v < 4) (hw : w < 64) : CtL l X (TY X) y_NS_wordOf cw_NS_wordOf ({ frames := 1, cells := 0, slots := 0, locals := 21 } : Room) [.int (nI q), .int (nI v), .int (nI w)] [] (S := Unit) (fun r _ => ∀ t, t < 64 → bL r t = (dg (64 * w + t) q == v)) (fun _ => []) 0 0 := by
  refine metL (by decide) (Nat.le_of_ble_eq_true rfl) ?_
  intro p e s m below meth c A ls hB hl
  obtain ⟨hx, hb, hr, hml, hown, hlk, hin, hg, hA, hD, hP, hE⟩ := hB
  have hS : va_S A s.heap s.heap [] := va_S.rf
  have hl : lv_has ls 3 [(0, .int (nI q)), (1, .int (nI v)), (2, .int (nI w))] := hl
  obtain ⟨hK, hNw, t1, t2, hZ1, hT1, hZ2, hT2⟩ := id hE
  refine lv_iload_n hx hb d_NS_wordOf_0 rfl (lv_at hl 0 rfl) ?_
  refine lv_iconst (v := nI 3) hx hb d_NS_wordOf_1 (by decide) ?_
  refine lv_icmp_ge (tgt := 17) hx hb d_NS_wordOf_2 (by decide) (fun hc2 => ?_) (fun hc2 => ?_)
  · rw [nI_leI (by omega) (by omega)] at hc2
    refine lv_iload_n hx hb d_NS_wordOf_17 rfl (lv_at hl 0 rfl) ?_
    refine lv_iconst (v := nI 3) hx hb d_NS_wordOf_18 (by decide) ?_
    refine lv_isub hx hb d_NS_wordOf_19 ?_
    refine topI (pk_sub (by omega)) ?_
    refine lv_iload_n hx hb d_NS_wordOf_20 rfl (lv_at hl 2 rfl) ?_
    refine clSNI (n := 2) (As := [.int (nI (q - 3)), .int (nI w)]) (rest := []) (wc := []) (wr := []) hx hb hml hown hg hE hA hP hD hS (k_CR_valueOf l X (q - 3) w (by omega) (by omega)) m_65 m_64 m_1 (nw_2 hE.2.1) (by decide +kernel) [] [] rfl rfl (by decide) (by decide) (by decide) rfl hl.1 (Nat.le_of_ble_eq_true rfl) rfl d_NS_wordOf_21 ⟨rfl, rfl, Nat.le_of_ble_eq_true rfl, Nat.le_of_ble_eq_true rfl⟩ (⟨Nat.le_of_ble_eq_true rfl, Nat.le_of_ble_eq_true rfl⟩) (fun r21 u21 H locs hq21 hP hD hS => ?_)
    have hq21 : r21 = nI (dg w (q - 3)) := hq21
    subst hq21
    have hP : va_P X.1 classes [] H := hP
    have hD : va_D A [] := hD
    refine lv_iload_n hx hb d_NS_wordOf_24 rfl (lv_at hl 1 rfl) ?_
    refine lv_icmp_ne (tgt := 34) hx hb d_NS_wordOf_25 (by decide) (fun hc25 => ?_) (fun hc25 => ?_)
    · rw [nI_eq (dg_lt31 _ _) (by omega)] at hc25
      refine lv_lconst (v := 0) hx hb d_NS_wordOf_34 (by decide) ?_
      exact retL (u := ()) hx hb hr hlk hP hD hS (by first | exact wordHi1 (by omega) hc25 | exact wordHi0 (by omega) hc25) d_NS_wordOf_35
    · rw [nI_eq (dg_lt31 _ _) (by omega)] at hc25
      refine lv_ldc2 hx hb hown (hg _ m_46) d_NS_wordOf_28 ?_
      refine lv_goto (tgt := 35) hx hb d_NS_wordOf_31 (by decide) ?_
      exact retL (u := ()) hx hb hr hlk hP hD hS (by first | exact wordHi1 (by omega) hc25 | exact wordHi0 (by omega) hc25) d_NS_wordOf_35
  · rw [nI_leI (by omega) (by omega)] at hc2
    refine va_getsN hx hb hZ1 hS hown (va_Nw.use rfl (nw_1 hNw)) (fun _ h9 => h9) d_NS_wordOf_5 ?_
    refine lv_iload_n hx hb d_NS_wordOf_8 rfl (lv_at hl 0 rfl) ?_
    refine va_tl (v := .long (zw q)) hx hb hT1 hS (vp_in_nI (by omega) (by decide)) (by show Value.long (zw (nI q).toNatClampNeg) = _; rw [nI_clamp (by omega)]) d_NS_wordOf_9 ?_
    refine lv_iload_n hx hb d_NS_wordOf_10 rfl (lv_at hl 1 rfl) ?_
    refine lv_iconst (v := nI 2) hx hb d_NS_wordOf_11 (by decide) ?_
    refine lv_iload_n hx hb d_NS_wordOf_12 rfl (lv_at hl 0 rfl) ?_
    refine lv_imul hx hb d_NS_wordOf_13 ?_
    refine topI (pk_mul _ _) ?_
    refine lv_ishl hx hb d_NS_wordOf_14 ?_
    refine topI (shlN (by omega) (v4q hv (by omega))) ?_
    refine lv_lshl hx hb d_NS_wordOf_15 rfl ?_
    exact retL (u := ()) hx hb hr hlk hP hD hS (wordLo (by omega) hv) d_NS_wordOf_16
set_option maxHeartbeats 4000000 in
set_option maxRecDepth 100000 in
theorem k_NS_becomeIs (l : Launch) (X : Cx) (h0 hw : Nat) (f : Nat → Int64) (q v : Nat) (hq : q < 6) (hv : v < 4) : CtV l X (TY X) y_NS_becomeIs cw_NS_becomeIs ({ frames := 2, cells := 0, slots := 0, locals := 43 } : Room) [.ref h0, .int (nI q), .int (nI v)] [(h0, .inr (0, [.ref hw])), (hw, .inl (X.2 1, 64, .inr (.inl f)))] (S := Nat → Int64) (fun d => RS d (fun r => dg r q == v)) (fun d => [(h0, .inr (0, [.ref hw])), (hw, .inl (X.2 1, 64, .inr (.inl d)))]) 0 0 := by
  refine metV (by decide) (Nat.le_of_ble_eq_true rfl) ?_
  intro p e s m below meth c A ls hB hl
  obtain ⟨hx, hb, hr, hml, hown, hlk, hin, hg, hA, hD, hP, hE⟩ := hB
  have hS : va_S A s.heap s.heap [] := va_S.rf
  have hl : lv_has ls 4 [(0, .ref h0), (1, .int (nI q)), (2, .int (nI v))] := hl
  refine lv_iconst (v := nI 0) hx hb d_NS_becomeIs_0 (by decide) ?_
  refine lv_istore_n hx hb d_NS_becomeIs_1 rfl hl (by decide) rfl (fun ls hl => ?_)
  have hl : lv_has ls 4 [(3, .int (nI 0)), (0, .ref h0), (1, .int (nI q)), (2, .int (nI v))] := hl
  refine wLoop (nL := 4) (σ := (Nat) × (Nat → Int64)) (fun x9 => (fun (i : Nat) (d : Nat → Int64) => 64 - i) x9.1 x9.2) (fun x9 => (fun (i : Nat) (d : Nat → Int64) => i ≤ 64 ∧ ∀ w, w < i → ∀ t, t < 64 → bL (d w) t = (dg (64 * w + t) q == v)) x9.1 x9.2) (fun x9 => (fun (i : Nat) (d : Nat → Int64) => [(h0, .inr (0, [.ref hw])), (hw, .inl (X.2 1, 64, .inr (.inl d)))]) x9.1 x9.2) (fun x9 => (fun (i : Nat) (d : Nat → Int64) => [(0, .ref h0), (1, .int (nI q)), (2, .int (nI v)), (3, .int (nI i))]) x9.1 x9.2) ?_ (0, f) (⟨by omega, fun w h => absurd h (by omega)⟩) hP hD hS (lv_sub hl [1, 2, 3, 0] rfl)
  rintro ⟨i, d⟩ H locs ls hJ hP hD hS hl ih2
  have hJ : i ≤ 64 ∧ ∀ w, w < i → ∀ t, t < 64 → bL (d w) t = (dg (64 * w + t) q == v) := hJ
  obtain ⟨hi, hd⟩ := hJ
  have hP : va_P X.1 classes [(h0, .inr (0, [.ref hw])), (hw, .inl (X.2 1, 64, .inr (.inl d)))] H := hP
  have hD : va_D A [(h0, .inr (0, [.ref hw])), (hw, .inl (X.2 1, 64, .inr (.inl d)))] := hD
  have hl : lv_has ls 4 [(0, .ref h0), (1, .int (nI q)), (2, .int (nI v)), (3, .int (nI i))] := hl
  refine lv_iload_n hx hb d_NS_becomeIs_2 rfl (lv_at hl 3 rfl) ?_
  refine lv_bipush (v := nI 64) hx hb d_NS_becomeIs_3 (by decide) ?_
  refine lv_icmp_ge (tgt := 26) hx hb d_NS_becomeIs_5 (by decide) (fun hc5 => ?_) (fun hc5 => ?_)
  · rw [nI_leI (by omega) (by omega)] at hc5
    exact retV (u := d) hx hb hr hlk hP hD hS (fun w hw t ht => hd w (by omega) t ht) d_NS_becomeIs_26
  · rw [nI_leI (by omega) (by omega)] at hc5
    refine lv_aload_n hx hb d_NS_becomeIs_8 rfl (lv_at hl 0 rfl) ?_
    refine va_get (D := X.1) (ci := 0) (v := .ref hw) (C := R_NS) (T := F_NS) (N := 1) hx hb hg in_NS hown hE.1 hP 0 rfl rfl 0 (by decide) (hg _ m_32) (fun _ h9 => h9) rfl d_NS_becomeIs_9 ?_
    refine lv_iload_n hx hb d_NS_becomeIs_12 rfl (lv_at hl 3 rfl) ?_
    refine lv_iload_n hx hb d_NS_becomeIs_13 rfl (lv_at hl 1 rfl) ?_
    refine lv_iload_n hx hb d_NS_becomeIs_14 rfl (lv_at hl 2 rfl) ?_
    refine lv_iload_n hx hb d_NS_becomeIs_15 rfl (lv_at hl 3 rfl) ?_
    refine clSL (n := 3) (As := [.int (nI q), .int (nI v), .int (nI i)]) (rest := [.int (nI i), .ref hw]) (wc := []) (wr := [(h0, .inr (0, [.ref hw])), (hw, .inl (X.2 1, 64, .inr (.inl d)))]) hx hb hml hown hg hE hA hP hD hS (k_NS_wordOf l X q v i hq hv (by omega)) (gcons m_241 (gcons m_59 (gcons m_3 (gcons m_60 gG)))) (by decide +kernel) [] [0, 1] rfl rfl (by decide) (by decide) (by decide) rfl hl.1 (Nat.le_of_ble_eq_true rfl) rfl d_NS_becomeIs_16 ⟨rfl, rfl, Nat.le_of_ble_eq_true rfl, Nat.le_of_ble_eq_true rfl⟩ (⟨Nat.le_of_ble_eq_true rfl, Nat.le_of_ble_eq_true rfl⟩) (fun r16 u16 H locs hq16 hP hD hS => ?_)
    have hP : va_P X.1 classes [(h0, .inr (0, [.ref hw])), (hw, .inl (X.2 1, 64, .inr (.inl d)))] H := hP
    have hD : va_D A [(h0, .inr (0, [.ref hw])), (hw, .inl (X.2 1, 64, .inr (.inl d)))] := hD
    refine va_last hx hb hE.1 hP hD hS 1 1 rfl rfl (vp_in_nI (by omega) (by decide)) d_NS_becomeIs_19 (fun H locs hP hD hS => ?_)
    have hP : va_P X.1 classes [(h0, .inr (0, [.ref hw])), (hw, .inl (X.2 1, 64, .inr (.inl (vp_updL d (nI i).toNatClampNeg r16))))] H := hP
    have hD : va_D A [(h0, .inr (0, [.ref hw])), (hw, .inl (X.2 1, 64, .inr (.inl (vp_updL d (nI i).toNatClampNeg r16))))] := hD
    rw [nI_clamp (show i < 2 ^ 31 by omega)] at hP hD
    generalize hd2 : vp_updL d i r16 = d2 at hP hD
    refine lv_iinc (k := 3) (v := nI (i + 1)) hx hb d_NS_becomeIs_20 hl rfl (nI_1 _) (by decide) rfl (fun ls hl => ?_)
    have hl : lv_has ls 4 [(3, .int (nI (i + 1))), (0, .ref h0), (1, .int (nI q)), (2, .int (nI v))] := hl
    refine lv_goto (tgt := 2) hx hb d_NS_becomeIs_23 (by decide) ?_
    exact ih2 (i + 1, d2) H locs ls (by (try dsimp only); omega) (⟨by (try dsimp only); omega, becK hd hq16 hd2⟩) hP hD hS (lv_sub hl [1, 2, 3, 0] rfl)
set_option maxHeartbeats 4000000 in
set_option maxRecDepth 100000 in
theorem k_NS_inWordWith (l : Launch) (X : Cx) (n b : Nat) (hn : n < 64) (hb0 : b < 4096) : CtL l X (TY X) y_NS_inWordWith cw_NS_inWordWith ({ frames := 1, cells := 0, slots := 0, locals := 21 } : Room) [.int (nI (fo n 6)), .int (nI b)] [] (S := Unit) (fun r _ => ∀ t, t < 64 → bL r t = inW n b t 3) (fun _ => []) 0 0 := by
  refine metL (by decide) (Nat.le_of_ble_eq_true rfl) ?_
  intro p e s m below meth c A ls hB hl
  obtain ⟨hx, hb, hr, hml, hown, hlk, hin, hg, hA, hD, hP, hE⟩ := hB
  have hS : va_S A s.heap s.heap [] := va_S.rf
  have hl : lv_has ls 5 [(0, .int (nI (fo n 6))), (1, .int (nI b))] := hl
  obtain ⟨hK, hNw, t1, t2, hZ1, hT1, hZ2, hT2⟩ := id hE
  have hfo := fo_lt n 6 (by omega)
  refine lv_ldc2 hx hb hown (hg _ m_46) d_NS_inWordWith_0 ?_
  refine lv_lstore_n hx hb d_NS_inWordWith_3 rfl hl (by decide) rfl (fun ls hl => ?_)
  have hl : lv_has ls 5 [(2, .long ((-1))), (0, .int (nI (fo n 6))), (1, .int (nI b))] := hl
  refine lv_iconst (v := nI 0) hx hb d_NS_inWordWith_4 (by decide) ?_
  refine lv_istore hx hb d_NS_inWordWith_5 hl (by decide) rfl (fun ls hl => ?_)
  have hl : lv_has ls 5 [(4, .int (nI 0)), (2, .long ((-1))), (0, .int (nI (fo n 6))), (1, .int (nI b))] := hl
  refine wLoop (nL := 5) (σ := (Nat) × (Int64)) (fun x9 => (fun (i : Nat) (m0 : Int64) => 3 - i) x9.1 x9.2) (fun x9 => (fun (i : Nat) (m0 : Int64) => i ≤ 3 ∧ ∀ t, t < 64 → bL m0 t = inW n b t i) x9.1 x9.2) (fun x9 => (fun (i : Nat) (m0 : Int64) => []) x9.1 x9.2) (fun x9 => (fun (i : Nat) (m0 : Int64) => [(0, .int (nI (fo n 6))), (1, .int (nI b)), (2, .long m0), (4, .int (nI i))]) x9.1 x9.2) ?_ (0, -1) (⟨by omega, fun t ht => bL_m1 ht⟩) hP hD hS (lv_sub hl [2, 3, 1, 0] rfl)
  rintro ⟨i, m0⟩ H locs ls hJ hP hD hS hl ih7
  have hJ : i ≤ 3 ∧ ∀ t, t < 64 → bL m0 t = inW n b t i := hJ
  obtain ⟨hi, hm⟩ := hJ
  have hP : va_P X.1 classes [] H := hP
  have hD : va_D A [] := hD
  have hl : lv_has ls 5 [(0, .int (nI (fo n 6))), (1, .int (nI b)), (2, .long m0), (4, .int (nI i))] := hl
  refine lv_iload hx hb d_NS_inWordWith_7 (lv_at hl 3 rfl) ?_
  refine lv_iconst (v := nI 3) hx hb d_NS_inWordWith_9 (by decide) ?_
  refine lv_icmp_ge (tgt := 49) hx hb d_NS_inWordWith_10 (by decide) (fun hc10 => ?_) (fun hc10 => ?_)
  · rw [nI_leI (by omega) (by omega)] at hc10
    obtain rfl : i = 3 := by omega
    refine lv_lload_n hx hb d_NS_inWordWith_49 rfl (lv_at hl 2 rfl) ?_
    exact retL (u := ()) hx hb hr hlk hP hD hS (hm) d_NS_inWordWith_50
  · rw [nI_leI (by omega) (by omega)] at hc10
    refine lv_iload hx hb d_NS_inWordWith_13 (lv_at hl 3 rfl) ?_
    refine lv_iload_n hx hb d_NS_inWordWith_15 rfl (lv_at hl 0 rfl) ?_
    refine clSNI (n := 2) (As := [.int (nI i), .int (nI (fo n 6))]) (rest := []) (wc := []) (wr := []) hx hb hml hown hg hE hA hP hD hS (k_CR_valueOf l X i (fo n 6) (by omega) (by omega)) m_65 m_64 m_1 (nw_2 hE.2.1) (by decide +kernel) [] [] rfl rfl (by decide) (by decide) (by decide) rfl hl.1 (Nat.le_of_ble_eq_true rfl) rfl d_NS_inWordWith_16 ⟨rfl, rfl, Nat.le_of_ble_eq_true rfl, Nat.le_of_ble_eq_true rfl⟩ (⟨Nat.le_of_ble_eq_true rfl, Nat.le_of_ble_eq_true rfl⟩) (fun r16 u16 H locs hq16 hP hD hS => ?_)
    have hq16 : r16 = nI (dg (fo n 6) i) := hq16
    subst hq16
    have hP : va_P X.1 classes [] H := hP
    have hD : va_D A [] := hD
    refine lv_if_eq (tgt := 43) hx hb d_NS_inWordWith_19 (by decide) (fun hc19 => ?_) (fun hc19 => ?_)
    · rw [n_z (dg_lt31 _ _)] at hc19
      refine lv_iinc (k := 3) (v := nI (i + 1)) hx hb d_NS_inWordWith_43 hl rfl (nI_1 _) (by decide) rfl (fun ls hl => ?_)
      have hl : lv_has ls 5 [(4, .int (nI (i + 1))), (0, .int (nI (fo n 6))), (1, .int (nI b)), (2, .long m0)] := hl
      refine lv_goto (tgt := 7) hx hb d_NS_inWordWith_46 (by decide) ?_
      exact ih7 (i + 1, m0) H locs ls (by (try dsimp only); omega) (⟨by (try dsimp only); omega, by first | exact inW_f (by omega) hm hc19 | exact inW_t (by omega) hm hc19⟩) hP hD hS (lv_sub hl [1, 2, 3, 0] rfl)
    · rw [n_z (dg_lt31 _ _)] at hc19
      refine lv_lload_n hx hb d_NS_inWordWith_22 rfl (lv_at hl 2 rfl) ?_
      refine va_getsN hx hb hZ1 hS hown (va_Nw.use rfl (nw_1 hNw)) (fun _ h9 => h9) d_NS_inWordWith_23 ?_
      refine lv_iload hx hb d_NS_inWordWith_26 (lv_at hl 3 rfl) ?_
      refine va_tl (v := .long (zw i)) hx hb hT1 hS (vp_in_nI (by omega) (by decide)) (by show Value.long (zw (nI i).toNatClampNeg) = _; rw [nI_clamp (by omega)]) d_NS_inWordWith_28 ?_
      refine lv_iload hx hb d_NS_inWordWith_29 (lv_at hl 3 rfl) ?_
      refine lv_iload_n hx hb d_NS_inWordWith_31 rfl (lv_at hl 1 rfl) ?_
      refine clSNI (n := 2) (As := [.int (nI i), .int (nI b)]) (rest := [.long (zw i), .long m0]) (wc := []) (wr := []) hx hb hml hown hg hE hA hP hD hS (k_CR_valueOf l X i b (by omega) (by omega)) m_65 m_64 m_1 (nw_2 hE.2.1) (by decide +kernel) [] [] rfl rfl (by decide) (by decide) (by decide) rfl hl.1 (Nat.le_of_ble_eq_true rfl) rfl d_NS_inWordWith_32 ⟨rfl, rfl, Nat.le_of_ble_eq_true rfl, Nat.le_of_ble_eq_true rfl⟩ (⟨Nat.le_of_ble_eq_true rfl, Nat.le_of_ble_eq_true rfl⟩) (fun r32 u32 H locs hq32 hP hD hS => ?_)
      have hq32 : r32 = nI (dg b i) := hq32
      subst hq32
      have hP : va_P X.1 classes [] H := hP
      have hD : va_D A [] := hD
      refine lv_iconst (v := nI 2) hx hb d_NS_inWordWith_35 (by decide) ?_
      refine lv_iload hx hb d_NS_inWordWith_36 (lv_at hl 3 rfl) ?_
      refine lv_imul hx hb d_NS_inWordWith_38 ?_
      refine topI (pk_mul _ _) ?_
      refine lv_ishl hx hb d_NS_inWordWith_39 ?_
      refine topI (shlN (by omega) (v4q (dg_lt _ _) (by omega))) ?_
      refine lv_lshl hx hb d_NS_inWordWith_40 rfl ?_
      refine lv_land hx hb d_NS_inWordWith_41 ?_
      refine lv_lstore_n hx hb d_NS_inWordWith_42 rfl hl (by decide) rfl (fun ls hl => ?_)
      have hl : lv_has ls 5 [(2, .long (m0 &&& ((zw i) <<< ((nI ((dg b i) * 2 ^ (2 * i))).toInt64 &&& 63)))), (0, .int (nI (fo n 6))), (1, .int (nI b)), (4, .int (nI i))] := hl
      refine lv_iinc (k := 3) (v := nI (i + 1)) hx hb d_NS_inWordWith_43 hl rfl (nI_1 _) (by decide) rfl (fun ls hl => ?_)
      have hl : lv_has ls 5 [(4, .int (nI (i + 1))), (2, .long (m0 &&& ((zw i) <<< ((nI ((dg b i) * 2 ^ (2 * i))).toInt64 &&& 63)))), (0, .int (nI (fo n 6))), (1, .int (nI b))] := hl
      refine lv_goto (tgt := 7) hx hb d_NS_inWordWith_46 (by decide) ?_
      exact ih7 (i + 1, (m0 &&& ((zw i) <<< ((nI ((dg b i) * 2 ^ (2 * i))).toInt64 &&& 63)))) H locs ls (by (try dsimp only); omega) (⟨by (try dsimp only); omega, by first | exact inW_f (by omega) hm hc19 | exact inW_t (by omega) hm hc19⟩) hP hD hS (lv_sub hl [2, 3, 1, 0] rfl)
set_option maxHeartbeats 4000000 in
set_option maxRecDepth 100000 in
theorem k_NS_hasRowWith (l : Launch) (X : Cx) (h0 hw : Nat) (f : Nat → Int64) (S : Nat → Bool) (hf : RS f S) (n b : Nat) (hn : n < 64) (hb0 : b < 4096) (hbs : b &&& fo n 6 = b) : CtI l X (TY X) y_NS_hasRowWith cw_NS_hasRowWith ({ frames := 2, cells := 0, slots := 0, locals := 45 } : Room) [.ref h0, .int (nI (fo n 6)), .int (nI b)] [(h0, .inr (0, [.ref hw])), (hw, .inl (X.2 1, 64, .inr (.inl f)))] (S := Unit) (fun r _ => r = bI (anyR S n b)) (fun _ => [(h0, .inr (0, [.ref hw])), (hw, .inl (X.2 1, 64, .inr (.inl f)))]) 0 0 := by
  refine metI (by decide) (Nat.le_of_ble_eq_true rfl) ?_
  intro p e s m below meth c A ls hB hl
  obtain ⟨hx, hb, hr, hml, hown, hlk, hin, hg, hA, hD, hP, hE⟩ := hB
  have hS : va_S A s.heap s.heap [] := va_S.rf
  have hl : lv_has ls 10 [(0, .ref h0), (1, .int (nI (fo n 6))), (2, .int (nI b))] := hl
  have hfo := fo_lt n 6 (by omega)
  refine lv_iload_n hx hb d_NS_hasRowWith_0 rfl (lv_at hl 1 rfl) ?_
  refine lv_iload_n hx hb d_NS_hasRowWith_1 rfl (lv_at hl 2 rfl) ?_
  refine clSL (n := 2) (As := [.int (nI (fo n 6)), .int (nI b)]) (rest := []) (wc := []) (wr := [(h0, .inr (0, [.ref hw])), (hw, .inl (X.2 1, 64, .inr (.inl f)))]) hx hb hml hown hg hE hA hP hD hS (k_NS_inWordWith l X n b hn hb0) (gcons m_305 (gcons m_306 (gcons m_3 (gcons m_307 gG)))) (by decide +kernel) [] [0, 1] rfl rfl (by decide) (by decide) (by decide) rfl hl.1 (Nat.le_of_ble_eq_true rfl) rfl d_NS_hasRowWith_2 ⟨rfl, rfl, Nat.le_of_ble_eq_true rfl, Nat.le_of_ble_eq_true rfl⟩ (⟨Nat.le_of_ble_eq_true rfl, Nat.le_of_ble_eq_true rfl⟩) (fun mw u2 H locs hmw hP hD hS => ?_)
  have hP : va_P X.1 classes [(h0, .inr (0, [.ref hw])), (hw, .inl (X.2 1, 64, .inr (.inl f)))] H := hP
  have hD : va_D A [(h0, .inr (0, [.ref hw])), (hw, .inl (X.2 1, 64, .inr (.inl f)))] := hD
  refine lv_lstore_n hx hb d_NS_hasRowWith_5 rfl hl (by decide) rfl (fun ls hl => ?_)
  have hl : lv_has ls 10 [(3, .long mw), (0, .ref h0), (1, .int (nI (fo n 6))), (2, .int (nI b))] := hl
  refine lv_iload_n hx hb d_NS_hasRowWith_6 rfl (lv_at hl 3 rfl) ?_
  refine lv_bipush (v := nI 6) hx hb d_NS_hasRowWith_7 (by decide) ?_
  refine lv_ishr hx hb d_NS_hasRowWith_9 ?_
  refine topI (shrN (by omega) (by omega)) ?_
  refine lv_bipush (v := nI 63) hx hb d_NS_hasRowWith_10 (by decide) ?_
  refine lv_iand hx hb d_NS_hasRowWith_12 ?_
  refine topI (y := nI (b / 64)) (hi6 hb0) ?_
  refine lv_istore hx hb d_NS_hasRowWith_13 hl (by decide) rfl (fun ls hl => ?_)
  have hl : lv_has ls 10 [(5, .int (nI (b / 64))), (3, .long mw), (0, .ref h0), (1, .int (nI (fo n 6))), (2, .int (nI b))] := hl
  refine lv_iload_n hx hb d_NS_hasRowWith_15 rfl (lv_at hl 3 rfl) ?_
  refine lv_bipush (v := nI 6) hx hb d_NS_hasRowWith_16 (by decide) ?_
  refine lv_ishr hx hb d_NS_hasRowWith_18 ?_
  refine topI (shrN (by omega) (by omega)) ?_
  refine lv_iconst (v := (-1)) hx hb d_NS_hasRowWith_19 (by decide) ?_
  refine lv_ixor hx hb d_NS_hasRowWith_20 ?_
  refine lv_bipush (v := nI 63) hx hb d_NS_hasRowWith_21 (by decide) ?_
  refine lv_iand hx hb d_NS_hasRowWith_23 ?_
  refine topI (y := nI (fo (hs n) 6)) (fr_eq hn) ?_
  refine lv_istore hx hb d_NS_hasRowWith_24 hl (by decide) rfl (fun ls hl => ?_)
  have hl : lv_has ls 10 [(6, .int (nI (fo (hs n) 6))), (5, .int (nI (b / 64))), (3, .long mw), (0, .ref h0), (1, .int (nI (fo n 6))), (2, .int (nI b))] := hl
  refine lv_iconst (v := nI 1) hx hb d_NS_hasRowWith_26 (by decide) ?_
  refine lv_iload hx hb d_NS_hasRowWith_27 (lv_at hl 0 rfl) ?_
  refine clSI (n := 1) (As := [.int (nI (fo (hs n) 6))]) (rest := [.int (nI 1)]) (wc := []) (wr := [(h0, .inr (0, [.ref hw])), (hw, .inl (X.2 1, 64, .inr (.inl f)))]) hx hb hml hown hg hE hA hP hD hS (k_JI_bitCount l X (nI (fo (hs n) 6))) (gcons m_308 (gcons m_219 (gcons m_9 (gcons m_220 gG)))) (by decide +kernel) [] [0, 1] rfl rfl (by decide) (by decide) (by decide) rfl hl.1 (Nat.le_of_ble_eq_true rfl) rfl d_NS_hasRowWith_29 ⟨rfl, rfl, Nat.le_of_ble_eq_true rfl, Nat.le_of_ble_eq_true rfl⟩ (⟨Nat.le_of_ble_eq_true rfl, Nat.le_of_ble_eq_true rfl⟩) (fun r29 u29 H locs hq29 hP hD hS => ?_)
  have hq29 : r29 = bcI (nI (fo (hs n) 6)) := hq29
  subst hq29
  have hP : va_P X.1 classes [(h0, .inr (0, [.ref hw])), (hw, .inl (X.2 1, 64, .inr (.inl f)))] H := hP
  have hD : va_D A [(h0, .inr (0, [.ref hw])), (hw, .inl (X.2 1, 64, .inr (.inl f)))] := hD
  refine lv_ishl hx hb d_NS_hasRowWith_32 ?_
  refine topI (y := nI (4 ^ cn (hs n) 6)) (bcF (hs_lt n)) ?_
  refine lv_istore hx hb d_NS_hasRowWith_33 hl (by decide) rfl (fun ls hl => ?_)
  have hl : lv_has ls 10 [(7, .int (nI (4 ^ cn (hs n) 6))), (6, .int (nI (fo (hs n) 6))), (5, .int (nI (b / 64))), (3, .long mw), (0, .ref h0), (1, .int (nI (fo n 6))), (2, .int (nI b))] := hl
  refine lv_iconst (v := nI 0) hx hb d_NS_hasRowWith_35 (by decide) ?_
  refine topI (y := nI (ux (hs n) 0)) (by rw [ux_0]) ?_
  refine lv_istore hx hb d_NS_hasRowWith_36 hl (by decide) rfl (fun ls hl => ?_)
  have hl : lv_has ls 10 [(8, .int (nI (ux (hs n) 0))), (7, .int (nI (4 ^ cn (hs n) 6))), (6, .int (nI (fo (hs n) 6))), (5, .int (nI (b / 64))), (3, .long mw), (0, .ref h0), (1, .int (nI (fo n 6))), (2, .int (nI b))] := hl
  refine lv_iconst (v := nI 0) hx hb d_NS_hasRowWith_38 (by decide) ?_
  refine lv_istore hx hb d_NS_hasRowWith_39 hl (by decide) rfl (fun ls hl => ?_)
  have hl : lv_has ls 10 [(9, .int (nI 0)), (8, .int (nI (ux (hs n) 0))), (7, .int (nI (4 ^ cn (hs n) 6))), (6, .int (nI (fo (hs n) 6))), (5, .int (nI (b / 64))), (3, .long mw), (0, .ref h0), (1, .int (nI (fo n 6))), (2, .int (nI b))] := hl
  refine wLoop (nL := 10) (σ := (Nat)) (fun j => 4 ^ cn (hs n) 6 - j) (fun j => j ≤ 4 ^ cn (hs n) 6 ∧ ∀ k, k < j → f (b / 64 ||| ux (hs n) k) &&& mw = 0) (fun j => [(h0, .inr (0, [.ref hw])), (hw, .inl (X.2 1, 64, .inr (.inl f)))]) (fun j => [(0, .ref h0), (1, .int (nI (fo n 6))), (2, .int (nI b)), (3, .long mw), (5, .int (nI (b / 64))), (6, .int (nI (fo (hs n) 6))), (7, .int (nI (4 ^ cn (hs n) 6))), (8, .int (nI (ux (hs n) j))), (9, .int (nI j))]) ?_ 0 (⟨Nat.zero_le _, fun k h => absurd h (by omega)⟩) hP hD hS (lv_sub hl [6, 7, 8, 5, 4, 3, 2, 1, 0] rfl)
  rintro j H locs ls hJ hP hD hS hl ih41
  have hJ : j ≤ 4 ^ cn (hs n) 6 ∧ ∀ k, k < j → f (b / 64 ||| ux (hs n) k) &&& mw = 0 := hJ
  obtain ⟨hj, hno⟩ := hJ
  have h4 := p4cn (hs n)
  have hst := ux_lt64 hn j
  have hP : va_P X.1 classes [(h0, .inr (0, [.ref hw])), (hw, .inl (X.2 1, 64, .inr (.inl f)))] H := hP
  have hD : va_D A [(h0, .inr (0, [.ref hw])), (hw, .inl (X.2 1, 64, .inr (.inl f)))] := hD
  have hl : lv_has ls 10 [(0, .ref h0), (1, .int (nI (fo n 6))), (2, .int (nI b)), (3, .long mw), (5, .int (nI (b / 64))), (6, .int (nI (fo (hs n) 6))), (7, .int (nI (4 ^ cn (hs n) 6))), (8, .int (nI (ux (hs n) j))), (9, .int (nI j))] := hl
  refine lv_iload hx hb d_NS_hasRowWith_41 (lv_at hl 8 rfl) ?_
  refine lv_iload hx hb d_NS_hasRowWith_43 (lv_at hl 6 rfl) ?_
  refine lv_icmp_ge (tgt := 82) hx hb d_NS_hasRowWith_45 (by decide) (fun hc45 => ?_) (fun hc45 => ?_)
  · rw [nI_leI (by omega) (by omega)] at hc45
    refine lv_iconst (v := nI 0) hx hb d_NS_hasRowWith_82 (by decide) ?_
    exact retZ (u := ()) hx hb hr hlk (by decide) hP hD hS (by rw [hitNo hf hmw hn hb0 hbs (by omega) hno]; rfl) d_NS_hasRowWith_83
  · rw [nI_leI (by omega) (by omega)] at hc45
    refine lv_aload_n hx hb d_NS_hasRowWith_48 rfl (lv_at hl 0 rfl) ?_
    refine va_get (D := X.1) (ci := 0) (v := .ref hw) (C := R_NS) (T := F_NS) (N := 1) hx hb hg in_NS hown hE.1 hP 0 rfl rfl 0 (by decide) (hg _ m_32) (fun _ h9 => h9) rfl d_NS_hasRowWith_49 ?_
    refine lv_iload hx hb d_NS_hasRowWith_52 (lv_at hl 4 rfl) ?_
    refine lv_iload hx hb d_NS_hasRowWith_54 (lv_at hl 7 rfl) ?_
    refine lv_ior hx hb d_NS_hasRowWith_56 ?_
    refine topI (y := nI (b / 64 ||| ux (hs n) j)) (nx_or _ _) ?_
    have hor := or64 (show b / 64 < 64 by omega) hst
    refine va_lald hx hb hE.1 hP 1 1 rfl rfl (vp_in_nI hor (by decide)) d_NS_hasRowWith_57 ?_
    refine topL (y := f (b / 64 ||| ux (hs n) j)) (by rw [nI_clamp (by omega)]) ?_
    refine topL (y := f (b / 64 ||| ux (hs n) j)) (rfl) ?_
    refine lv_lload_n hx hb d_NS_hasRowWith_58 rfl (lv_at hl 3 rfl) ?_
    refine lv_land hx hb d_NS_hasRowWith_59 ?_
    refine lv_lconst (v := 0) hx hb d_NS_hasRowWith_60 (by decide) ?_
    refine W.lcmp hx hb d_NS_hasRowWith_61 ?_
    refine lv_if_eq (tgt := 67) hx hb d_NS_hasRowWith_62 (by decide) (fun hc62 => ?_) (fun hc62 => ?_)
    · rw [lcz] at hc62
      refine lv_iload hx hb d_NS_hasRowWith_67 (lv_at hl 5 rfl) ?_
      refine lv_iload hx hb d_NS_hasRowWith_69 (lv_at hl 7 rfl) ?_
      refine clSNI (n := 2) (As := [.int (nI (fo (hs n) 6)), .int (nI (ux (hs n) j))]) (rest := []) (wc := []) (wr := [(h0, .inr (0, [.ref hw])), (hw, .inl (X.2 1, 64, .inr (.inl f)))]) hx hb hml hown hg hE hA hP hD hS (k_CR_nextWithin l X (nI (fo (hs n) 6)) (nI (ux (hs n) j))) m_311 m_310 m_1 (nw_5 hE.2.1) (by decide +kernel) [] [0, 1] rfl rfl (by decide) (by decide) (by decide) rfl hl.1 (Nat.le_of_ble_eq_true rfl) rfl d_NS_hasRowWith_71 ⟨rfl, rfl, Nat.le_of_ble_eq_true rfl, Nat.le_of_ble_eq_true rfl⟩ (⟨Nat.le_of_ble_eq_true rfl, Nat.le_of_ble_eq_true rfl⟩) (fun r71 u71 H locs hq71 hP hD hS => ?_)
      have hq71 : r71 = (nI (ux (hs n) j) - nI (fo (hs n) 6)) &&& nI (fo (hs n) 6) := hq71
      subst hq71
      have hP : va_P X.1 classes [(h0, .inr (0, [.ref hw])), (hw, .inl (X.2 1, 64, .inr (.inl f)))] H := hP
      have hD : va_D A [(h0, .inr (0, [.ref hw])), (hw, .inl (X.2 1, 64, .inr (.inl f)))] := hD
      refine topI (y := nI (ux (hs n) (j + 1))) (ux_next (hs_lt n) (by omega)) ?_
      refine lv_istore hx hb d_NS_hasRowWith_74 hl (by decide) rfl (fun ls hl => ?_)
      have hl : lv_has ls 10 [(8, .int (nI (ux (hs n) (j + 1)))), (0, .ref h0), (1, .int (nI (fo n 6))), (2, .int (nI b)), (3, .long mw), (5, .int (nI (b / 64))), (6, .int (nI (fo (hs n) 6))), (7, .int (nI (4 ^ cn (hs n) 6))), (9, .int (nI j))] := hl
      refine lv_iinc (k := 8) (v := nI (j + 1)) hx hb d_NS_hasRowWith_76 hl rfl (nI_1 _) (by decide) rfl (fun ls hl => ?_)
      have hl : lv_has ls 10 [(9, .int (nI (j + 1))), (8, .int (nI (ux (hs n) (j + 1)))), (0, .ref h0), (1, .int (nI (fo n 6))), (2, .int (nI b)), (3, .long mw), (5, .int (nI (b / 64))), (6, .int (nI (fo (hs n) 6))), (7, .int (nI (4 ^ cn (hs n) 6)))] := hl
      refine lv_goto (tgt := 41) hx hb d_NS_hasRowWith_79 (by decide) ?_
      exact ih41 (j + 1) H locs ls (by (try dsimp only); omega) (⟨by (try dsimp only); omega, lt_s hno hc62⟩) hP hD hS (lv_sub hl [2, 3, 4, 5, 6, 7, 8, 1, 0] rfl)
    · rw [lcz] at hc62
      refine lv_iconst (v := nI 1) hx hb d_NS_hasRowWith_65 (by decide) ?_
      exact retZ (u := ()) hx hb hr hlk (by decide) hP hD hS (by rw [hitYes hf hmw hn hb0 hbs hc62]; rfl) d_NS_hasRowWith_66
set_option maxHeartbeats 4000000 in
set_option maxRecDepth 100000 in
theorem k_NS_isEmpty (l : Launch) (X : Cx) (h0 hw : Nat) (f : Nat → Int64) (S : Nat → Bool) (hf : RS f S) : CtI l X (TY X) y_NS_isEmpty cw_NS_isEmpty ({ frames := 3, cells := 0, slots := 0, locals := 74 } : Room) [.ref h0] [(h0, .inr (0, [.ref hw])), (hw, .inl (X.2 1, 64, .inr (.inl f)))] (S := Unit) (fun r _ => r = bI (!(anyR S 0 0))) (fun _ => [(h0, .inr (0, [.ref hw])), (hw, .inl (X.2 1, 64, .inr (.inl f)))]) 0 0 := by
  refine metI (by decide) (Nat.le_of_ble_eq_true rfl) ?_
  intro p e s m below meth c A ls hB hl
  obtain ⟨hx, hb, hr, hml, hown, hlk, hin, hg, hA, hD, hP, hE⟩ := hB
  have hS : va_S A s.heap s.heap [] := va_S.rf
  have hl : lv_has ls 1 [(0, .ref h0)] := hl
  refine lv_aload_n hx hb d_NS_isEmpty_0 rfl (lv_at hl 0 rfl) ?_
  refine lv_iconst (v := nI 0) hx hb d_NS_isEmpty_1 (by decide) ?_
  refine topI (y := nI (fo 0 6)) (by decide +kernel) ?_
  refine lv_iconst (v := nI 0) hx hb d_NS_isEmpty_2 (by decide) ?_
  refine clVI (n := 2) (As := [.int (nI (fo 0 6)), .int (nI 0)]) (rest := []) (wc := [(h0, .inr (0, [.ref hw])), (hw, .inl (X.2 1, 64, .inr (.inl f)))]) (wr := []) hx hb hml hown hg hE hA hP hD hS (k_NS_hasRowWith l X h0 hw f S hf 0 0 (by decide) (by decide) (Nat.zero_and _)) (gcons m_301 (gcons m_302 (gcons m_303 (gcons m_3 (gcons m_304 gG))))) (by decide +kernel) [0, 1] [] rfl rfl (by decide) (by decide) (by decide) 0 rfl rfl rfl hl.1 (Nat.le_of_ble_eq_true rfl) rfl d_NS_isEmpty_3 ⟨rfl, rfl, Nat.le_of_ble_eq_true rfl, Nat.le_of_ble_eq_true rfl⟩ (⟨Nat.le_of_ble_eq_true rfl, Nat.le_of_ble_eq_true rfl⟩) (fun r3 u3 H locs hq3 hP hD hS => ?_)
  have hq3 : r3 = bI (anyR S 0 0) := hq3
  subst hq3
  have hP : va_P X.1 classes [(h0, .inr (0, [.ref hw])), (hw, .inl (X.2 1, 64, .inr (.inl f)))] H := hP
  have hD : va_D A [(h0, .inr (0, [.ref hw])), (hw, .inl (X.2 1, 64, .inr (.inl f)))] := hD
  refine lv_if_ne (tgt := 13) hx hb d_NS_isEmpty_6 (by decide) (fun hc6 => ?_) (fun hc6 => ?_)
  · rw [bI_z] at hc6
    refine lv_iconst (v := nI 0) hx hb d_NS_isEmpty_13 (by decide) ?_
    exact retZ (u := ()) hx hb hr hlk (by decide) hP hD hS (by first | (rw [hc6]; rfl) | (rw [ts_nf hc6]; rfl)) d_NS_isEmpty_14
  · rw [bI_z] at hc6
    refine lv_iconst (v := nI 1) hx hb d_NS_isEmpty_9 (by decide) ?_
    refine lv_goto (tgt := 14) hx hb d_NS_isEmpty_10 (by decide) ?_
    exact retZ (u := ()) hx hb hr hlk (by decide) hP hD hS (by first | (rw [hc6]; rfl) | (rw [ts_nf hc6]; rfl)) d_NS_isEmpty_14
