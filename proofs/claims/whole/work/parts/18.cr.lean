set_option maxHeartbeats 4000000 in
set_option maxRecDepth 100000 in
theorem k_CR_end (l : Launch) (X : Cx) (x0 h0 hR t0 sa g0 ns : Nat) (on : Bool) : CtI l X (TY X) y_CR_end cw_CR_end ({ frames := 0, cells := 0, slots := 0, locals := 0 } : Room) [.ref x0] [(x0, .inr (5, [.ref h0, .ref hR, .ref t0, .ref sa, .ref g0, .int (nI ns), .int (bI on)]))] (S := Unit) (fun r _ => r = bI on) (fun _ => [(x0, .inr (5, [.ref h0, .ref hR, .ref t0, .ref sa, .ref g0, .int (nI ns), .int (bI false)]))]) 0 0 := by
  refine metI (by decide) (Nat.le_of_ble_eq_true rfl) ?_
  intro p e s m below meth c A ls hB hl
  obtain ⟨hx, hb, hr, hml, hown, hlk, hin, hg, hA, hD, hP, hE⟩ := hB
  have hS : va_S A s.heap s.heap [] := va_S.rf
  have hl : lv_has ls 2 [(0, .ref x0)] := hl
  refine lv_aload_n hx hb d_CR_end_0 rfl (lv_at hl 0 rfl) ?_
  refine va_get (D := X.1) (ci := 5) (v := .int (bI on)) (C := R_CR) (T := F_CR) (N := 7) hx hb hg in_CR hown hE.1 hP 0 rfl rfl 6 (by decide) (hg _ m_170) (fun _ h9 => h9) rfl d_CR_end_1 ?_
  refine lv_istore_n hx hb d_CR_end_4 rfl hl (by decide) rfl (fun ls hl => ?_)
  have hl : lv_has ls 2 [(1, .int (bI on)), (0, .ref x0)] := hl
  refine lv_aload_n hx hb d_CR_end_5 rfl (lv_at hl 1 rfl) ?_
  refine lv_iconst (v := nI 0) hx hb d_CR_end_6 (by decide) ?_
  refine va_put (D := X.1) (ci := 5) (v := .int (nI 0)) (ty := .boolean) (C := R_CR) (T := F_CR) (N := 7) hx hb hg in_CR t_CR t_CR_ok n_CR hown hE.1 hP hD hS 0 rfl rfl 6 (by decide) (hg _ m_170) (fun _ h9 => h9) rfl (by decide +kernel) rfl rfl (Nat.le_of_ble_eq_true rfl) d_CR_end_7 (fun H locs hP hD hS => ?_)
  have hP : va_P X.1 classes [(x0, .inr (5, [.ref h0, .ref hR, .ref t0, .ref sa, .ref g0, .int (nI ns), .int (nI 0)]))] H := hP
  have hD : va_D A [(x0, .inr (5, [.ref h0, .ref hR, .ref t0, .ref sa, .ref g0, .int (nI ns), .int (nI 0)]))] := hD
  refine lv_iload_n hx hb d_CR_end_10 rfl (lv_at hl 0 rfl) ?_
  exact retZ (u := ()) hx hb hr hlk (bI_01 _) hP hD hS (rfl) d_CR_end_11
set_option maxHeartbeats 4000000 in
set_option maxRecDepth 100000 in
theorem k_CR_rows (l : Launch) (X : Cx) (x0 h0 t0 sa g0 ns : Nat) (on : Bool) (hR gc gg gn gt tk : Nat) (gl : Int32) : CtI l X (TY X) y_CR_rows cw_CR_rows ({ frames := 0, cells := 0, slots := 0, locals := 0 } : Room) [.ref x0] [(x0, .inr (5, [.ref h0, .ref hR, .ref t0, .ref sa, .ref g0, .int (nI ns), .int (bI on)])), (g0, .inr (4, [.ref h0, .ref hR, .ref gc, .ref gg, .ref gn, .ref gt, .int (nI tk), .int gl]))] (S := Unit) (fun r _ => r = (bif on then nI tk else nI 0)) (fun _ => [(x0, .inr (5, [.ref h0, .ref hR, .ref t0, .ref sa, .ref g0, .int (nI ns), .int (bI on)])), (g0, .inr (4, [.ref h0, .ref hR, .ref gc, .ref gg, .ref gn, .ref gt, .int (nI tk), .int gl]))]) 0 0 := by
  refine metI (by decide) (Nat.le_of_ble_eq_true rfl) ?_
  intro p e s m below meth c A ls hB hl
  obtain ⟨hx, hb, hr, hml, hown, hlk, hin, hg, hA, hD, hP, hE⟩ := hB
  have hS : va_S A s.heap s.heap [] := va_S.rf
  have hl : lv_has ls 1 [(0, .ref x0)] := hl
  refine lv_aload_n hx hb d_CR_rows_0 rfl (lv_at hl 0 rfl) ?_
  refine va_get (D := X.1) (ci := 5) (v := .int (bI on)) (C := R_CR) (T := F_CR) (N := 7) hx hb hg in_CR hown hE.1 hP 0 rfl rfl 6 (by decide) (hg _ m_170) (fun _ h9 => h9) rfl d_CR_rows_1 ?_
  refine lv_if_eq (tgt := 17) hx hb d_CR_rows_4 (by decide) (fun hc4 => ?_) (fun hc4 => ?_)
  · rw [bI_z] at hc4
    refine lv_iconst (v := nI 0) hx hb d_CR_rows_17 (by decide) ?_
    exact retI (u := ()) hx hb hr hlk hP hD hS (by rw [hc4]; rfl) d_CR_rows_18
  · rw [bI_z] at hc4
    refine lv_aload_n hx hb d_CR_rows_7 rfl (lv_at hl 0 rfl) ?_
    refine va_get (D := X.1) (ci := 5) (v := .ref g0) (C := R_CR) (T := F_CR) (N := 7) hx hb hg in_CR hown hE.1 hP 0 rfl rfl 4 (by decide) (hg _ m_168) (fun _ h9 => h9) rfl d_CR_rows_8 ?_
    refine va_get (D := X.1) (ci := 4) (v := .int (nI tk)) (C := R_Ge) (T := F_Ge) (N := 8) hx hb hg in_Ge hown hE.1 hP 1 rfl rfl 6 (by decide) (hg _ m_144) (fun _ h9 => h9) rfl d_CR_rows_11 ?_
    refine lv_goto (tgt := 18) hx hb d_CR_rows_14 (by decide) ?_
    exact retI (u := ()) hx hb hr hlk hP hD hS (by rw [ts_nf hc4]; rfl) d_CR_rows_18
set_option maxHeartbeats 4000000 in
set_option maxRecDepth 100000 in
theorem k_CR_left (l : Launch) (X : Cx) (x0 h0 t0 sa g0 ns : Nat) (on : Bool) (hR gc gg gn gt tk : Nat) (gl : Int32) : CtI l X (TY X) y_CR_left cw_CR_left ({ frames := 0, cells := 0, slots := 0, locals := 0 } : Room) [.ref x0] [(x0, .inr (5, [.ref h0, .ref hR, .ref t0, .ref sa, .ref g0, .int (nI ns), .int (bI on)])), (g0, .inr (4, [.ref h0, .ref hR, .ref gc, .ref gg, .ref gn, .ref gt, .int (nI tk), .int gl]))] (S := Unit) (fun r _ => r = (bif on then gl else -1)) (fun _ => [(x0, .inr (5, [.ref h0, .ref hR, .ref t0, .ref sa, .ref g0, .int (nI ns), .int (bI on)])), (g0, .inr (4, [.ref h0, .ref hR, .ref gc, .ref gg, .ref gn, .ref gt, .int (nI tk), .int gl]))]) 0 0 := by
  refine metI (by decide) (Nat.le_of_ble_eq_true rfl) ?_
  intro p e s m below meth c A ls hB hl
  obtain ⟨hx, hb, hr, hml, hown, hlk, hin, hg, hA, hD, hP, hE⟩ := hB
  have hS : va_S A s.heap s.heap [] := va_S.rf
  have hl : lv_has ls 1 [(0, .ref x0)] := hl
  refine lv_aload_n hx hb d_CR_left_0 rfl (lv_at hl 0 rfl) ?_
  refine va_get (D := X.1) (ci := 5) (v := .int (bI on)) (C := R_CR) (T := F_CR) (N := 7) hx hb hg in_CR hown hE.1 hP 0 rfl rfl 6 (by decide) (hg _ m_170) (fun _ h9 => h9) rfl d_CR_left_1 ?_
  refine lv_if_eq (tgt := 17) hx hb d_CR_left_4 (by decide) (fun hc4 => ?_) (fun hc4 => ?_)
  · rw [bI_z] at hc4
    refine lv_iconst (v := (-1)) hx hb d_CR_left_17 (by decide) ?_
    exact retI (u := ()) hx hb hr hlk hP hD hS (by rw [hc4]; rfl) d_CR_left_18
  · rw [bI_z] at hc4
    refine lv_aload_n hx hb d_CR_left_7 rfl (lv_at hl 0 rfl) ?_
    refine va_get (D := X.1) (ci := 5) (v := .ref g0) (C := R_CR) (T := F_CR) (N := 7) hx hb hg in_CR hown hE.1 hP 0 rfl rfl 4 (by decide) (hg _ m_168) (fun _ h9 => h9) rfl d_CR_left_8 ?_
    refine va_get (D := X.1) (ci := 4) (v := .int gl) (C := R_Ge) (T := F_Ge) (N := 8) hx hb hg in_Ge hown hE.1 hP 1 rfl rfl 7 (by decide) (hg _ m_146) (fun _ h9 => h9) rfl d_CR_left_11 ?_
    refine lv_goto (tgt := 18) hx hb d_CR_left_14 (by decide) ?_
    exact retI (u := ()) hx hb hr hlk hP hD hS (by rw [ts_nf hc4]; rfl) d_CR_left_18
set_option maxHeartbeats 4000000 in
set_option maxRecDepth 100000 in
theorem k_CR_isTaken (l : Launch) (X : Cx) (x0 h0 t0 sa g0 ns : Nat) (on : Bool) (hR gc gg gn gt tk : Nat) (gl : Int32) (x : Int32) : CtI l X (TY X) y_CR_isTaken cw_CR_isTaken ({ frames := 0, cells := 0, slots := 0, locals := 0 } : Room) [.ref x0, .int x] [(x0, .inr (5, [.ref h0, .ref hR, .ref t0, .ref sa, .ref g0, .int (nI ns), .int (bI on)])), (g0, .inr (4, [.ref h0, .ref hR, .ref gc, .ref gg, .ref gn, .ref gt, .int (nI tk), .int gl]))] (S := Unit) (fun r _ => r = bI (itB on tk x)) (fun _ => [(x0, .inr (5, [.ref h0, .ref hR, .ref t0, .ref sa, .ref g0, .int (nI ns), .int (bI on)])), (g0, .inr (4, [.ref h0, .ref hR, .ref gc, .ref gg, .ref gn, .ref gt, .int (nI tk), .int gl]))]) 0 0 := by
  refine metI (by decide) (Nat.le_of_ble_eq_true rfl) ?_
  intro p e s m below meth c A ls hB hl
  obtain ⟨hx, hb, hr, hml, hown, hlk, hin, hg, hA, hD, hP, hE⟩ := hB
  have hS : va_S A s.heap s.heap [] := va_S.rf
  have hl : lv_has ls 2 [(0, .ref x0), (1, .int x)] := hl
  refine lv_aload_n hx hb d_CR_isTaken_0 rfl (lv_at hl 0 rfl) ?_
  refine va_get (D := X.1) (ci := 5) (v := .int (bI on)) (C := R_CR) (T := F_CR) (N := 7) hx hb hg in_CR hown hE.1 hP 0 rfl rfl 6 (by decide) (hg _ m_170) (fun _ h9 => h9) rfl d_CR_isTaken_1 ?_
  refine lv_if_eq (tgt := 26) hx hb d_CR_isTaken_4 (by decide) (fun hc4 => ?_) (fun hc4 => ?_)
  · rw [bI_z] at hc4
    refine lv_iconst (v := nI 0) hx hb d_CR_isTaken_26 (by decide) ?_
    exact retZ (u := ()) hx hb hr hlk (by decide) hP hD hS (by first | exact it_a hc4 | exact it_b hc8 | exact it_c hc19) d_CR_isTaken_27
  · rw [bI_z] at hc4
    refine lv_iload_n hx hb d_CR_isTaken_7 rfl (lv_at hl 1 rfl) ?_
    refine lv_if_lt (tgt := 26) hx hb d_CR_isTaken_8 (by decide) (fun hc8 => ?_) (fun hc8 => ?_)
    · refine lv_iconst (v := nI 0) hx hb d_CR_isTaken_26 (by decide) ?_
      exact retZ (u := ()) hx hb hr hlk (by decide) hP hD hS (by first | exact it_a hc4 | exact it_b hc8 | exact it_c hc19) d_CR_isTaken_27
    · refine lv_iload_n hx hb d_CR_isTaken_11 rfl (lv_at hl 1 rfl) ?_
      refine lv_aload_n hx hb d_CR_isTaken_12 rfl (lv_at hl 0 rfl) ?_
      refine va_get (D := X.1) (ci := 5) (v := .ref g0) (C := R_CR) (T := F_CR) (N := 7) hx hb hg in_CR hown hE.1 hP 0 rfl rfl 4 (by decide) (hg _ m_168) (fun _ h9 => h9) rfl d_CR_isTaken_13 ?_
      refine va_get (D := X.1) (ci := 4) (v := .int (nI tk)) (C := R_Ge) (T := F_Ge) (N := 8) hx hb hg in_Ge hown hE.1 hP 1 rfl rfl 6 (by decide) (hg _ m_144) (fun _ h9 => h9) rfl d_CR_isTaken_16 ?_
      refine lv_icmp_ge (tgt := 26) hx hb d_CR_isTaken_19 (by decide) (fun hc19 => ?_) (fun hc19 => ?_)
      · refine lv_iconst (v := nI 0) hx hb d_CR_isTaken_26 (by decide) ?_
        exact retZ (u := ()) hx hb hr hlk (by decide) hP hD hS (by first | exact it_a hc4 | exact it_b hc8 | exact it_c hc19) d_CR_isTaken_27
      · refine lv_iconst (v := nI 1) hx hb d_CR_isTaken_22 (by decide) ?_
        refine lv_goto (tgt := 27) hx hb d_CR_isTaken_23 (by decide) ?_
        exact retZ (u := ()) hx hb hr hlk (by decide) hP hD hS (it_1 hc4 hc8 hc19) d_CR_isTaken_27
set_option maxHeartbeats 4000000 in
set_option maxRecDepth 100000 in
theorem k_CR_row (l : Launch) (X : Cx) (x0 h0 t0 sa g0 ns : Nat) (on : Bool) (hR gc gg gn gt tk : Nat) (gl : Int32) (htk : tk ≤ 520) (rws : Nat → Nat) (x : Int32) : CtI l X (TY X) y_CR_row cw_CR_row ({ frames := 1, cells := 0, slots := 0, locals := 21 } : Room) [.ref x0, .int x] [(x0, .inr (5, [.ref h0, .ref hR, .ref t0, .ref sa, .ref g0, .int (nI ns), .int (bI on)])), (g0, .inr (4, [.ref h0, .ref hR, .ref gc, .ref gg, .ref gn, .ref gt, .int (nI tk), .int gl])), (gn, .inl (X.2 0, 520, .inl (ia rws)))] (S := Unit) (fun r _ => r = (bif itB on tk x then nI (rws x.toNatClampNeg) else -1)) (fun _ => [(x0, .inr (5, [.ref h0, .ref hR, .ref t0, .ref sa, .ref g0, .int (nI ns), .int (bI on)])), (g0, .inr (4, [.ref h0, .ref hR, .ref gc, .ref gg, .ref gn, .ref gt, .int (nI tk), .int gl])), (gn, .inl (X.2 0, 520, .inl (ia rws)))]) 0 0 := by
  refine metI (by decide) (Nat.le_of_ble_eq_true rfl) ?_
  intro p e s m below meth c A ls hB hl
  obtain ⟨hx, hb, hr, hml, hown, hlk, hin, hg, hA, hD, hP, hE⟩ := hB
  have hS : va_S A s.heap s.heap [] := va_S.rf
  have hl : lv_has ls 2 [(0, .ref x0), (1, .int x)] := hl
  refine lv_aload_n hx hb d_CR_row_0 rfl (lv_at hl 0 rfl) ?_
  refine lv_iload_n hx hb d_CR_row_1 rfl (lv_at hl 1 rfl) ?_
  refine clVI (n := 1) (As := [.int x]) (rest := []) (wc := [(x0, .inr (5, [.ref h0, .ref hR, .ref t0, .ref sa, .ref g0, .int (nI ns), .int (bI on)])), (g0, .inr (4, [.ref h0, .ref hR, .ref gc, .ref gg, .ref gn, .ref gt, .int (nI tk), .int gl]))]) (wr := [(gn, .inl (X.2 0, 520, .inl (ia rws)))]) hx hb hml hown hg hE hA hP hD hS (k_CR_isTaken l X x0 h0 t0 sa g0 ns on hR gc gg gn gt tk gl x) (gcons m_427 (gcons m_429 (gcons ms_CR_isTaken (gcons m_1 (gcons m_430 gG))))) (by decide +kernel) [0, 1] [2] rfl rfl (by decide) (by decide) (by decide) 0 rfl rfl rfl hl.1 (Nat.le_of_ble_eq_true rfl) rfl d_CR_row_2 ⟨rfl, rfl, Nat.le_of_ble_eq_true rfl, Nat.le_of_ble_eq_true rfl⟩ (⟨Nat.le_of_ble_eq_true rfl, Nat.le_of_ble_eq_true rfl⟩) (fun r2 u2 H locs hq2 hP hD hS => ?_)
  have hq2 : r2 = bI (itB on tk x) := hq2
  subst hq2
  have hP := hP.sub (ws' := [(x0, .inr (5, [.ref h0, .ref hR, .ref t0, .ref sa, .ref g0, .int (nI ns), .int (bI on)])), (g0, .inr (4, [.ref h0, .ref hR, .ref gc, .ref gg, .ref gn, .ref gt, .int (nI tk), .int gl])), (gn, .inl (X.2 0, 520, .inl (ia rws)))]) [1, 2, 0] rfl
  have hD := hD.sub (ws' := [(x0, .inr (5, [.ref h0, .ref hR, .ref t0, .ref sa, .ref g0, .int (nI ns), .int (bI on)])), (g0, .inr (4, [.ref h0, .ref hR, .ref gc, .ref gg, .ref gn, .ref gt, .int (nI tk), .int gl])), (gn, .inl (X.2 0, 520, .inl (ia rws)))]) [1, 2, 0] (by decide) rfl
  refine lv_if_eq (tgt := 20) hx hb d_CR_row_5 (by decide) (fun hc5 => ?_) (fun hc5 => ?_)
  · rw [bI_z] at hc5
    refine lv_iconst (v := (-1)) hx hb d_CR_row_20 (by decide) ?_
    exact retI (u := ()) hx hb hr hlk hP hD hS (by rw [hc5]; rfl) d_CR_row_21
  · rw [bI_z] at hc5
    refine lv_aload_n hx hb d_CR_row_8 rfl (lv_at hl 0 rfl) ?_
    refine va_get (D := X.1) (ci := 5) (v := .ref g0) (C := R_CR) (T := F_CR) (N := 7) hx hb hg in_CR hown hE.1 hP 0 rfl rfl 4 (by decide) (hg _ m_168) (fun _ h9 => h9) rfl d_CR_row_9 ?_
    refine va_get (D := X.1) (ci := 4) (v := .ref gn) (C := R_Ge) (T := F_Ge) (N := 8) hx hb hg in_Ge hown hE.1 hP 1 rfl rfl 4 (by decide) (hg _ m_140) (fun _ h9 => h9) rfl d_CR_row_12 ?_
    refine lv_iload_n hx hb d_CR_row_15 rfl (lv_at hl 1 rfl) ?_
    have hit := ts_nf hc5
    obtain ⟨i, hi, rfl⟩ := it_of (by omega) hc5
    refine va_iald hx hb hE.1 hP 2 0 rfl rfl (vp_in_nI (by omega) (by decide)) d_CR_row_16 ?_
    refine topI (y := (ia rws) i) (by rw [nI_clamp (by omega)]) ?_
    refine topI (y := nI (rws i)) (rfl) ?_
    refine lv_goto (tgt := 21) hx hb d_CR_row_17 (by decide) ?_
    exact retI (u := ()) hx hb hr hlk hP hD hS (by rw [hit, nI_clamp (by omega)]; rfl) d_CR_row_21
set_option maxHeartbeats 4000000 in
set_option maxRecDepth 100000 in
theorem k_CR_gained (l : Launch) (X : Cx) (x0 h0 t0 sa g0 ns : Nat) (on : Bool) (hR gc gg gn gt tk : Nat) (gl : Int32) (htk : tk ≤ 520) (gds : Nat → Nat) (x : Int32) : CtI l X (TY X) y_CR_gained cw_CR_gained ({ frames := 1, cells := 0, slots := 0, locals := 21 } : Room) [.ref x0, .int x] [(x0, .inr (5, [.ref h0, .ref hR, .ref t0, .ref sa, .ref g0, .int (nI ns), .int (bI on)])), (g0, .inr (4, [.ref h0, .ref hR, .ref gc, .ref gg, .ref gn, .ref gt, .int (nI tk), .int gl])), (gt, .inl (X.2 0, 520, .inl (ia gds)))] (S := Unit) (fun r _ => r = (bif itB on tk x then nI (gds x.toNatClampNeg) else -1)) (fun _ => [(x0, .inr (5, [.ref h0, .ref hR, .ref t0, .ref sa, .ref g0, .int (nI ns), .int (bI on)])), (g0, .inr (4, [.ref h0, .ref hR, .ref gc, .ref gg, .ref gn, .ref gt, .int (nI tk), .int gl])), (gt, .inl (X.2 0, 520, .inl (ia gds)))]) 0 0 := by
  refine metI (by decide) (Nat.le_of_ble_eq_true rfl) ?_
  intro p e s m below meth c A ls hB hl
  obtain ⟨hx, hb, hr, hml, hown, hlk, hin, hg, hA, hD, hP, hE⟩ := hB
  have hS : va_S A s.heap s.heap [] := va_S.rf
  have hl : lv_has ls 2 [(0, .ref x0), (1, .int x)] := hl
  refine lv_aload_n hx hb d_CR_gained_0 rfl (lv_at hl 0 rfl) ?_
  refine lv_iload_n hx hb d_CR_gained_1 rfl (lv_at hl 1 rfl) ?_
  refine clVI (n := 1) (As := [.int x]) (rest := []) (wc := [(x0, .inr (5, [.ref h0, .ref hR, .ref t0, .ref sa, .ref g0, .int (nI ns), .int (bI on)])), (g0, .inr (4, [.ref h0, .ref hR, .ref gc, .ref gg, .ref gn, .ref gt, .int (nI tk), .int gl]))]) (wr := [(gt, .inl (X.2 0, 520, .inl (ia gds)))]) hx hb hml hown hg hE hA hP hD hS (k_CR_isTaken l X x0 h0 t0 sa g0 ns on hR gc gg gn gt tk gl x) (gcons m_427 (gcons m_429 (gcons ms_CR_isTaken (gcons m_1 (gcons m_430 gG))))) (by decide +kernel) [0, 1] [2] rfl rfl (by decide) (by decide) (by decide) 0 rfl rfl rfl hl.1 (Nat.le_of_ble_eq_true rfl) rfl d_CR_gained_2 ⟨rfl, rfl, Nat.le_of_ble_eq_true rfl, Nat.le_of_ble_eq_true rfl⟩ (⟨Nat.le_of_ble_eq_true rfl, Nat.le_of_ble_eq_true rfl⟩) (fun r2 u2 H locs hq2 hP hD hS => ?_)
  have hq2 : r2 = bI (itB on tk x) := hq2
  subst hq2
  have hP := hP.sub (ws' := [(x0, .inr (5, [.ref h0, .ref hR, .ref t0, .ref sa, .ref g0, .int (nI ns), .int (bI on)])), (g0, .inr (4, [.ref h0, .ref hR, .ref gc, .ref gg, .ref gn, .ref gt, .int (nI tk), .int gl])), (gt, .inl (X.2 0, 520, .inl (ia gds)))]) [1, 2, 0] rfl
  have hD := hD.sub (ws' := [(x0, .inr (5, [.ref h0, .ref hR, .ref t0, .ref sa, .ref g0, .int (nI ns), .int (bI on)])), (g0, .inr (4, [.ref h0, .ref hR, .ref gc, .ref gg, .ref gn, .ref gt, .int (nI tk), .int gl])), (gt, .inl (X.2 0, 520, .inl (ia gds)))]) [1, 2, 0] (by decide) rfl
  refine lv_if_eq (tgt := 20) hx hb d_CR_gained_5 (by decide) (fun hc5 => ?_) (fun hc5 => ?_)
  · rw [bI_z] at hc5
    refine lv_iconst (v := (-1)) hx hb d_CR_gained_20 (by decide) ?_
    exact retI (u := ()) hx hb hr hlk hP hD hS (by rw [hc5]; rfl) d_CR_gained_21
  · rw [bI_z] at hc5
    refine lv_aload_n hx hb d_CR_gained_8 rfl (lv_at hl 0 rfl) ?_
    refine va_get (D := X.1) (ci := 5) (v := .ref g0) (C := R_CR) (T := F_CR) (N := 7) hx hb hg in_CR hown hE.1 hP 0 rfl rfl 4 (by decide) (hg _ m_168) (fun _ h9 => h9) rfl d_CR_gained_9 ?_
    refine va_get (D := X.1) (ci := 4) (v := .ref gt) (C := R_Ge) (T := F_Ge) (N := 8) hx hb hg in_Ge hown hE.1 hP 1 rfl rfl 5 (by decide) (hg _ m_142) (fun _ h9 => h9) rfl d_CR_gained_12 ?_
    refine lv_iload_n hx hb d_CR_gained_15 rfl (lv_at hl 1 rfl) ?_
    have hit := ts_nf hc5
    obtain ⟨i, hi, rfl⟩ := it_of (by omega) hc5
    refine va_iald hx hb hE.1 hP 2 0 rfl rfl (vp_in_nI (by omega) (by decide)) d_CR_gained_16 ?_
    refine topI (y := (ia gds) i) (by rw [nI_clamp (by omega)]) ?_
    refine topI (y := nI (gds i)) (rfl) ?_
    refine lv_goto (tgt := 21) hx hb d_CR_gained_17 (by decide) ?_
    exact retI (u := ()) hx hb hr hlk hP hD hS (by rw [hit, nI_clamp (by omega)]; rfl) d_CR_gained_21
set_option maxHeartbeats 4000000 in
set_option maxRecDepth 100000 in
theorem k_CR_kind (l : Launch) (X : Cx) (h0 hv hi hM hV hN : Nat) (P nr : Nat) (vl iv : Nat → Nat) (wM wV wN : Nat) (fM fV fN : Nat → Int64) (VS NSs : Nat → Bool) (hfV : RS fV VS) (hfN : RS fN NSs) (x0 hR t0 sa g0 ns : Nat) (on : Bool) (hP6 : P ≤ 6) (hvl : ∀ p, p < 6 → 1 ≤ vl p ∧ vl p ≤ 4) (hv1 : ∀ p, P ≤ p → p < 6 → vl p = 1) (x : Int32) : CtI l X (TY X) y_CR_kind cw_CR_kind ({ frames := 3, cells := 0, slots := 0, locals := 64 } : Room) [.ref x0, .int x] [(x0, .inr (5, [.ref h0, .ref hR, .ref t0, .ref sa, .ref g0, .int (nI ns), .int (bI on)])), (h0, .inr (2, [.ref hv, .ref hi, .ref hM, .ref hV, .ref hN, .int (nI P), .int (nI nr)])), (hv, .inl (X.2 0, 6, .inl (ia vl))), (hV, .inr (0, [.ref wV])), (wV, .inl (X.2 1, 64, .inr (.inl fV))), (hN, .inr (0, [.ref wN])), (wN, .inl (X.2 1, 64, .inr (.inl fN)))] (S := Unit) (fun r _ => r = knA P vl VS NSs x) (fun _ => [(x0, .inr (5, [.ref h0, .ref hR, .ref t0, .ref sa, .ref g0, .int (nI ns), .int (bI on)])), (h0, .inr (2, [.ref hv, .ref hi, .ref hM, .ref hV, .ref hN, .int (nI P), .int (nI nr)])), (hv, .inl (X.2 0, 6, .inl (ia vl))), (hV, .inr (0, [.ref wV])), (wV, .inl (X.2 1, 64, .inr (.inl fV))), (hN, .inr (0, [.ref wN])), (wN, .inl (X.2 1, 64, .inr (.inl fN)))]) 0 0 := by
  refine metI (by decide) (Nat.le_of_ble_eq_true rfl) ?_
  intro p e s m below meth c A ls hB hl
  obtain ⟨hx, hb, hr, hml, hown, hlk, hin, hg, hA, hD, hP, hE⟩ := hB
  have hS : va_S A s.heap s.heap [] := va_S.rf
  have hl : lv_has ls 2 [(0, .ref x0), (1, .int x)] := hl
  refine lv_aload_n hx hb d_CR_kind_0 rfl (lv_at hl 0 rfl) ?_
  refine va_get (D := X.1) (ci := 5) (v := .ref h0) (C := R_CR) (T := F_CR) (N := 7) hx hb hg in_CR hown hE.1 hP 0 rfl rfl 0 (by decide) (hg _ m_164) (fun _ h9 => h9) rfl d_CR_kind_1 ?_
  refine va_get (D := X.1) (ci := 2) (v := .int (nI P)) (C := R_Sp) (T := F_Sp) (N := 7) hx hb hg in_Sp hown hE.1 hP 1 rfl rfl 5 (by decide) (hg _ m_76) (fun _ h9 => h9) rfl d_CR_kind_4 ?_
  refine lv_if_ne (tgt := 14) hx hb d_CR_kind_7 (by decide) (fun hc7 => ?_) (fun hc7 => ?_)
  · rw [n_z (by omega)] at hc7
    refine lv_aload_n hx hb d_CR_kind_14 rfl (lv_at hl 0 rfl) ?_
    refine va_get (D := X.1) (ci := 5) (v := .ref h0) (C := R_CR) (T := F_CR) (N := 7) hx hb hg in_CR hown hE.1 hP 0 rfl rfl 0 (by decide) (hg _ m_164) (fun _ h9 => h9) rfl d_CR_kind_15 ?_
    refine lv_iload_n hx hb d_CR_kind_18 rfl (lv_at hl 1 rfl) ?_
    refine clVI (n := 1) (As := [.int x]) (rest := []) (wc := [(h0, .inr (2, [.ref hv, .ref hi, .ref hM, .ref hV, .ref hN, .int (nI P), .int (nI nr)])), (hv, .inl (X.2 0, 6, .inl (ia vl))), (hV, .inr (0, [.ref wV])), (wV, .inl (X.2 1, 64, .inr (.inl fV))), (hN, .inr (0, [.ref wN])), (wN, .inl (X.2 1, 64, .inr (.inl fN)))]) (wr := [(x0, .inr (5, [.ref h0, .ref hR, .ref t0, .ref sa, .ref g0, .int (nI ns), .int (bI on)]))]) hx hb hml hown hg hE hA hP hD hS (k_Sp_rank l X h0 hv hi hM hV hN P nr vl iv wM wV wN fM fV fN hP6 hvl hv1 VS NSs hfV hfN x) (gcons m_374 (gcons m_375 (gcons m_376 (gcons m_2 (gcons m_377 gG))))) (by decide +kernel) [1, 2, 3, 4, 5, 6] [0] rfl rfl (by decide) (by decide) (by decide) 0 rfl rfl rfl hl.1 (Nat.le_of_ble_eq_true rfl) rfl d_CR_kind_19 ⟨rfl, rfl, Nat.le_of_ble_eq_true rfl, Nat.le_of_ble_eq_true rfl⟩ (⟨Nat.le_of_ble_eq_true rfl, Nat.le_of_ble_eq_true rfl⟩) (fun r19 u19 H locs hq19 hP hD hS => ?_)
    have hq19 : r19 = rkF vl VS NSs x := hq19
    subst hq19
    have hP : va_P X.1 classes [(x0, .inr (5, [.ref h0, .ref hR, .ref t0, .ref sa, .ref g0, .int (nI ns), .int (bI on)])), (h0, .inr (2, [.ref hv, .ref hi, .ref hM, .ref hV, .ref hN, .int (nI P), .int (nI nr)])), (hv, .inl (X.2 0, 6, .inl (ia vl))), (hV, .inr (0, [.ref wV])), (wV, .inl (X.2 1, 64, .inr (.inl fV))), (hN, .inr (0, [.ref wN])), (wN, .inl (X.2 1, 64, .inr (.inl fN)))] H := hP
    have hD : va_D A [(x0, .inr (5, [.ref h0, .ref hR, .ref t0, .ref sa, .ref g0, .int (nI ns), .int (bI on)])), (h0, .inr (2, [.ref hv, .ref hi, .ref hM, .ref hV, .ref hN, .int (nI P), .int (nI nr)])), (hv, .inl (X.2 0, 6, .inl (ia vl))), (hV, .inr (0, [.ref wV])), (wV, .inl (X.2 1, 64, .inr (.inl fV))), (hN, .inr (0, [.ref wN])), (wN, .inl (X.2 1, 64, .inr (.inl fN)))] := hD
    exact retI (u := ()) hx hb hr hlk hP hD hS (by unfold knA; rw [beq_false_of_ne hc7]; rfl) d_CR_kind_22
  · rw [n_z (by omega)] at hc7
    refine lv_iconst (v := (-1)) hx hb d_CR_kind_10 (by decide) ?_
    refine lv_goto (tgt := 22) hx hb d_CR_kind_11 (by decide) ?_
    exact retI (u := ()) hx hb hr hlk hP hD hS (by unfold knA; rw [hc7]; rfl) d_CR_kind_22
set_option maxHeartbeats 4000000 in
set_option maxRecDepth 100000 in
theorem k_CR_gain (l : Launch) (X : Cx) (h0 hv hi hM hV hN : Nat) (P nr : Nat) (vl iv : Nat → Nat) (wM wV wN : Nat) (fM fV fN : Nat → Int64) (VS NSs : Nat → Bool) (hfV : RS fV VS) (hfN : RS fN NSs) (x0 t0 sa ns : Nat) (on : Bool) (g0 hR gc gg gn gt tk : Nat) (gl : Int32) (hP6 : P ≤ 6) (hvl : ∀ p, p < 6 → 1 ≤ vl p ∧ vl p ≤ 4) (hv1 : ∀ p, P ≤ p → p < 6 → vl p = 1) (gs : Nat → Nat) (x : Int32) : CtI l X (TY X) y_CR_gain cw_CR_gain ({ frames := 3, cells := 0, slots := 0, locals := 64 } : Room) [.ref x0, .int x] [(x0, .inr (5, [.ref h0, .ref hR, .ref t0, .ref sa, .ref g0, .int (nI ns), .int (bI on)])), (h0, .inr (2, [.ref hv, .ref hi, .ref hM, .ref hV, .ref hN, .int (nI P), .int (nI nr)])), (hv, .inl (X.2 0, 6, .inl (ia vl))), (hV, .inr (0, [.ref wV])), (wV, .inl (X.2 1, 64, .inr (.inl fV))), (hN, .inr (0, [.ref wN])), (wN, .inl (X.2 1, 64, .inr (.inl fN))), (g0, .inr (4, [.ref h0, .ref hR, .ref gc, .ref gg, .ref gn, .ref gt, .int (nI tk), .int gl])), (gg, .inl (X.2 0, 4096, .inl (ia gs)))] (S := Unit) (fun r _ => r = gaA on vl VS NSs gs x) (fun _ => [(x0, .inr (5, [.ref h0, .ref hR, .ref t0, .ref sa, .ref g0, .int (nI ns), .int (bI on)])), (h0, .inr (2, [.ref hv, .ref hi, .ref hM, .ref hV, .ref hN, .int (nI P), .int (nI nr)])), (hv, .inl (X.2 0, 6, .inl (ia vl))), (hV, .inr (0, [.ref wV])), (wV, .inl (X.2 1, 64, .inr (.inl fV))), (hN, .inr (0, [.ref wN])), (wN, .inl (X.2 1, 64, .inr (.inl fN))), (g0, .inr (4, [.ref h0, .ref hR, .ref gc, .ref gg, .ref gn, .ref gt, .int (nI tk), .int gl])), (gg, .inl (X.2 0, 4096, .inl (ia gs)))]) 0 0 := by
  refine metI (by decide) (Nat.le_of_ble_eq_true rfl) ?_
  intro p e s m below meth c A ls hB hl
  obtain ⟨hx, hb, hr, hml, hown, hlk, hin, hg, hA, hD, hP, hE⟩ := hB
  have hS : va_S A s.heap s.heap [] := va_S.rf
  have hl : lv_has ls 2 [(0, .ref x0), (1, .int x)] := hl
  refine lv_aload_n hx hb d_CR_gain_0 rfl (lv_at hl 0 rfl) ?_
  refine va_get (D := X.1) (ci := 5) (v := .int (bI on)) (C := R_CR) (T := F_CR) (N := 7) hx hb hg in_CR hown hE.1 hP 0 rfl rfl 6 (by decide) (hg _ m_170) (fun _ h9 => h9) rfl d_CR_gain_1 ?_
  refine lv_if_ne (tgt := 9) hx hb d_CR_gain_4 (by decide) (fun hc4 => ?_) (fun hc4 => ?_)
  · rw [bI_z] at hc4
    refine lv_aload_n hx hb d_CR_gain_9 rfl (lv_at hl 0 rfl) ?_
    refine va_get (D := X.1) (ci := 5) (v := .ref h0) (C := R_CR) (T := F_CR) (N := 7) hx hb hg in_CR hown hE.1 hP 0 rfl rfl 0 (by decide) (hg _ m_164) (fun _ h9 => h9) rfl d_CR_gain_10 ?_
    refine lv_iload_n hx hb d_CR_gain_13 rfl (lv_at hl 1 rfl) ?_
    refine clVI (n := 1) (As := [.int x]) (rest := []) (wc := [(h0, .inr (2, [.ref hv, .ref hi, .ref hM, .ref hV, .ref hN, .int (nI P), .int (nI nr)])), (hv, .inl (X.2 0, 6, .inl (ia vl))), (hV, .inr (0, [.ref wV])), (wV, .inl (X.2 1, 64, .inr (.inl fV))), (hN, .inr (0, [.ref wN])), (wN, .inl (X.2 1, 64, .inr (.inl fN)))]) (wr := [(x0, .inr (5, [.ref h0, .ref hR, .ref t0, .ref sa, .ref g0, .int (nI ns), .int (bI on)])), (g0, .inr (4, [.ref h0, .ref hR, .ref gc, .ref gg, .ref gn, .ref gt, .int (nI tk), .int gl])), (gg, .inl (X.2 0, 4096, .inl (ia gs)))]) hx hb hml hown hg hE hA hP hD hS (k_Sp_rank l X h0 hv hi hM hV hN P nr vl iv wM wV wN fM fV fN hP6 hvl hv1 VS NSs hfV hfN x) (gcons m_374 (gcons m_375 (gcons m_376 (gcons m_2 (gcons m_377 gG))))) (by decide +kernel) [1, 2, 3, 4, 5, 6] [0, 7, 8] rfl rfl (by decide) (by decide) (by decide) 0 rfl rfl rfl hl.1 (Nat.le_of_ble_eq_true rfl) rfl d_CR_gain_14 ⟨rfl, rfl, Nat.le_of_ble_eq_true rfl, Nat.le_of_ble_eq_true rfl⟩ (⟨Nat.le_of_ble_eq_true rfl, Nat.le_of_ble_eq_true rfl⟩) (fun r14 u14 H locs hq14 hP hD hS => ?_)
    have hq14 : r14 = rkF vl VS NSs x := hq14
    subst hq14
    have hP := hP.sub (ws' := [(x0, .inr (5, [.ref h0, .ref hR, .ref t0, .ref sa, .ref g0, .int (nI ns), .int (bI on)])), (h0, .inr (2, [.ref hv, .ref hi, .ref hM, .ref hV, .ref hN, .int (nI P), .int (nI nr)])), (hv, .inl (X.2 0, 6, .inl (ia vl))), (hV, .inr (0, [.ref wV])), (wV, .inl (X.2 1, 64, .inr (.inl fV))), (hN, .inr (0, [.ref wN])), (wN, .inl (X.2 1, 64, .inr (.inl fN))), (g0, .inr (4, [.ref h0, .ref hR, .ref gc, .ref gg, .ref gn, .ref gt, .int (nI tk), .int gl])), (gg, .inl (X.2 0, 4096, .inl (ia gs)))]) [0, 3, 4, 5, 6, 7, 8, 1, 2] rfl
    have hD := hD.sub (ws' := [(x0, .inr (5, [.ref h0, .ref hR, .ref t0, .ref sa, .ref g0, .int (nI ns), .int (bI on)])), (h0, .inr (2, [.ref hv, .ref hi, .ref hM, .ref hV, .ref hN, .int (nI P), .int (nI nr)])), (hv, .inl (X.2 0, 6, .inl (ia vl))), (hV, .inr (0, [.ref wV])), (wV, .inl (X.2 1, 64, .inr (.inl fV))), (hN, .inr (0, [.ref wN])), (wN, .inl (X.2 1, 64, .inr (.inl fN))), (g0, .inr (4, [.ref h0, .ref hR, .ref gc, .ref gg, .ref gn, .ref gt, .int (nI tk), .int gl])), (gg, .inl (X.2 0, 4096, .inl (ia gs)))]) [0, 3, 4, 5, 6, 7, 8, 1, 2] (by decide) rfl
    refine lv_iconst (v := nI 1) hx hb d_CR_gain_17 (by decide) ?_
    refine lv_icmp_lt (tgt := 33) hx hb d_CR_gain_18 (by decide) (fun hc18 => ?_) (fun hc18 => ?_)
    · refine lv_bipush (v := (-2)) hx hb d_CR_gain_33 (by decide) ?_
      exact retI (u := ()) hx hb hr hlk hP hD hS (by unfold gaA; rw [ts_nf hc4, decide_eq_true hc18]; rfl) d_CR_gain_35
    · refine lv_aload_n hx hb d_CR_gain_21 rfl (lv_at hl 0 rfl) ?_
      refine va_get (D := X.1) (ci := 5) (v := .ref g0) (C := R_CR) (T := F_CR) (N := 7) hx hb hg in_CR hown hE.1 hP 0 rfl rfl 4 (by decide) (hg _ m_168) (fun _ h9 => h9) rfl d_CR_gain_22 ?_
      refine va_get (D := X.1) (ci := 4) (v := .ref gg) (C := R_Ge) (T := F_Ge) (N := 8) hx hb hg in_Ge hown hE.1 hP 7 rfl rfl 3 (by decide) (hg _ m_138) (fun _ h9 => h9) rfl d_CR_gain_25 ?_
      refine lv_iload_n hx hb d_CR_gain_28 rfl (lv_at hl 1 rfl) ?_
      have hrk := hc18
      obtain ⟨n, hn4, rfl, hvn, hall⟩ := rk_ge hc18
      refine va_iald hx hb hE.1 hP 8 0 rfl rfl (vp_in_nI (by omega) (by decide)) d_CR_gain_29 ?_
      refine topI (y := (ia gs) n) (by rw [nI_clamp (by omega)]) ?_
      refine topI (y := nI (gs n)) (rfl) ?_
      refine lv_goto (tgt := 35) hx hb d_CR_gain_30 (by decide) ?_
      exact retI (u := ()) hx hb hr hlk hP hD hS (by unfold gaA; rw [ts_nf hc4, decide_eq_false hrk, nI_clamp (by omega)]; rfl) d_CR_gain_35
  · rw [bI_z] at hc4
    refine lv_iconst (v := (-1)) hx hb d_CR_gain_7 (by decide) ?_
    exact retI (u := ()) hx hb hr hlk hP hD hS (by unfold gaA; rw [hc4]; rfl) d_CR_gain_8
set_option maxHeartbeats 4000000 in
set_option maxRecDepth 100000 in
theorem k_CR_seed (l : Launch) (X : Cx) (x0 h0 hR t0 sa g0 ns : Nat) (on : Bool) (hns : ns ≤ 8) (se : Nat → Int32) (x : Int32) : CtI l X (TY X) y_CR_seed cw_CR_seed ({ frames := 0, cells := 0, slots := 0, locals := 0 } : Room) [.ref x0, .int x] [(x0, .inr (5, [.ref h0, .ref hR, .ref t0, .ref sa, .ref g0, .int (nI ns), .int (bI on)])), (sa, .inl (X.2 0, 8, .inl se))] (S := Nat × (Nat → Int32)) (fun r u => r = sdA on ns ∧ u.1 = (bif sdO on ns then ns + 1 else ns) ∧ u.2 = (bif sdO on ns then upd se ns x else se)) (fun u => [(x0, .inr (5, [.ref h0, .ref hR, .ref t0, .ref sa, .ref g0, .int (nI u.1), .int (bI on)])), (sa, .inl (X.2 0, 8, .inl u.2))]) 0 0 := by
  refine metI (by decide) (Nat.le_of_ble_eq_true rfl) ?_
  intro p e s m below meth c A ls hB hl
  obtain ⟨hx, hb, hr, hml, hown, hlk, hin, hg, hA, hD, hP, hE⟩ := hB
  have hS : va_S A s.heap s.heap [] := va_S.rf
  have hl : lv_has ls 2 [(0, .ref x0), (1, .int x)] := hl
  refine lv_aload_n hx hb d_CR_seed_0 rfl (lv_at hl 0 rfl) ?_
  refine va_get (D := X.1) (ci := 5) (v := .int (bI on)) (C := R_CR) (T := F_CR) (N := 7) hx hb hg in_CR hown hE.1 hP 0 rfl rfl 6 (by decide) (hg _ m_170) (fun _ h9 => h9) rfl d_CR_seed_1 ?_
  refine lv_if_eq (tgt := 9) hx hb d_CR_seed_4 (by decide) (fun hc4 => ?_) (fun hc4 => ?_)
  · rw [bI_z] at hc4
    refine lv_aload_n hx hb d_CR_seed_9 rfl (lv_at hl 0 rfl) ?_
    refine va_get (D := X.1) (ci := 5) (v := .int (nI ns)) (C := R_CR) (T := F_CR) (N := 7) hx hb hg in_CR hown hE.1 hP 0 rfl rfl 5 (by decide) (hg _ m_169) (fun _ h9 => h9) rfl d_CR_seed_10 ?_
    refine lv_bipush (v := nI 8) hx hb d_CR_seed_13 (by decide) ?_
    refine lv_icmp_ne (tgt := 21) hx hb d_CR_seed_15 (by decide) (fun hc15 => ?_) (fun hc15 => ?_)
    · rw [nI_eq (by omega) (by omega)] at hc15
      refine lv_aload_n hx hb d_CR_seed_21 rfl (lv_at hl 0 rfl) ?_
      refine va_get (D := X.1) (ci := 5) (v := .ref sa) (C := R_CR) (T := F_CR) (N := 7) hx hb hg in_CR hown hE.1 hP 0 rfl rfl 3 (by decide) (hg _ m_167) (fun _ h9 => h9) rfl d_CR_seed_22 ?_
      refine lv_aload_n hx hb d_CR_seed_25 rfl (lv_at hl 0 rfl) ?_
      refine va_get (D := X.1) (ci := 5) (v := .int (nI ns)) (C := R_CR) (T := F_CR) (N := 7) hx hb hg in_CR hown hE.1 hP 0 rfl rfl 5 (by decide) (hg _ m_169) (fun _ h9 => h9) rfl d_CR_seed_26 ?_
      refine lv_iload_n hx hb d_CR_seed_29 rfl (lv_at hl 1 rfl) ?_
      refine va_iast hx hb hE.1 hP hD hS 1 0 rfl rfl (vp_in_nI (by omega) (by decide)) d_CR_seed_30 (fun H locs hP hD hS => ?_)
      have hP : va_P X.1 classes [(x0, .inr (5, [.ref h0, .ref hR, .ref t0, .ref sa, .ref g0, .int (nI ns), .int (bI on)])), (sa, .inl (X.2 0, 8, .inl (upd se (nI ns).toNatClampNeg x)))] H := hP
      have hD : va_D A [(x0, .inr (5, [.ref h0, .ref hR, .ref t0, .ref sa, .ref g0, .int (nI ns), .int (bI on)])), (sa, .inl (X.2 0, 8, .inl (upd se (nI ns).toNatClampNeg x)))] := hD
      rw [nI_clamp (show ns < 2 ^ 31 by omega)] at hP hD
      refine lv_aload_n hx hb d_CR_seed_31 rfl (lv_at hl 0 rfl) ?_
      refine lv_dup hx hb d_CR_seed_32 rfl ?_
      refine va_get (D := X.1) (ci := 5) (v := .int (nI ns)) (C := R_CR) (T := F_CR) (N := 7) hx hb hg in_CR hown hE.1 hP 0 rfl rfl 5 (by decide) (hg _ m_169) (fun _ h9 => h9) rfl d_CR_seed_33 ?_
      refine lv_iconst (v := nI 1) hx hb d_CR_seed_36 (by decide) ?_
      refine lv_iadd hx hb d_CR_seed_37 ?_
      refine topI (nI_add _ _) ?_
      refine va_put (D := X.1) (ci := 5) (v := .int (nI (ns + 1))) (ty := .int) (C := R_CR) (T := F_CR) (N := 7) hx hb hg in_CR t_CR t_CR_ok n_CR hown hE.1 hP hD hS 0 rfl rfl 5 (by decide) (hg _ m_169) (fun _ h9 => h9) rfl (by decide +kernel) rfl rfl (Nat.le_of_ble_eq_true rfl) d_CR_seed_38 (fun H locs hP hD hS => ?_)
      have hP : va_P X.1 classes [(x0, .inr (5, [.ref h0, .ref hR, .ref t0, .ref sa, .ref g0, .int (nI (ns + 1)), .int (bI on)])), (sa, .inl (X.2 0, 8, .inl (upd se ns x)))] H := hP
      have hD : va_D A [(x0, .inr (5, [.ref h0, .ref hR, .ref t0, .ref sa, .ref g0, .int (nI (ns + 1)), .int (bI on)])), (sa, .inl (X.2 0, 8, .inl (upd se ns x)))] := hD
      refine lv_aload_n hx hb d_CR_seed_41 rfl (lv_at hl 0 rfl) ?_
      refine va_get (D := X.1) (ci := 5) (v := .int (nI (ns + 1))) (C := R_CR) (T := F_CR) (N := 7) hx hb hg in_CR hown hE.1 hP 0 rfl rfl 5 (by decide) (hg _ m_169) (fun _ h9 => h9) rfl d_CR_seed_42 ?_
      exact retI (u := (ns + 1, upd se ns x)) hx hb hr hlk hP hD hS (by unfold sdA sdO; rw [hc4, beq_false_of_ne hc15]; exact ⟨rfl, rfl, rfl⟩) d_CR_seed_45
    · rw [nI_eq (by omega) (by omega)] at hc15
      refine lv_bipush (v := (-2)) hx hb d_CR_seed_18 (by decide) ?_
      exact retI (u := (ns, se)) hx hb hr hlk hP hD hS (by unfold sdA sdO; rw [hc4, hc15]; exact ⟨rfl, rfl, rfl⟩) d_CR_seed_20
  · rw [bI_z] at hc4
    refine lv_iconst (v := (-1)) hx hb d_CR_seed_7 (by decide) ?_
    exact retI (u := (ns, se)) hx hb hr hlk hP hD hS (by unfold sdA sdO; rw [ts_nf hc4]; exact ⟨rfl, rfl, rfl⟩) d_CR_seed_8
set_option maxHeartbeats 4000000 in
set_option maxRecDepth 100000 in
theorem k_CR_parameter (l : Launch) (X : Cx) (h0 hv hi hM hV hN : Nat) (P nr : Nat) (vl iv : Nat → Nat) (hvl : ∀ p, p < 6 → 1 ≤ vl p ∧ vl p ≤ 4) (hiv : ∀ p, p < 6 → iv p < 16) (wM wV wN : Nat) (fM fV fN : Nat → Int64) (M : Nat → Bool) (hM0 : RS fM M) (x0 hR t0 sa g0 ns : Nat) (on : Bool) (hP6 : P ≤ 6) (hfV : RS fV (fun r => vK vl iv M r 6)) (hfN : RS fN (fun r => nK vl iv M r 6)) (x : Int32) : CtI l X (TY X) y_CR_parameter cw_CR_parameter ({ frames := 5, cells := 0, slots := 0, locals := 120 } : Room) [.ref x0, .int x] [(x0, .inr (5, [.ref h0, .ref hR, .ref t0, .ref sa, .ref g0, .int (nI ns), .int (bI on)])), (h0, .inr (2, [.ref hv, .ref hi, .ref hM, .ref hV, .ref hN, .int (nI P), .int (nI nr)])), (hv, .inl (X.2 0, 6, .inl (ia vl))), (hi, .inl (X.2 0, 6, .inl (ia iv))), (hM, .inr (0, [.ref wM])), (wM, .inl (X.2 1, 64, .inr (.inl fM))), (hV, .inr (0, [.ref wV])), (wV, .inl (X.2 1, 64, .inr (.inl fV))), (hN, .inr (0, [.ref wN])), (wN, .inl (X.2 1, 64, .inr (.inl fN)))] (S := Nat × (Nat → Nat) × (Nat → Int64) × (Nat → Int64)) (fun r u => r = pmA on P x ∧ u.1 = (bif pmO on P x then P + 1 else P) ∧ u.2.1 = (bif pmO on P x then upN vl P x.toNatClampNeg else vl) ∧ RS u.2.2.1 (fun r => vK u.2.1 iv M r 6) ∧ RS u.2.2.2 (fun r => nK u.2.1 iv M r 6)) (fun u => [(x0, .inr (5, [.ref h0, .ref hR, .ref t0, .ref sa, .ref g0, .int (nI ns), .int (bI on)])), (h0, .inr (2, [.ref hv, .ref hi, .ref hM, .ref hV, .ref hN, .int (nI u.1), .int (nI nr)])), (hv, .inl (X.2 0, 6, .inl (ia u.2.1))), (hi, .inl (X.2 0, 6, .inl (ia iv))), (hM, .inr (0, [.ref wM])), (wM, .inl (X.2 1, 64, .inr (.inl fM))), (hV, .inr (0, [.ref wV])), (wV, .inl (X.2 1, 64, .inr (.inl u.2.2.1))), (hN, .inr (0, [.ref wN])), (wN, .inl (X.2 1, 64, .inr (.inl u.2.2.2)))]) 0 0 := by
  refine metI (by decide) (Nat.le_of_ble_eq_true rfl) ?_
  intro p e s m below meth c A ls hB hl
  obtain ⟨hx, hb, hr, hml, hown, hlk, hin, hg, hA, hD, hP, hE⟩ := hB
  have hS : va_S A s.heap s.heap [] := va_S.rf
  have hl : lv_has ls 2 [(0, .ref x0), (1, .int x)] := hl
  refine lv_aload_n hx hb d_CR_parameter_0 rfl (lv_at hl 0 rfl) ?_
  refine va_get (D := X.1) (ci := 5) (v := .int (bI on)) (C := R_CR) (T := F_CR) (N := 7) hx hb hg in_CR hown hE.1 hP 0 rfl rfl 6 (by decide) (hg _ m_170) (fun _ h9 => h9) rfl d_CR_parameter_1 ?_
  refine lv_if_eq (tgt := 9) hx hb d_CR_parameter_4 (by decide) (fun hc4 => ?_) (fun hc4 => ?_)
  · rw [bI_z] at hc4
    refine lv_iload_n hx hb d_CR_parameter_9 rfl (lv_at hl 1 rfl) ?_
    refine lv_iconst (v := nI 2) hx hb d_CR_parameter_10 (by decide) ?_
    refine lv_icmp_lt (tgt := 31) hx hb d_CR_parameter_11 (by decide) (fun hc11 => ?_) (fun hc11 => ?_)
    · refine lv_bipush (v := (-2)) hx hb d_CR_parameter_31 (by decide) ?_
      exact retI (u := (P, vl, fV, fN)) hx hb hr hlk hP hD hS (by first | exact ⟨pm_no hc4 (pmC_a hc11), by rw [pmO_c (pmC_a hc11)]; rfl, by rw [pmO_c (pmC_a hc11)]; rfl, hfV, hfN⟩ | exact ⟨pm_no hc4 (pmC_b hc16), by rw [pmO_c (pmC_b hc16)]; rfl, by rw [pmO_c (pmC_b hc16)]; rfl, hfV, hfN⟩ | exact ⟨pm_no hc4 (pmC_c hc28), by rw [pmO_c (pmC_c hc28)]; rfl, by rw [pmO_c (pmC_c hc28)]; rfl, hfV, hfN⟩) d_CR_parameter_33
    · refine lv_iload_n hx hb d_CR_parameter_14 rfl (lv_at hl 1 rfl) ?_
      refine lv_iconst (v := nI 4) hx hb d_CR_parameter_15 (by decide) ?_
      refine lv_icmp_gt (tgt := 31) hx hb d_CR_parameter_16 (by decide) (fun hc16 => ?_) (fun hc16 => ?_)
      · refine lv_bipush (v := (-2)) hx hb d_CR_parameter_31 (by decide) ?_
        exact retI (u := (P, vl, fV, fN)) hx hb hr hlk hP hD hS (by first | exact ⟨pm_no hc4 (pmC_a hc11), by rw [pmO_c (pmC_a hc11)]; rfl, by rw [pmO_c (pmC_a hc11)]; rfl, hfV, hfN⟩ | exact ⟨pm_no hc4 (pmC_b hc16), by rw [pmO_c (pmC_b hc16)]; rfl, by rw [pmO_c (pmC_b hc16)]; rfl, hfV, hfN⟩ | exact ⟨pm_no hc4 (pmC_c hc28), by rw [pmO_c (pmC_c hc28)]; rfl, by rw [pmO_c (pmC_c hc28)]; rfl, hfV, hfN⟩) d_CR_parameter_33
      · refine lv_aload_n hx hb d_CR_parameter_19 rfl (lv_at hl 0 rfl) ?_
        refine va_get (D := X.1) (ci := 5) (v := .ref h0) (C := R_CR) (T := F_CR) (N := 7) hx hb hg in_CR hown hE.1 hP 0 rfl rfl 0 (by decide) (hg _ m_164) (fun _ h9 => h9) rfl d_CR_parameter_20 ?_
        refine va_get (D := X.1) (ci := 2) (v := .int (nI P)) (C := R_Sp) (T := F_Sp) (N := 7) hx hb hg in_Sp hown hE.1 hP 1 rfl rfl 5 (by decide) (hg _ m_76) (fun _ h9 => h9) rfl d_CR_parameter_23 ?_
        refine lv_bipush (v := nI 6) hx hb d_CR_parameter_26 (by decide) ?_
        refine lv_icmp_ne (tgt := 34) hx hb d_CR_parameter_28 (by decide) (fun hc28 => ?_) (fun hc28 => ?_)
        · rw [nI_eq (by omega) (by omega)] at hc28
          refine lv_aload_n hx hb d_CR_parameter_34 rfl (lv_at hl 0 rfl) ?_
          refine va_get (D := X.1) (ci := 5) (v := .ref h0) (C := R_CR) (T := F_CR) (N := 7) hx hb hg in_CR hown hE.1 hP 0 rfl rfl 0 (by decide) (hg _ m_164) (fun _ h9 => h9) rfl d_CR_parameter_35 ?_
          have hpc := pmC_1 hc11 hc16 hc28
          obtain ⟨v, hv2, hv4, rfl⟩ := x_mid (by decide) (by decide) hc11 hc16
          refine lv_iload_n hx hb d_CR_parameter_38 rfl (lv_at hl 1 rfl) ?_
          refine clVV (n := 1) (As := [.int (nI v)]) (rest := []) (wc := [(h0, .inr (2, [.ref hv, .ref hi, .ref hM, .ref hV, .ref hN, .int (nI P), .int (nI nr)])), (hv, .inl (X.2 0, 6, .inl (ia vl))), (hi, .inl (X.2 0, 6, .inl (ia iv))), (hM, .inr (0, [.ref wM])), (wM, .inl (X.2 1, 64, .inr (.inl fM))), (hV, .inr (0, [.ref wV])), (wV, .inl (X.2 1, 64, .inr (.inl fV))), (hN, .inr (0, [.ref wN])), (wN, .inl (X.2 1, 64, .inr (.inl fN)))]) (wr := [(x0, .inr (5, [.ref h0, .ref hR, .ref t0, .ref sa, .ref g0, .int (nI ns), .int (bI on)]))]) hx hb hml hown hg hE hA hP hD hS (k_Sp_addParameter l X h0 hv hi hM hV hN P nr vl iv hvl hiv wM wV wN fM fV fN M hM0 v hv2 hv4 (by omega)) (gcons m_190 (gcons m_191 (gcons m_192 (gcons m_2 (gcons m_193 gG))))) (by decide +kernel) [1, 2, 3, 4, 5, 6, 7, 8, 9] [0] rfl rfl (by decide) (by decide) (by decide) 0 rfl rfl rfl hl.1 (Nat.le_of_ble_eq_true rfl) rfl d_CR_parameter_39 ⟨rfl, rfl, Nat.le_of_ble_eq_true rfl, Nat.le_of_ble_eq_true rfl⟩ (⟨Nat.le_of_ble_eq_true rfl, Nat.le_of_ble_eq_true rfl⟩) (fun d H locs hd hP hD hS => ?_)
          have hP : va_P X.1 classes [(x0, .inr (5, [.ref h0, .ref hR, .ref t0, .ref sa, .ref g0, .int (nI ns), .int (bI on)])), (h0, .inr (2, [.ref hv, .ref hi, .ref hM, .ref hV, .ref hN, .int (nI (P + 1)), .int (nI nr)])), (hv, .inl (X.2 0, 6, .inl (ia (upN vl P v)))), (hi, .inl (X.2 0, 6, .inl (ia iv))), (hM, .inr (0, [.ref wM])), (wM, .inl (X.2 1, 64, .inr (.inl fM))), (hV, .inr (0, [.ref wV])), (wV, .inl (X.2 1, 64, .inr (.inl d.1))), (hN, .inr (0, [.ref wN])), (wN, .inl (X.2 1, 64, .inr (.inl d.2)))] H := hP
          have hD : va_D A [(x0, .inr (5, [.ref h0, .ref hR, .ref t0, .ref sa, .ref g0, .int (nI ns), .int (bI on)])), (h0, .inr (2, [.ref hv, .ref hi, .ref hM, .ref hV, .ref hN, .int (nI (P + 1)), .int (nI nr)])), (hv, .inl (X.2 0, 6, .inl (ia (upN vl P v)))), (hi, .inl (X.2 0, 6, .inl (ia iv))), (hM, .inr (0, [.ref wM])), (wM, .inl (X.2 1, 64, .inr (.inl fM))), (hV, .inr (0, [.ref wV])), (wV, .inl (X.2 1, 64, .inr (.inl d.1))), (hN, .inr (0, [.ref wN])), (wN, .inl (X.2 1, 64, .inr (.inl d.2)))] := hD
          refine lv_aload_n hx hb d_CR_parameter_42 rfl (lv_at hl 0 rfl) ?_
          refine va_get (D := X.1) (ci := 5) (v := .ref h0) (C := R_CR) (T := F_CR) (N := 7) hx hb hg in_CR hown hE.1 hP 0 rfl rfl 0 (by decide) (hg _ m_164) (fun _ h9 => h9) rfl d_CR_parameter_43 ?_
          refine va_get (D := X.1) (ci := 2) (v := .int (nI (P + 1))) (C := R_Sp) (T := F_Sp) (N := 7) hx hb hg in_Sp hown hE.1 hP 1 rfl rfl 5 (by decide) (hg _ m_76) (fun _ h9 => h9) rfl d_CR_parameter_46 ?_
          refine lv_iconst (v := nI 1) hx hb d_CR_parameter_49 (by decide) ?_
          refine lv_isub hx hb d_CR_parameter_50 ?_
          refine topI (y := nI P) (pk_sub (by omega)) ?_
          exact retI (u := (P + 1, upN vl P v, d.1, d.2)) hx hb hr hlk hP hD hS (⟨pm_yes hc4 hpc, by rw [pmO_1 hc4 hpc]; rfl, by rw [pmO_1 hc4 hpc, nI_clamp (by omega)]; rfl, hd.1, hd.2⟩) d_CR_parameter_51
        · rw [nI_eq (by omega) (by omega)] at hc28
          refine lv_bipush (v := (-2)) hx hb d_CR_parameter_31 (by decide) ?_
          exact retI (u := (P, vl, fV, fN)) hx hb hr hlk hP hD hS (by first | exact ⟨pm_no hc4 (pmC_a hc11), by rw [pmO_c (pmC_a hc11)]; rfl, by rw [pmO_c (pmC_a hc11)]; rfl, hfV, hfN⟩ | exact ⟨pm_no hc4 (pmC_b hc16), by rw [pmO_c (pmC_b hc16)]; rfl, by rw [pmO_c (pmC_b hc16)]; rfl, hfV, hfN⟩ | exact ⟨pm_no hc4 (pmC_c hc28), by rw [pmO_c (pmC_c hc28)]; rfl, by rw [pmO_c (pmC_c hc28)]; rfl, hfV, hfN⟩) d_CR_parameter_33
  · rw [bI_z] at hc4
    refine lv_iconst (v := (-1)) hx hb d_CR_parameter_7 (by decide) ?_
    exact retI (u := (P, vl, fV, fN)) hx hb hr hlk hP hD hS (⟨pm_a hc4, by rw [pmO_on hc4]; rfl, by rw [pmO_on hc4]; rfl, hfV, hfN⟩) d_CR_parameter_8
set_option maxHeartbeats 4000000 in
set_option maxRecDepth 100000 in
theorem k_CR_invalid (l : Launch) (X : Cx) (h0 hv hi hM hV hN : Nat) (P nr : Nat) (vl iv : Nat → Nat) (hvl : ∀ p, p < 6 → 1 ≤ vl p ∧ vl p ≤ 4) (hiv : ∀ p, p < 6 → iv p < 16) (wM wV wN : Nat) (fM fV fN : Nat → Int64) (M : Nat → Bool) (hM0 : RS fM M) (x0 hR t0 sa g0 ns : Nat) (on : Bool) (hP6 : P ≤ 6) (hfV : RS fV (fun r => vK vl iv M r 6)) (hfN : RS fN (fun r => nK vl iv M r 6)) (x y : Int32) : CtI l X (TY X) y_CR_invalid cw_CR_invalid ({ frames := 5, cells := 0, slots := 0, locals := 121 } : Room) [.ref x0, .int x, .int y] [(x0, .inr (5, [.ref h0, .ref hR, .ref t0, .ref sa, .ref g0, .int (nI ns), .int (bI on)])), (h0, .inr (2, [.ref hv, .ref hi, .ref hM, .ref hV, .ref hN, .int (nI P), .int (nI nr)])), (hv, .inl (X.2 0, 6, .inl (ia vl))), (hi, .inl (X.2 0, 6, .inl (ia iv))), (hM, .inr (0, [.ref wM])), (wM, .inl (X.2 1, 64, .inr (.inl fM))), (hV, .inr (0, [.ref wV])), (wV, .inl (X.2 1, 64, .inr (.inl fV))), (hN, .inr (0, [.ref wN])), (wN, .inl (X.2 1, 64, .inr (.inl fN)))] (S := (Nat → Nat) × (Nat → Int64) × (Nat → Int64)) (fun r u => r = bI (ivO on P vl iv x y) ∧ u.1 = (bif ivO on P vl iv x y then ivN iv x y else iv) ∧ RS u.2.1 (fun r => vK vl u.1 M r 6) ∧ RS u.2.2 (fun r => nK vl u.1 M r 6)) (fun u => [(x0, .inr (5, [.ref h0, .ref hR, .ref t0, .ref sa, .ref g0, .int (nI ns), .int (bI on)])), (h0, .inr (2, [.ref hv, .ref hi, .ref hM, .ref hV, .ref hN, .int (nI P), .int (nI nr)])), (hv, .inl (X.2 0, 6, .inl (ia vl))), (hi, .inl (X.2 0, 6, .inl (ia u.1))), (hM, .inr (0, [.ref wM])), (wM, .inl (X.2 1, 64, .inr (.inl fM))), (hV, .inr (0, [.ref wV])), (wV, .inl (X.2 1, 64, .inr (.inl u.2.1))), (hN, .inr (0, [.ref wN])), (wN, .inl (X.2 1, 64, .inr (.inl u.2.2)))]) 0 0 := by
  refine metI (by decide) (Nat.le_of_ble_eq_true rfl) ?_
  intro p e s m below meth c A ls hB hl
  obtain ⟨hx, hb, hr, hml, hown, hlk, hin, hg, hA, hD, hP, hE⟩ := hB
  have hS : va_S A s.heap s.heap [] := va_S.rf
  have hl : lv_has ls 3 [(0, .ref x0), (1, .int x), (2, .int y)] := hl
  refine lv_aload_n hx hb d_CR_invalid_0 rfl (lv_at hl 0 rfl) ?_
  refine va_get (D := X.1) (ci := 5) (v := .int (bI on)) (C := R_CR) (T := F_CR) (N := 7) hx hb hg in_CR hown hE.1 hP 0 rfl rfl 6 (by decide) (hg _ m_170) (fun _ h9 => h9) rfl d_CR_invalid_1 ?_
  refine lv_if_ne (tgt := 31) hx hb d_CR_invalid_4 (by decide) (fun hc4 => ?_) (fun hc4 => ?_)
  · rw [bI_z] at hc4
    refine lv_iconst (v := nI 0) hx hb d_CR_invalid_31 (by decide) ?_
    exact retZ (u := (iv, fV, fN)) hx hb hr hlk (by decide) hP hD hS (by first | exact ⟨by rw [iv_on hc4]; rfl, by rw [iv_on hc4]; rfl, hfV, hfN⟩ | exact ⟨by rw [iv_in (by omega) (by omega) hc28]; rfl, by rw [iv_in (by omega) (by omega) hc28]; rfl, hfV, hfN⟩ | exact ⟨by rw [iv_hv hc16]; rfl, by rw [iv_hv hc16]; rfl, hfV, hfN⟩) d_CR_invalid_32
  · rw [bI_z] at hc4
    refine lv_aload_n hx hb d_CR_invalid_7 rfl (lv_at hl 0 rfl) ?_
    refine va_get (D := X.1) (ci := 5) (v := .ref h0) (C := R_CR) (T := F_CR) (N := 7) hx hb hg in_CR hown hE.1 hP 0 rfl rfl 0 (by decide) (hg _ m_164) (fun _ h9 => h9) rfl d_CR_invalid_8 ?_
    refine lv_iload_n hx hb d_CR_invalid_11 rfl (lv_at hl 1 rfl) ?_
    refine lv_iload_n hx hb d_CR_invalid_12 rfl (lv_at hl 2 rfl) ?_
    refine clVI (n := 2) (As := [.int x, .int y]) (rest := []) (wc := [(h0, .inr (2, [.ref hv, .ref hi, .ref hM, .ref hV, .ref hN, .int (nI P), .int (nI nr)])), (hv, .inl (X.2 0, 6, .inl (ia vl)))]) (wr := [(x0, .inr (5, [.ref h0, .ref hR, .ref t0, .ref sa, .ref g0, .int (nI ns), .int (bI on)])), (hi, .inl (X.2 0, 6, .inl (ia iv))), (hM, .inr (0, [.ref wM])), (wM, .inl (X.2 1, 64, .inr (.inl fM))), (hV, .inr (0, [.ref wV])), (wV, .inl (X.2 1, 64, .inr (.inl fV))), (hN, .inr (0, [.ref wN])), (wN, .inl (X.2 1, 64, .inr (.inl fN)))]) hx hb hml hown hg hE hA hP hD hS (k_Sp_hasValue l X h0 hv hi hM hV hN P nr vl iv hP6 hvl x y) (gcons m_198 (gcons m_199 (gcons m_200 (gcons m_2 (gcons m_201 gG))))) (by decide +kernel) [1, 2] [0, 3, 4, 5, 6, 7, 8, 9] rfl rfl (by decide) (by decide) (by decide) 0 rfl rfl rfl hl.1 (Nat.le_of_ble_eq_true rfl) rfl d_CR_invalid_13 ⟨rfl, rfl, Nat.le_of_ble_eq_true rfl, Nat.le_of_ble_eq_true rfl⟩ (⟨Nat.le_of_ble_eq_true rfl, Nat.le_of_ble_eq_true rfl⟩) (fun r13 u13 H locs hq13 hP hD hS => ?_)
    have hq13 : r13 = bI (hvB P vl x y) := hq13
    subst hq13
    have hP := hP.sub (ws' := [(x0, .inr (5, [.ref h0, .ref hR, .ref t0, .ref sa, .ref g0, .int (nI ns), .int (bI on)])), (h0, .inr (2, [.ref hv, .ref hi, .ref hM, .ref hV, .ref hN, .int (nI P), .int (nI nr)])), (hv, .inl (X.2 0, 6, .inl (ia vl))), (hi, .inl (X.2 0, 6, .inl (ia iv))), (hM, .inr (0, [.ref wM])), (wM, .inl (X.2 1, 64, .inr (.inl fM))), (hV, .inr (0, [.ref wV])), (wV, .inl (X.2 1, 64, .inr (.inl fV))), (hN, .inr (0, [.ref wN])), (wN, .inl (X.2 1, 64, .inr (.inl fN)))]) [0, 8, 9, 1, 2, 3, 4, 5, 6, 7] rfl
    have hD := hD.sub (ws' := [(x0, .inr (5, [.ref h0, .ref hR, .ref t0, .ref sa, .ref g0, .int (nI ns), .int (bI on)])), (h0, .inr (2, [.ref hv, .ref hi, .ref hM, .ref hV, .ref hN, .int (nI P), .int (nI nr)])), (hv, .inl (X.2 0, 6, .inl (ia vl))), (hi, .inl (X.2 0, 6, .inl (ia iv))), (hM, .inr (0, [.ref wM])), (wM, .inl (X.2 1, 64, .inr (.inl fM))), (hV, .inr (0, [.ref wV])), (wV, .inl (X.2 1, 64, .inr (.inl fV))), (hN, .inr (0, [.ref wN])), (wN, .inl (X.2 1, 64, .inr (.inl fN)))]) [0, 8, 9, 1, 2, 3, 4, 5, 6, 7] (by decide) rfl
    refine lv_if_eq (tgt := 31) hx hb d_CR_invalid_16 (by decide) (fun hc16 => ?_) (fun hc16 => ?_)
    · rw [bI_z] at hc16
      refine lv_iconst (v := nI 0) hx hb d_CR_invalid_31 (by decide) ?_
      exact retZ (u := (iv, fV, fN)) hx hb hr hlk (by decide) hP hD hS (by first | exact ⟨by rw [iv_on hc4]; rfl, by rw [iv_on hc4]; rfl, hfV, hfN⟩ | exact ⟨by rw [iv_in (by omega) (by omega) hc28]; rfl, by rw [iv_in (by omega) (by omega) hc28]; rfl, hfV, hfN⟩ | exact ⟨by rw [iv_hv hc16]; rfl, by rw [iv_hv hc16]; rfl, hfV, hfN⟩) d_CR_invalid_32
    · rw [bI_z] at hc16
      refine lv_aload_n hx hb d_CR_invalid_19 rfl (lv_at hl 0 rfl) ?_
      refine va_get (D := X.1) (ci := 5) (v := .ref h0) (C := R_CR) (T := F_CR) (N := 7) hx hb hg in_CR hown hE.1 hP 0 rfl rfl 0 (by decide) (hg _ m_164) (fun _ h9 => h9) rfl d_CR_invalid_20 ?_
      have hhv := hc16
      obtain ⟨q, v, hqP, hvv, hv4, rfl, rfl⟩ := hv_of hP6 hvl hc16
      refine lv_iload_n hx hb d_CR_invalid_23 rfl (lv_at hl 1 rfl) ?_
      refine lv_iload_n hx hb d_CR_invalid_24 rfl (lv_at hl 2 rfl) ?_
      refine clVI (n := 2) (As := [.int (nI q), .int (nI v)]) (rest := []) (wc := [(h0, .inr (2, [.ref hv, .ref hi, .ref hM, .ref hV, .ref hN, .int (nI P), .int (nI nr)])), (hi, .inl (X.2 0, 6, .inl (ia iv)))]) (wr := [(x0, .inr (5, [.ref h0, .ref hR, .ref t0, .ref sa, .ref g0, .int (nI ns), .int (bI on)])), (hv, .inl (X.2 0, 6, .inl (ia vl))), (hM, .inr (0, [.ref wM])), (wM, .inl (X.2 1, 64, .inr (.inl fM))), (hV, .inr (0, [.ref wV])), (wV, .inl (X.2 1, 64, .inr (.inl fV))), (hN, .inr (0, [.ref wN])), (wN, .inl (X.2 1, 64, .inr (.inl fN)))]) hx hb hml hown hg hE hA hP hD hS (k_Sp_isInvalid l X h0 hv hi hM hV hN P nr vl iv hiv q v (by omega) hv4) (gcons m_202 (gcons m_203 (gcons m_204 (gcons m_2 (gcons m_205 gG))))) (by decide +kernel) [1, 3] [0, 2, 4, 5, 6, 7, 8, 9] rfl rfl (by decide) (by decide) (by decide) 0 rfl rfl rfl hl.1 (Nat.le_of_ble_eq_true rfl) rfl d_CR_invalid_25 ⟨rfl, rfl, Nat.le_of_ble_eq_true rfl, Nat.le_of_ble_eq_true rfl⟩ (⟨Nat.le_of_ble_eq_true rfl, Nat.le_of_ble_eq_true rfl⟩) (fun r25 u25 H locs hq25 hP hD hS => ?_)
      have hq25 : r25 = bI ((iv q).testBit v) := hq25
      subst hq25
      have hP := hP.sub (ws' := [(x0, .inr (5, [.ref h0, .ref hR, .ref t0, .ref sa, .ref g0, .int (nI ns), .int (bI on)])), (h0, .inr (2, [.ref hv, .ref hi, .ref hM, .ref hV, .ref hN, .int (nI P), .int (nI nr)])), (hv, .inl (X.2 0, 6, .inl (ia vl))), (hi, .inl (X.2 0, 6, .inl (ia iv))), (hM, .inr (0, [.ref wM])), (wM, .inl (X.2 1, 64, .inr (.inl fM))), (hV, .inr (0, [.ref wV])), (wV, .inl (X.2 1, 64, .inr (.inl fV))), (hN, .inr (0, [.ref wN])), (wN, .inl (X.2 1, 64, .inr (.inl fN)))]) [0, 8, 1, 9, 2, 3, 4, 5, 6, 7] rfl
      have hD := hD.sub (ws' := [(x0, .inr (5, [.ref h0, .ref hR, .ref t0, .ref sa, .ref g0, .int (nI ns), .int (bI on)])), (h0, .inr (2, [.ref hv, .ref hi, .ref hM, .ref hV, .ref hN, .int (nI P), .int (nI nr)])), (hv, .inl (X.2 0, 6, .inl (ia vl))), (hi, .inl (X.2 0, 6, .inl (ia iv))), (hM, .inr (0, [.ref wM])), (wM, .inl (X.2 1, 64, .inr (.inl fM))), (hV, .inr (0, [.ref wV])), (wV, .inl (X.2 1, 64, .inr (.inl fV))), (hN, .inr (0, [.ref wN])), (wN, .inl (X.2 1, 64, .inr (.inl fN)))]) [0, 8, 1, 9, 2, 3, 4, 5, 6, 7] (by decide) rfl
      refine lv_if_eq (tgt := 33) hx hb d_CR_invalid_28 (by decide) (fun hc28 => ?_) (fun hc28 => ?_)
      · rw [bI_z] at hc28
        refine lv_aload_n hx hb d_CR_invalid_33 rfl (lv_at hl 0 rfl) ?_
        refine va_get (D := X.1) (ci := 5) (v := .ref h0) (C := R_CR) (T := F_CR) (N := 7) hx hb hg in_CR hown hE.1 hP 0 rfl rfl 0 (by decide) (hg _ m_164) (fun _ h9 => h9) rfl d_CR_invalid_34 ?_
        refine lv_iload_n hx hb d_CR_invalid_37 rfl (lv_at hl 1 rfl) ?_
        refine lv_iload_n hx hb d_CR_invalid_38 rfl (lv_at hl 2 rfl) ?_
        refine clVV (n := 2) (As := [.int (nI q), .int (nI v)]) (rest := []) (wc := [(h0, .inr (2, [.ref hv, .ref hi, .ref hM, .ref hV, .ref hN, .int (nI P), .int (nI nr)])), (hv, .inl (X.2 0, 6, .inl (ia vl))), (hi, .inl (X.2 0, 6, .inl (ia iv))), (hM, .inr (0, [.ref wM])), (wM, .inl (X.2 1, 64, .inr (.inl fM))), (hV, .inr (0, [.ref wV])), (wV, .inl (X.2 1, 64, .inr (.inl fV))), (hN, .inr (0, [.ref wN])), (wN, .inl (X.2 1, 64, .inr (.inl fN)))]) (wr := [(x0, .inr (5, [.ref h0, .ref hR, .ref t0, .ref sa, .ref g0, .int (nI ns), .int (bI on)]))]) hx hb hml hown hg hE hA hP hD hS (k_Sp_makeInvalid l X h0 hv hi hM hV hN P nr vl iv hvl hiv wM wV wN fM fV fN M hM0 q v (by omega) hv4) (gcons m_206 (gcons m_207 (gcons m_208 (gcons m_2 (gcons m_209 gG))))) (by decide +kernel) [1, 2, 3, 4, 5, 6, 7, 8, 9] [0] rfl rfl (by decide) (by decide) (by decide) 0 rfl rfl rfl hl.1 (Nat.le_of_ble_eq_true rfl) rfl d_CR_invalid_39 ⟨rfl, rfl, Nat.le_of_ble_eq_true rfl, Nat.le_of_ble_eq_true rfl⟩ (⟨Nat.le_of_ble_eq_true rfl, Nat.le_of_ble_eq_true rfl⟩) (fun d H locs hd hP hD hS => ?_)
        have hP : va_P X.1 classes [(x0, .inr (5, [.ref h0, .ref hR, .ref t0, .ref sa, .ref g0, .int (nI ns), .int (bI on)])), (h0, .inr (2, [.ref hv, .ref hi, .ref hM, .ref hV, .ref hN, .int (nI P), .int (nI nr)])), (hv, .inl (X.2 0, 6, .inl (ia vl))), (hi, .inl (X.2 0, 6, .inl (ia (upN iv q (iv q ||| 1 * 2 ^ v))))), (hM, .inr (0, [.ref wM])), (wM, .inl (X.2 1, 64, .inr (.inl fM))), (hV, .inr (0, [.ref wV])), (wV, .inl (X.2 1, 64, .inr (.inl d.1))), (hN, .inr (0, [.ref wN])), (wN, .inl (X.2 1, 64, .inr (.inl d.2)))] H := hP
        have hD : va_D A [(x0, .inr (5, [.ref h0, .ref hR, .ref t0, .ref sa, .ref g0, .int (nI ns), .int (bI on)])), (h0, .inr (2, [.ref hv, .ref hi, .ref hM, .ref hV, .ref hN, .int (nI P), .int (nI nr)])), (hv, .inl (X.2 0, 6, .inl (ia vl))), (hi, .inl (X.2 0, 6, .inl (ia (upN iv q (iv q ||| 1 * 2 ^ v))))), (hM, .inr (0, [.ref wM])), (wM, .inl (X.2 1, 64, .inr (.inl fM))), (hV, .inr (0, [.ref wV])), (wV, .inl (X.2 1, 64, .inr (.inl d.1))), (hN, .inr (0, [.ref wN])), (wN, .inl (X.2 1, 64, .inr (.inl d.2)))] := hD
        refine lv_iconst (v := nI 1) hx hb d_CR_invalid_42 (by decide) ?_
        exact retZ (u := (upN iv q (iv q ||| 1 * 2 ^ v), d.1, d.2)) hx hb hr hlk (by decide) hP hD hS (⟨by rw [iv_1 (by omega) (by omega) hc4 hhv hc28]; rfl, by rw [iv_1 (by omega) (by omega) hc4 hhv hc28, ivN_n (by omega) (by omega)]; rfl, hd.1, hd.2⟩) d_CR_invalid_43
      · rw [bI_z] at hc28
        refine lv_iconst (v := nI 0) hx hb d_CR_invalid_31 (by decide) ?_
        exact retZ (u := (iv, fV, fN)) hx hb hr hlk (by decide) hP hD hS (by first | exact ⟨by rw [iv_on hc4]; rfl, by rw [iv_on hc4]; rfl, hfV, hfN⟩ | exact ⟨by rw [iv_in (by omega) (by omega) hc28]; rfl, by rw [iv_in (by omega) (by omega) hc28]; rfl, hfV, hfN⟩ | exact ⟨by rw [iv_hv hc16]; rfl, by rw [iv_hv hc16]; rfl, hfV, hfN⟩) d_CR_invalid_32
set_option maxHeartbeats 4000000 in
set_option maxRecDepth 100000 in
theorem k_CR_relation (l : Launch) (X : Cx) (h0 hv hi hM hV hN : Nat) (P nr : Nat) (vl iv : Nat → Nat) (x0 hR t0 sa g0 ns : Nat) (on : Bool) (hP6 : P ≤ 6) (ak : Int64) (nk : Nat) (hnk : nk ≤ 8) (x y : Int32) : CtI l X (TY X) y_CR_relation cw_CR_relation ({ frames := 2, cells := 0, slots := 0, locals := 43 } : Room) [.ref x0, .int x, .int y] [(x0, .inr (5, [.ref h0, .ref hR, .ref t0, .ref sa, .ref g0, .int (nI ns), .int (bI on)])), (h0, .inr (2, [.ref hv, .ref hi, .ref hM, .ref hV, .ref hN, .int (nI P), .int (nI nr)])), (hR, .inr (1, [.long ak, .int (nI nk)]))] (S := Int64 × Nat) (fun r u => r = rlA on P nk x y ∧ u.2 = (bif rlO on P nk x y then nk + 1 else nk) ∧ ∀ s, s < 64 → bL u.1 s = (bL ak s || (rlO on P nk x y && adB x.toNatClampNeg y.toNatClampNeg s))) (fun u => [(x0, .inr (5, [.ref h0, .ref hR, .ref t0, .ref sa, .ref g0, .int (nI ns), .int (bI on)])), (h0, .inr (2, [.ref hv, .ref hi, .ref hM, .ref hV, .ref hN, .int (nI P), .int (nI nr)])), (hR, .inr (1, [.long u.1, .int (nI u.2)]))]) 0 0 := by
  refine metI (by decide) (Nat.le_of_ble_eq_true rfl) ?_
  intro p e s m below meth c A ls hB hl
  obtain ⟨hx, hb, hr, hml, hown, hlk, hin, hg, hA, hD, hP, hE⟩ := hB
  have hS : va_S A s.heap s.heap [] := va_S.rf
  have hl : lv_has ls 3 [(0, .ref x0), (1, .int x), (2, .int y)] := hl
  refine lv_aload_n hx hb d_CR_relation_0 rfl (lv_at hl 0 rfl) ?_
  refine va_get (D := X.1) (ci := 5) (v := .int (bI on)) (C := R_CR) (T := F_CR) (N := 7) hx hb hg in_CR hown hE.1 hP 0 rfl rfl 6 (by decide) (hg _ m_170) (fun _ h9 => h9) rfl d_CR_relation_1 ?_
  refine lv_if_eq (tgt := 9) hx hb d_CR_relation_4 (by decide) (fun hc4 => ?_) (fun hc4 => ?_)
  · rw [bI_z] at hc4
    refine lv_aload_n hx hb d_CR_relation_9 rfl (lv_at hl 0 rfl) ?_
    refine va_get (D := X.1) (ci := 5) (v := .ref h0) (C := R_CR) (T := F_CR) (N := 7) hx hb hg in_CR hown hE.1 hP 0 rfl rfl 0 (by decide) (hg _ m_164) (fun _ h9 => h9) rfl d_CR_relation_10 ?_
    refine lv_iload_n hx hb d_CR_relation_13 rfl (lv_at hl 1 rfl) ?_
    refine clVI (n := 1) (As := [.int x]) (rest := []) (wc := [(h0, .inr (2, [.ref hv, .ref hi, .ref hM, .ref hV, .ref hN, .int (nI P), .int (nI nr)]))]) (wr := [(x0, .inr (5, [.ref h0, .ref hR, .ref t0, .ref sa, .ref g0, .int (nI ns), .int (bI on)])), (hR, .inr (1, [.long ak, .int (nI nk)]))]) hx hb hml hown hg hE hA hP hD hS (k_Sp_isSet l X h0 hv hi hM hV hN P nr vl iv hP6 x) (gcons m_214 (gcons m_215 (gcons m_216 (gcons m_2 (gcons m_217 gG))))) (by decide +kernel) [1] [0, 2] rfl rfl (by decide) (by decide) (by decide) 0 rfl rfl rfl hl.1 (Nat.le_of_ble_eq_true rfl) rfl d_CR_relation_14 ⟨rfl, rfl, Nat.le_of_ble_eq_true rfl, Nat.le_of_ble_eq_true rfl⟩ (⟨Nat.le_of_ble_eq_true rfl, Nat.le_of_ble_eq_true rfl⟩) (fun r14 u14 H locs hq14 hP hD hS => ?_)
    have hq14 : r14 = bI (isS P x) := hq14
    subst hq14
    have hP := hP.sub (ws' := [(x0, .inr (5, [.ref h0, .ref hR, .ref t0, .ref sa, .ref g0, .int (nI ns), .int (bI on)])), (h0, .inr (2, [.ref hv, .ref hi, .ref hM, .ref hV, .ref hN, .int (nI P), .int (nI nr)])), (hR, .inr (1, [.long ak, .int (nI nk)]))]) [0, 2, 1] rfl
    have hD := hD.sub (ws' := [(x0, .inr (5, [.ref h0, .ref hR, .ref t0, .ref sa, .ref g0, .int (nI ns), .int (bI on)])), (h0, .inr (2, [.ref hv, .ref hi, .ref hM, .ref hV, .ref hN, .int (nI P), .int (nI nr)])), (hR, .inr (1, [.long ak, .int (nI nk)]))]) [0, 2, 1] (by decide) rfl
    refine lv_if_eq (tgt := 38) hx hb d_CR_relation_17 (by decide) (fun hc17 => ?_) (fun hc17 => ?_)
    · rw [bI_z] at hc17
      refine lv_bipush (v := (-2)) hx hb d_CR_relation_38 (by decide) ?_
      exact retI (u := (ak, nk)) hx hb hr hlk hP hD hS (by first | exact ⟨rlA_2 hc4 (rl_a hc17), by rw [rlO_2 (rl_a hc17)]; rfl, fun _ _ => or_f (rlO_2 (rl_a hc17))⟩ | exact ⟨rlA_2 hc4 (rl_b hc22), by rw [rlO_2 (rl_b hc22)]; rfl, fun _ _ => or_f (rlO_2 (rl_b hc22))⟩ | exact ⟨rlA_2 hc4 (rl_c hc27), by rw [rlO_2 (rl_c hc27)]; rfl, fun _ _ => or_f (rlO_2 (rl_c hc27))⟩ | exact ⟨rlA_2 hc4 (rl_d (by omega) hc35), by rw [rlO_2 (rl_d (by omega) hc35)]; rfl, fun _ _ => or_f (rlO_2 (rl_d (by omega) hc35))⟩) d_CR_relation_40
    · rw [bI_z] at hc17
      refine lv_iload_n hx hb d_CR_relation_20 rfl (lv_at hl 2 rfl) ?_
      refine lv_iconst (v := nI 1) hx hb d_CR_relation_21 (by decide) ?_
      refine lv_icmp_lt (tgt := 38) hx hb d_CR_relation_22 (by decide) (fun hc22 => ?_) (fun hc22 => ?_)
      · refine lv_bipush (v := (-2)) hx hb d_CR_relation_38 (by decide) ?_
        exact retI (u := (ak, nk)) hx hb hr hlk hP hD hS (by first | exact ⟨rlA_2 hc4 (rl_a hc17), by rw [rlO_2 (rl_a hc17)]; rfl, fun _ _ => or_f (rlO_2 (rl_a hc17))⟩ | exact ⟨rlA_2 hc4 (rl_b hc22), by rw [rlO_2 (rl_b hc22)]; rfl, fun _ _ => or_f (rlO_2 (rl_b hc22))⟩ | exact ⟨rlA_2 hc4 (rl_c hc27), by rw [rlO_2 (rl_c hc27)]; rfl, fun _ _ => or_f (rlO_2 (rl_c hc27))⟩ | exact ⟨rlA_2 hc4 (rl_d (by omega) hc35), by rw [rlO_2 (rl_d (by omega) hc35)]; rfl, fun _ _ => or_f (rlO_2 (rl_d (by omega) hc35))⟩) d_CR_relation_40
      · refine lv_iload_n hx hb d_CR_relation_25 rfl (lv_at hl 2 rfl) ?_
        refine lv_iconst (v := nI 3) hx hb d_CR_relation_26 (by decide) ?_
        refine lv_icmp_gt (tgt := 38) hx hb d_CR_relation_27 (by decide) (fun hc27 => ?_) (fun hc27 => ?_)
        · refine lv_bipush (v := (-2)) hx hb d_CR_relation_38 (by decide) ?_
          exact retI (u := (ak, nk)) hx hb hr hlk hP hD hS (by first | exact ⟨rlA_2 hc4 (rl_a hc17), by rw [rlO_2 (rl_a hc17)]; rfl, fun _ _ => or_f (rlO_2 (rl_a hc17))⟩ | exact ⟨rlA_2 hc4 (rl_b hc22), by rw [rlO_2 (rl_b hc22)]; rfl, fun _ _ => or_f (rlO_2 (rl_b hc22))⟩ | exact ⟨rlA_2 hc4 (rl_c hc27), by rw [rlO_2 (rl_c hc27)]; rfl, fun _ _ => or_f (rlO_2 (rl_c hc27))⟩ | exact ⟨rlA_2 hc4 (rl_d (by omega) hc35), by rw [rlO_2 (rl_d (by omega) hc35)]; rfl, fun _ _ => or_f (rlO_2 (rl_d (by omega) hc35))⟩) d_CR_relation_40
        · have hisS := hc17
          obtain ⟨n, hn0, hnP, rfl⟩ := isS_of hP6 hc17
          have h64 := pw2le hP6
          refine lv_iload_n hx hb d_CR_relation_30 rfl (lv_at hl 1 rfl) ?_
          refine clSI (n := 1) (As := [.int (nI n)]) (rest := []) (wc := []) (wr := [(x0, .inr (5, [.ref h0, .ref hR, .ref t0, .ref sa, .ref g0, .int (nI ns), .int (bI on)])), (h0, .inr (2, [.ref hv, .ref hi, .ref hM, .ref hV, .ref hN, .int (nI P), .int (nI nr)])), (hR, .inr (1, [.long ak, .int (nI nk)]))]) hx hb hml hown hg hE hA hP hD hS (k_JI_bitCount l X (nI n)) (gcons m_218 (gcons m_219 (gcons m_9 (gcons m_220 gG)))) (by decide +kernel) [] [0, 1, 2] rfl rfl (by decide) (by decide) (by decide) rfl hl.1 (Nat.le_of_ble_eq_true rfl) rfl d_CR_relation_31 ⟨rfl, rfl, Nat.le_of_ble_eq_true rfl, Nat.le_of_ble_eq_true rfl⟩ (⟨Nat.le_of_ble_eq_true rfl, Nat.le_of_ble_eq_true rfl⟩) (fun r31 u31 H locs hq31 hP hD hS => ?_)
          have hq31 : r31 = bcI (nI n) := hq31
          subst hq31
          have hP : va_P X.1 classes [(x0, .inr (5, [.ref h0, .ref hR, .ref t0, .ref sa, .ref g0, .int (nI ns), .int (bI on)])), (h0, .inr (2, [.ref hv, .ref hi, .ref hM, .ref hV, .ref hN, .int (nI P), .int (nI nr)])), (hR, .inr (1, [.long ak, .int (nI nk)]))] H := hP
          have hD : va_D A [(x0, .inr (5, [.ref h0, .ref hR, .ref t0, .ref sa, .ref g0, .int (nI ns), .int (bI on)])), (h0, .inr (2, [.ref hv, .ref hi, .ref hM, .ref hV, .ref hN, .int (nI P), .int (nI nr)])), (hR, .inr (1, [.long ak, .int (nI nk)]))] := hD
          refine topI (y := nI (cn n 6)) (bc6 (by omega)) ?_
          refine lv_iload_n hx hb d_CR_relation_34 rfl (lv_at hl 2 rfl) ?_
          refine lv_icmp_ge (tgt := 41) hx hb d_CR_relation_35 (by decide) (fun hc35 => ?_) (fun hc35 => ?_)
          · have hrl := rl_1 (by omega) hisS hc22 hc27 hc35
            refine lv_aload_n hx hb d_CR_relation_41 rfl (lv_at hl 0 rfl) ?_
            refine va_get (D := X.1) (ci := 5) (v := .ref hR) (C := R_CR) (T := F_CR) (N := 7) hx hb hg in_CR hown hE.1 hP 0 rfl rfl 1 (by decide) (hg _ m_165) (fun _ h9 => h9) rfl d_CR_relation_42 ?_
            refine va_get (D := X.1) (ci := 1) (v := .int (nI nk)) (C := R_Re) (T := F_Re) (N := 2) hx hb hg in_Re hown hE.1 hP 2 rfl rfl 1 (by decide) (hg _ m_102) (fun _ h9 => h9) rfl d_CR_relation_45 ?_
            refine lv_bipush (v := nI 8) hx hb d_CR_relation_48 (by decide) ?_
            refine lv_icmp_ne (tgt := 56) hx hb d_CR_relation_50 (by decide) (fun hc50 => ?_) (fun hc50 => ?_)
            · rw [nI_eq (by omega) (by omega)] at hc50
              refine lv_aload_n hx hb d_CR_relation_56 rfl (lv_at hl 0 rfl) ?_
              refine va_get (D := X.1) (ci := 5) (v := .ref hR) (C := R_CR) (T := F_CR) (N := 7) hx hb hg in_CR hown hE.1 hP 0 rfl rfl 1 (by decide) (hg _ m_165) (fun _ h9 => h9) rfl d_CR_relation_57 ?_
              refine lv_iload_n hx hb d_CR_relation_60 rfl (lv_at hl 1 rfl) ?_
              obtain ⟨k, hk1, hk3, rfl⟩ := x_mid (by decide) (by decide) hc22 hc27
              refine lv_iload_n hx hb d_CR_relation_61 rfl (lv_at hl 2 rfl) ?_
              refine clVV (n := 2) (As := [.int (nI n), .int (nI k)]) (rest := []) (wc := [(hR, .inr (1, [.long ak, .int (nI nk)]))]) (wr := [(x0, .inr (5, [.ref h0, .ref hR, .ref t0, .ref sa, .ref g0, .int (nI ns), .int (bI on)])), (h0, .inr (2, [.ref hv, .ref hi, .ref hM, .ref hV, .ref hN, .int (nI P), .int (nI nr)]))]) hx hb hml hown hg hE hA hP hD hS (k_Re_add l X hR ak nk n k (by omega) (by omega)) (gcons m_224 (gcons m_225 (gcons m_226 (gcons m_5 (gcons m_227 gG))))) (by decide +kernel) [2] [0, 1] rfl rfl (by decide) (by decide) (by decide) 0 rfl rfl rfl hl.1 (Nat.le_of_ble_eq_true rfl) rfl d_CR_relation_62 ⟨rfl, rfl, Nat.le_of_ble_eq_true rfl, Nat.le_of_ble_eq_true rfl⟩ (⟨Nat.le_of_ble_eq_true rfl, Nat.le_of_ble_eq_true rfl⟩) (fun d H locs hd hP hD hS => ?_)
              have hP : va_P X.1 classes [(x0, .inr (5, [.ref h0, .ref hR, .ref t0, .ref sa, .ref g0, .int (nI ns), .int (bI on)])), (h0, .inr (2, [.ref hv, .ref hi, .ref hM, .ref hV, .ref hN, .int (nI P), .int (nI nr)])), (hR, .inr (1, [.long d, .int (nI (nk + 1))]))] H := hP
              have hD : va_D A [(x0, .inr (5, [.ref h0, .ref hR, .ref t0, .ref sa, .ref g0, .int (nI ns), .int (bI on)])), (h0, .inr (2, [.ref hv, .ref hi, .ref hM, .ref hV, .ref hN, .int (nI P), .int (nI nr)])), (hR, .inr (1, [.long d, .int (nI (nk + 1))]))] := hD
              refine lv_aload_n hx hb d_CR_relation_65 rfl (lv_at hl 0 rfl) ?_
              refine va_get (D := X.1) (ci := 5) (v := .ref hR) (C := R_CR) (T := F_CR) (N := 7) hx hb hg in_CR hown hE.1 hP 0 rfl rfl 1 (by decide) (hg _ m_165) (fun _ h9 => h9) rfl d_CR_relation_66 ?_
              refine va_get (D := X.1) (ci := 1) (v := .int (nI (nk + 1))) (C := R_Re) (T := F_Re) (N := 2) hx hb hg in_Re hown hE.1 hP 2 rfl rfl 1 (by decide) (hg _ m_102) (fun _ h9 => h9) rfl d_CR_relation_69 ?_
              exact retI (u := (d, nk + 1)) hx hb hr hlk hP hD hS (⟨rlA_1 hc4 hrl hc50, by rw [rlO_1 hc4 hrl hc50]; rfl, fun s9 h9 => by rw [nI_clamp (by omega), nI_clamp (by omega)]; exact (hd s9 h9).trans (or_t (rlO_1 hc4 hrl hc50))⟩) d_CR_relation_72
            · rw [nI_eq (by omega) (by omega)] at hc50
              refine lv_bipush (v := (-3)) hx hb d_CR_relation_53 (by decide) ?_
              exact retI (u := (ak, nk)) hx hb hr hlk hP hD hS (⟨rlA_3 hc4 hrl hc50, by rw [rlO_3 hc50]; rfl, fun _ _ => or_f (rlO_3 hc50)⟩) d_CR_relation_55
          · refine lv_bipush (v := (-2)) hx hb d_CR_relation_38 (by decide) ?_
            exact retI (u := (ak, nk)) hx hb hr hlk hP hD hS (by first | exact ⟨rlA_2 hc4 (rl_a hc17), by rw [rlO_2 (rl_a hc17)]; rfl, fun _ _ => or_f (rlO_2 (rl_a hc17))⟩ | exact ⟨rlA_2 hc4 (rl_b hc22), by rw [rlO_2 (rl_b hc22)]; rfl, fun _ _ => or_f (rlO_2 (rl_b hc22))⟩ | exact ⟨rlA_2 hc4 (rl_c hc27), by rw [rlO_2 (rl_c hc27)]; rfl, fun _ _ => or_f (rlO_2 (rl_c hc27))⟩ | exact ⟨rlA_2 hc4 (rl_d (by omega) hc35), by rw [rlO_2 (rl_d (by omega) hc35)]; rfl, fun _ _ => or_f (rlO_2 (rl_d (by omega) hc35))⟩) d_CR_relation_40
  · rw [bI_z] at hc4
    refine lv_iconst (v := (-1)) hx hb d_CR_relation_7 (by decide) ?_
    exact retI (u := (ak, nk)) hx hb hr hlk hP hD hS (⟨rlA_on hc4, by rw [rlO_on hc4]; rfl, fun _ _ => or_f (rlO_on hc4)⟩) d_CR_relation_8
