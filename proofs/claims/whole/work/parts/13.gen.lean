set_option maxHeartbeats 4000000 in
set_option maxRecDepth 100000 in
theorem k_Sp_addParameter (l : Launch) (X : Cx) (h0 hv hi hM hV hN : Nat) (P nr : Nat) (vl iv : Nat → Nat) (hvl : ∀ p, p < 6 → 1 ≤ vl p ∧ vl p ≤ 4) (hiv : ∀ p, p < 6 → iv p < 16) (wM wV wN : Nat) (fM fV fN : Nat → Int64) (M : Nat → Bool) (hM0 : RS fM M) (v : Nat) (hv2 : 2 ≤ v) (hv4 : v ≤ 4) (hP5 : P < 6) : CtV l X (TY X) y_Sp_addParameter cw_Sp_addParameter ({ frames := 4, cells := 0, slots := 0, locals := 99 } : Room) [.ref h0, .int (nI v)] [(h0, .inr (2, [.ref hv, .ref hi, .ref hM, .ref hV, .ref hN, .int (nI P), .int (nI nr)])), (hv, .inl (X.2 0, 6, .inl (ia vl))), (hi, .inl (X.2 0, 6, .inl (ia iv))), (hM, .inr (0, [.ref wM])), (wM, .inl (X.2 1, 64, .inr (.inl fM))), (hV, .inr (0, [.ref wV])), (wV, .inl (X.2 1, 64, .inr (.inl fV))), (hN, .inr (0, [.ref wN])), (wN, .inl (X.2 1, 64, .inr (.inl fN)))] (S := (Nat → Int64) × (Nat → Int64)) (fun d => RS d.1 (fun r => vK (upN vl P v) iv M r 6) ∧ RS d.2 (fun r => nK (upN vl P v) iv M r 6)) (fun d => [(h0, .inr (2, [.ref hv, .ref hi, .ref hM, .ref hV, .ref hN, .int (nI (P + 1)), .int (nI nr)])), (hv, .inl (X.2 0, 6, .inl (ia (upN vl P v)))), (hi, .inl (X.2 0, 6, .inl (ia iv))), (hM, .inr (0, [.ref wM])), (wM, .inl (X.2 1, 64, .inr (.inl fM))), (hV, .inr (0, [.ref wV])), (wV, .inl (X.2 1, 64, .inr (.inl d.1))), (hN, .inr (0, [.ref wN])), (wN, .inl (X.2 1, 64, .inr (.inl d.2)))]) 0 0 := by
  refine metV (by decide) (Nat.le_of_ble_eq_true rfl) ?_
  intro p e s m below meth c A ls hB hl
  obtain ⟨hx, hb, hr, hml, hown, hlk, hin, hg, hA, hD, hP, hE⟩ := hB
  have hS : va_S A s.heap s.heap [] := va_S.rf
  have hl : lv_has ls 2 [(0, .ref h0), (1, .int (nI v))] := hl
  refine lv_aload_n hx hb d_Sp_addParameter_0 rfl (lv_at hl 0 rfl) ?_
  refine va_get (D := X.1) (ci := 2) (v := .ref hv) (C := R_Sp) (T := F_Sp) (N := 7) hx hb hg in_Sp hown hE.1 hP 0 rfl rfl 0 (by decide) (hg _ m_66) (fun _ h9 => h9) rfl d_Sp_addParameter_1 ?_
  refine lv_aload_n hx hb d_Sp_addParameter_4 rfl (lv_at hl 0 rfl) ?_
  refine va_get (D := X.1) (ci := 2) (v := .int (nI P)) (C := R_Sp) (T := F_Sp) (N := 7) hx hb hg in_Sp hown hE.1 hP 0 rfl rfl 5 (by decide) (hg _ m_75) (fun _ h9 => h9) rfl d_Sp_addParameter_5 ?_
  refine lv_iload_n hx hb d_Sp_addParameter_8 rfl (lv_at hl 1 rfl) ?_
  refine va_iast hx hb hE.1 hP hD hS 1 0 rfl rfl (vp_in_nI (by omega) (by decide)) d_Sp_addParameter_9 (fun H locs hP hD hS => ?_)
  have hP : va_P X.1 classes [(h0, .inr (2, [.ref hv, .ref hi, .ref hM, .ref hV, .ref hN, .int (nI P), .int (nI nr)])), (hv, .inl (X.2 0, 6, .inl (upd (ia vl) (nI P).toNatClampNeg (nI v)))), (hi, .inl (X.2 0, 6, .inl (ia iv))), (hM, .inr (0, [.ref wM])), (wM, .inl (X.2 1, 64, .inr (.inl fM))), (hV, .inr (0, [.ref wV])), (wV, .inl (X.2 1, 64, .inr (.inl fV))), (hN, .inr (0, [.ref wN])), (wN, .inl (X.2 1, 64, .inr (.inl fN)))] H := hP
  have hD : va_D A [(h0, .inr (2, [.ref hv, .ref hi, .ref hM, .ref hV, .ref hN, .int (nI P), .int (nI nr)])), (hv, .inl (X.2 0, 6, .inl (upd (ia vl) (nI P).toNatClampNeg (nI v)))), (hi, .inl (X.2 0, 6, .inl (ia iv))), (hM, .inr (0, [.ref wM])), (wM, .inl (X.2 1, 64, .inr (.inl fM))), (hV, .inr (0, [.ref wV])), (wV, .inl (X.2 1, 64, .inr (.inl fV))), (hN, .inr (0, [.ref wN])), (wN, .inl (X.2 1, 64, .inr (.inl fN)))] := hD
  rw [nI_clamp (show P < 2 ^ 31 by omega)] at hP hD
  have e9 : upd (ia vl) P (nI v) = ia (upN vl P v) := upd_ia _ _ _
  rw [e9] at hP hD
  clear e9
  refine lv_aload_n hx hb d_Sp_addParameter_10 rfl (lv_at hl 0 rfl) ?_
  refine lv_dup hx hb d_Sp_addParameter_11 rfl ?_
  refine va_get (D := X.1) (ci := 2) (v := .int (nI P)) (C := R_Sp) (T := F_Sp) (N := 7) hx hb hg in_Sp hown hE.1 hP 0 rfl rfl 5 (by decide) (hg _ m_75) (fun _ h9 => h9) rfl d_Sp_addParameter_12 ?_
  refine lv_iconst (v := nI 1) hx hb d_Sp_addParameter_15 (by decide) ?_
  refine lv_iadd hx hb d_Sp_addParameter_16 ?_
  refine topI (nI_add _ _) ?_
  refine va_put (D := X.1) (ci := 2) (v := .int (nI (P + 1))) (ty := .int) (C := R_Sp) (T := F_Sp) (N := 7) hx hb hg in_Sp t_Sp t_Sp_ok n_Sp hown hE.1 hP hD hS 0 rfl rfl 5 (by decide) (hg _ m_75) (fun _ h9 => h9) rfl (by decide +kernel) rfl rfl (Nat.le_of_ble_eq_true rfl) d_Sp_addParameter_17 (fun H locs hP hD hS => ?_)
  have hP : va_P X.1 classes [(h0, .inr (2, [.ref hv, .ref hi, .ref hM, .ref hV, .ref hN, .int (nI (P + 1)), .int (nI nr)])), (hv, .inl (X.2 0, 6, .inl (ia (upN vl P v)))), (hi, .inl (X.2 0, 6, .inl (ia iv))), (hM, .inr (0, [.ref wM])), (wM, .inl (X.2 1, 64, .inr (.inl fM))), (hV, .inr (0, [.ref wV])), (wV, .inl (X.2 1, 64, .inr (.inl fV))), (hN, .inr (0, [.ref wN])), (wN, .inl (X.2 1, 64, .inr (.inl fN)))] H := hP
  have hD : va_D A [(h0, .inr (2, [.ref hv, .ref hi, .ref hM, .ref hV, .ref hN, .int (nI (P + 1)), .int (nI nr)])), (hv, .inl (X.2 0, 6, .inl (ia (upN vl P v)))), (hi, .inl (X.2 0, 6, .inl (ia iv))), (hM, .inr (0, [.ref wM])), (wM, .inl (X.2 1, 64, .inr (.inl fM))), (hV, .inr (0, [.ref wV])), (wV, .inl (X.2 1, 64, .inr (.inl fV))), (hN, .inr (0, [.ref wN])), (wN, .inl (X.2 1, 64, .inr (.inl fN)))] := hD
  refine lv_aload_n hx hb d_Sp_addParameter_20 rfl (lv_at hl 0 rfl) ?_
  refine clVV (n := 0) (As := []) (rest := []) (wc := [(h0, .inr (2, [.ref hv, .ref hi, .ref hM, .ref hV, .ref hN, .int (nI (P + 1)), .int (nI nr)])), (hv, .inl (X.2 0, 6, .inl (ia (upN vl P v)))), (hi, .inl (X.2 0, 6, .inl (ia iv))), (hM, .inr (0, [.ref wM])), (wM, .inl (X.2 1, 64, .inr (.inl fM))), (hV, .inr (0, [.ref wV])), (wV, .inl (X.2 1, 64, .inr (.inl fV))), (hN, .inr (0, [.ref wN])), (wN, .inl (X.2 1, 64, .inr (.inl fN)))]) (wr := []) hx hb hml hown hg hE hA hP hD hS (k_Sp_sortRows l X h0 hv hi hM hV hN (P + 1) nr (upN vl P v) iv (upV hvl hv2 hv4) hiv wM wV wN fM fV fN M hM0) (gcons m_50 (gcons m_52 (gcons ms_Sp_sortRows (gcons m_2 (gcons m_53 gG))))) (by decide +kernel) [0, 1, 2, 3, 4, 5, 6, 7, 8] [] rfl rfl (by decide) (by decide) (by decide) 0 rfl rfl rfl hl.1 (Nat.le_of_ble_eq_true rfl) rfl d_Sp_addParameter_21 ⟨rfl, rfl, Nat.le_of_ble_eq_true rfl, Nat.le_of_ble_eq_true rfl⟩ (⟨Nat.le_of_ble_eq_true rfl, Nat.le_of_ble_eq_true rfl⟩) (fun d H locs hd hP hD hS => ?_)
  have hP : va_P X.1 classes [(h0, .inr (2, [.ref hv, .ref hi, .ref hM, .ref hV, .ref hN, .int (nI (P + 1)), .int (nI nr)])), (hv, .inl (X.2 0, 6, .inl (ia (upN vl P v)))), (hi, .inl (X.2 0, 6, .inl (ia iv))), (hM, .inr (0, [.ref wM])), (wM, .inl (X.2 1, 64, .inr (.inl fM))), (hV, .inr (0, [.ref wV])), (wV, .inl (X.2 1, 64, .inr (.inl d.1))), (hN, .inr (0, [.ref wN])), (wN, .inl (X.2 1, 64, .inr (.inl d.2)))] H := hP
  have hD : va_D A [(h0, .inr (2, [.ref hv, .ref hi, .ref hM, .ref hV, .ref hN, .int (nI (P + 1)), .int (nI nr)])), (hv, .inl (X.2 0, 6, .inl (ia (upN vl P v)))), (hi, .inl (X.2 0, 6, .inl (ia iv))), (hM, .inr (0, [.ref wM])), (wM, .inl (X.2 1, 64, .inr (.inl fM))), (hV, .inr (0, [.ref wV])), (wV, .inl (X.2 1, 64, .inr (.inl d.1))), (hN, .inr (0, [.ref wN])), (wN, .inl (X.2 1, 64, .inr (.inl d.2)))] := hD
  exact retV (u := d) hx hb hr hlk hP hD hS (hd) d_Sp_addParameter_24
set_option maxHeartbeats 4000000 in
set_option maxRecDepth 100000 in
theorem k_Sp_makeInvalid (l : Launch) (X : Cx) (h0 hv hi hM hV hN : Nat) (P nr : Nat) (vl iv : Nat → Nat) (hvl : ∀ p, p < 6 → 1 ≤ vl p ∧ vl p ≤ 4) (hiv : ∀ p, p < 6 → iv p < 16) (wM wV wN : Nat) (fM fV fN : Nat → Int64) (M : Nat → Bool) (hM0 : RS fM M) (q v : Nat) (hq : q < 6) (hv4 : v < 4) : CtV l X (TY X) y_Sp_makeInvalid cw_Sp_makeInvalid ({ frames := 4, cells := 0, slots := 0, locals := 99 } : Room) [.ref h0, .int (nI q), .int (nI v)] [(h0, .inr (2, [.ref hv, .ref hi, .ref hM, .ref hV, .ref hN, .int (nI P), .int (nI nr)])), (hv, .inl (X.2 0, 6, .inl (ia vl))), (hi, .inl (X.2 0, 6, .inl (ia iv))), (hM, .inr (0, [.ref wM])), (wM, .inl (X.2 1, 64, .inr (.inl fM))), (hV, .inr (0, [.ref wV])), (wV, .inl (X.2 1, 64, .inr (.inl fV))), (hN, .inr (0, [.ref wN])), (wN, .inl (X.2 1, 64, .inr (.inl fN)))] (S := (Nat → Int64) × (Nat → Int64)) (fun d => RS d.1 (fun r => vK vl (upN iv q (iv q ||| 1 * 2 ^ v)) M r 6) ∧ RS d.2 (fun r => nK vl (upN iv q (iv q ||| 1 * 2 ^ v)) M r 6)) (fun d => [(h0, .inr (2, [.ref hv, .ref hi, .ref hM, .ref hV, .ref hN, .int (nI P), .int (nI nr)])), (hv, .inl (X.2 0, 6, .inl (ia vl))), (hi, .inl (X.2 0, 6, .inl (ia (upN iv q (iv q ||| 1 * 2 ^ v))))), (hM, .inr (0, [.ref wM])), (wM, .inl (X.2 1, 64, .inr (.inl fM))), (hV, .inr (0, [.ref wV])), (wV, .inl (X.2 1, 64, .inr (.inl d.1))), (hN, .inr (0, [.ref wN])), (wN, .inl (X.2 1, 64, .inr (.inl d.2)))]) 0 0 := by
  refine metV (by decide) (Nat.le_of_ble_eq_true rfl) ?_
  intro p e s m below meth c A ls hB hl
  obtain ⟨hx, hb, hr, hml, hown, hlk, hin, hg, hA, hD, hP, hE⟩ := hB
  have hS : va_S A s.heap s.heap [] := va_S.rf
  have hl : lv_has ls 3 [(0, .ref h0), (1, .int (nI q)), (2, .int (nI v))] := hl
  refine lv_aload_n hx hb d_Sp_makeInvalid_0 rfl (lv_at hl 0 rfl) ?_
  refine va_get (D := X.1) (ci := 2) (v := .ref hi) (C := R_Sp) (T := F_Sp) (N := 7) hx hb hg in_Sp hown hE.1 hP 0 rfl rfl 1 (by decide) (hg _ m_67) (fun _ h9 => h9) rfl d_Sp_makeInvalid_1 ?_
  refine lv_iload_n hx hb d_Sp_makeInvalid_4 rfl (lv_at hl 1 rfl) ?_
  refine lv_dup2_11 hx hb d_Sp_makeInvalid_5 rfl rfl ?_
  refine va_iald hx hb hE.1 hP 2 0 rfl rfl (vp_in_nI (by omega) (by decide)) d_Sp_makeInvalid_6 ?_
  refine topI (y := (ia iv) q) (by rw [nI_clamp (by omega)]) ?_
  refine topI (y := nI (iv q)) (rfl) ?_
  refine lv_iconst (v := nI 1) hx hb d_Sp_makeInvalid_7 (by decide) ?_
  refine lv_iload_n hx hb d_Sp_makeInvalid_8 rfl (lv_at hl 2 rfl) ?_
  refine lv_ishl hx hb d_Sp_makeInvalid_9 ?_
  refine topI (shlN (by omega) (pw1 (by omega))) ?_
  refine lv_ior hx hb d_Sp_makeInvalid_10 ?_
  refine topI (nx_or _ _) ?_
  refine va_iast hx hb hE.1 hP hD hS 2 0 rfl rfl (vp_in_nI (by omega) (by decide)) d_Sp_makeInvalid_11 (fun H locs hP hD hS => ?_)
  have hP : va_P X.1 classes [(h0, .inr (2, [.ref hv, .ref hi, .ref hM, .ref hV, .ref hN, .int (nI P), .int (nI nr)])), (hv, .inl (X.2 0, 6, .inl (ia vl))), (hi, .inl (X.2 0, 6, .inl (upd (ia iv) (nI q).toNatClampNeg (nI ((iv q) ||| (1 * 2 ^ v)))))), (hM, .inr (0, [.ref wM])), (wM, .inl (X.2 1, 64, .inr (.inl fM))), (hV, .inr (0, [.ref wV])), (wV, .inl (X.2 1, 64, .inr (.inl fV))), (hN, .inr (0, [.ref wN])), (wN, .inl (X.2 1, 64, .inr (.inl fN)))] H := hP
  have hD : va_D A [(h0, .inr (2, [.ref hv, .ref hi, .ref hM, .ref hV, .ref hN, .int (nI P), .int (nI nr)])), (hv, .inl (X.2 0, 6, .inl (ia vl))), (hi, .inl (X.2 0, 6, .inl (upd (ia iv) (nI q).toNatClampNeg (nI ((iv q) ||| (1 * 2 ^ v)))))), (hM, .inr (0, [.ref wM])), (wM, .inl (X.2 1, 64, .inr (.inl fM))), (hV, .inr (0, [.ref wV])), (wV, .inl (X.2 1, 64, .inr (.inl fV))), (hN, .inr (0, [.ref wN])), (wN, .inl (X.2 1, 64, .inr (.inl fN)))] := hD
  rw [nI_clamp (show q < 2 ^ 31 by omega)] at hP hD
  have e9 : upd (ia iv) q (nI ((iv q) ||| (1 * 2 ^ v))) = ia (upN iv q (iv q ||| 1 * 2 ^ v)) := upd_ia _ _ _
  rw [e9] at hP hD
  clear e9
  refine lv_aload_n hx hb d_Sp_makeInvalid_12 rfl (lv_at hl 0 rfl) ?_
  refine clVV (n := 0) (As := []) (rest := []) (wc := [(h0, .inr (2, [.ref hv, .ref hi, .ref hM, .ref hV, .ref hN, .int (nI P), .int (nI nr)])), (hv, .inl (X.2 0, 6, .inl (ia vl))), (hi, .inl (X.2 0, 6, .inl (ia (upN iv q (iv q ||| 1 * 2 ^ v))))), (hM, .inr (0, [.ref wM])), (wM, .inl (X.2 1, 64, .inr (.inl fM))), (hV, .inr (0, [.ref wV])), (wV, .inl (X.2 1, 64, .inr (.inl fV))), (hN, .inr (0, [.ref wN])), (wN, .inl (X.2 1, 64, .inr (.inl fN)))]) (wr := []) hx hb hml hown hg hE hA hP hD hS (k_Sp_sortRows l X h0 hv hi hM hV hN P nr vl (upN iv q (iv q ||| 1 * 2 ^ v)) hvl (upI hiv (or16 (hiv q hq) hv4)) wM wV wN fM fV fN M hM0) (gcons m_50 (gcons m_52 (gcons ms_Sp_sortRows (gcons m_2 (gcons m_53 gG))))) (by decide +kernel) [0, 1, 2, 3, 4, 5, 6, 7, 8] [] rfl rfl (by decide) (by decide) (by decide) 0 rfl rfl rfl hl.1 (Nat.le_of_ble_eq_true rfl) rfl d_Sp_makeInvalid_13 ⟨rfl, rfl, Nat.le_of_ble_eq_true rfl, Nat.le_of_ble_eq_true rfl⟩ (⟨Nat.le_of_ble_eq_true rfl, Nat.le_of_ble_eq_true rfl⟩) (fun d H locs hd hP hD hS => ?_)
  have hP : va_P X.1 classes [(h0, .inr (2, [.ref hv, .ref hi, .ref hM, .ref hV, .ref hN, .int (nI P), .int (nI nr)])), (hv, .inl (X.2 0, 6, .inl (ia vl))), (hi, .inl (X.2 0, 6, .inl (ia (upN iv q (iv q ||| 1 * 2 ^ v))))), (hM, .inr (0, [.ref wM])), (wM, .inl (X.2 1, 64, .inr (.inl fM))), (hV, .inr (0, [.ref wV])), (wV, .inl (X.2 1, 64, .inr (.inl d.1))), (hN, .inr (0, [.ref wN])), (wN, .inl (X.2 1, 64, .inr (.inl d.2)))] H := hP
  have hD : va_D A [(h0, .inr (2, [.ref hv, .ref hi, .ref hM, .ref hV, .ref hN, .int (nI P), .int (nI nr)])), (hv, .inl (X.2 0, 6, .inl (ia vl))), (hi, .inl (X.2 0, 6, .inl (ia (upN iv q (iv q ||| 1 * 2 ^ v))))), (hM, .inr (0, [.ref wM])), (wM, .inl (X.2 1, 64, .inr (.inl fM))), (hV, .inr (0, [.ref wV])), (wV, .inl (X.2 1, 64, .inr (.inl d.1))), (hN, .inr (0, [.ref wN])), (wN, .inl (X.2 1, 64, .inr (.inl d.2)))] := hD
  exact retV (u := d) hx hb hr hlk hP hD hS (hd) d_Sp_makeInvalid_16
set_option maxHeartbeats 4000000 in
set_option maxRecDepth 100000 in
theorem k_Sp_addRule (l : Launch) (X : Cx) (h0 hv hi hM hV hN : Nat) (P nr : Nat) (vl iv : Nat → Nat) (hvl : ∀ p, p < 6 → 1 ≤ vl p ∧ vl p ≤ 4) (hiv : ∀ p, p < 6 → iv p < 16) (wM wV wN : Nat) (fM fV fN : Nat → Int64) (M : Nat → Bool) (hM0 : RS fM M) (hT wT : Nat) (fT : Nat → Int64) (T : Nat → Bool) (hT0 : RS fT T) : CtV l X (TY X) y_Sp_addRule cw_Sp_addRule ({ frames := 4, cells := 0, slots := 0, locals := 99 } : Room) [.ref h0, .ref hT] [(h0, .inr (2, [.ref hv, .ref hi, .ref hM, .ref hV, .ref hN, .int (nI P), .int (nI nr)])), (hv, .inl (X.2 0, 6, .inl (ia vl))), (hi, .inl (X.2 0, 6, .inl (ia iv))), (hM, .inr (0, [.ref wM])), (wM, .inl (X.2 1, 64, .inr (.inl fM))), (hV, .inr (0, [.ref wV])), (wV, .inl (X.2 1, 64, .inr (.inl fV))), (hN, .inr (0, [.ref wN])), (wN, .inl (X.2 1, 64, .inr (.inl fN))), (hT, .inr (0, [.ref wT])), (wT, .inl (X.2 1, 64, .inr (.inl fT)))] (S := (Nat → Int64) × (Nat → Int64) × (Nat → Int64)) (fun d => RS d.1 (fun r => M r && T r) ∧ RS d.2.1 (fun r => vK vl iv (fun r => M r && T r) r 6) ∧ RS d.2.2 (fun r => nK vl iv (fun r => M r && T r) r 6)) (fun d => [(h0, .inr (2, [.ref hv, .ref hi, .ref hM, .ref hV, .ref hN, .int (nI P), .int (nI (nr + 1))])), (hv, .inl (X.2 0, 6, .inl (ia vl))), (hi, .inl (X.2 0, 6, .inl (ia iv))), (hM, .inr (0, [.ref wM])), (wM, .inl (X.2 1, 64, .inr (.inl d.1))), (hV, .inr (0, [.ref wV])), (wV, .inl (X.2 1, 64, .inr (.inl d.2.1))), (hN, .inr (0, [.ref wN])), (wN, .inl (X.2 1, 64, .inr (.inl d.2.2))), (hT, .inr (0, [.ref wT])), (wT, .inl (X.2 1, 64, .inr (.inl fT)))]) 0 0 := by
  refine metV (by decide) (Nat.le_of_ble_eq_true rfl) ?_
  intro p e s m below meth c A ls hB hl
  obtain ⟨hx, hb, hr, hml, hown, hlk, hin, hg, hA, hD, hP, hE⟩ := hB
  have hS : va_S A s.heap s.heap [] := va_S.rf
  have hl : lv_has ls 2 [(0, .ref h0), (1, .ref hT)] := hl
  refine lv_aload_n hx hb d_Sp_addRule_0 rfl (lv_at hl 0 rfl) ?_
  refine va_get (D := X.1) (ci := 2) (v := .ref hM) (C := R_Sp) (T := F_Sp) (N := 7) hx hb hg in_Sp hown hE.1 hP 0 rfl rfl 2 (by decide) (hg _ m_68) (fun _ h9 => h9) rfl d_Sp_addRule_1 ?_
  refine lv_aload_n hx hb d_Sp_addRule_4 rfl (lv_at hl 1 rfl) ?_
  refine clVV (n := 1) (As := [.ref hT]) (rest := []) (wc := [(hM, .inr (0, [.ref wM])), (wM, .inl (X.2 1, 64, .inr (.inl fM))), (hT, .inr (0, [.ref wT])), (wT, .inl (X.2 1, 64, .inr (.inl fT)))]) (wr := [(h0, .inr (2, [.ref hv, .ref hi, .ref hM, .ref hV, .ref hN, .int (nI P), .int (nI nr)])), (hv, .inl (X.2 0, 6, .inl (ia vl))), (hi, .inl (X.2 0, 6, .inl (ia iv))), (hV, .inr (0, [.ref wV])), (wV, .inl (X.2 1, 64, .inr (.inl fV))), (hN, .inr (0, [.ref wN])), (wN, .inl (X.2 1, 64, .inr (.inl fN)))]) hx hb hml hown hg hE hA hP hD hS (k_NS_becomeAnd l X hM wM hT wT fM fT M T hM0 hT0) (gcons m_288 (gcons m_269 (gcons m_270 (gcons m_3 (gcons m_271 gG))))) (by decide +kernel) [3, 4, 9, 10] [0, 1, 2, 5, 6, 7, 8] rfl rfl (by decide) (by decide) (by decide) 0 rfl rfl rfl hl.1 (Nat.le_of_ble_eq_true rfl) rfl d_Sp_addRule_5 ⟨rfl, rfl, Nat.le_of_ble_eq_true rfl, Nat.le_of_ble_eq_true rfl⟩ (⟨Nat.le_of_ble_eq_true rfl, Nat.le_of_ble_eq_true rfl⟩) (fun f2 H locs hf2 hP hD hS => ?_)
  have hP := hP.sub (ws' := [(h0, .inr (2, [.ref hv, .ref hi, .ref hM, .ref hV, .ref hN, .int (nI P), .int (nI nr)])), (hv, .inl (X.2 0, 6, .inl (ia vl))), (hi, .inl (X.2 0, 6, .inl (ia iv))), (hM, .inr (0, [.ref wM])), (wM, .inl (X.2 1, 64, .inr (.inl f2))), (hV, .inr (0, [.ref wV])), (wV, .inl (X.2 1, 64, .inr (.inl fV))), (hN, .inr (0, [.ref wN])), (wN, .inl (X.2 1, 64, .inr (.inl fN))), (hT, .inr (0, [.ref wT])), (wT, .inl (X.2 1, 64, .inr (.inl fT)))]) [0, 1, 2, 7, 8, 3, 4, 5, 6, 9, 10] rfl
  have hD := hD.sub (ws' := [(h0, .inr (2, [.ref hv, .ref hi, .ref hM, .ref hV, .ref hN, .int (nI P), .int (nI nr)])), (hv, .inl (X.2 0, 6, .inl (ia vl))), (hi, .inl (X.2 0, 6, .inl (ia iv))), (hM, .inr (0, [.ref wM])), (wM, .inl (X.2 1, 64, .inr (.inl f2))), (hV, .inr (0, [.ref wV])), (wV, .inl (X.2 1, 64, .inr (.inl fV))), (hN, .inr (0, [.ref wN])), (wN, .inl (X.2 1, 64, .inr (.inl fN))), (hT, .inr (0, [.ref wT])), (wT, .inl (X.2 1, 64, .inr (.inl fT)))]) [0, 1, 2, 7, 8, 3, 4, 5, 6, 9, 10] (by decide) rfl
  refine lv_aload_n hx hb d_Sp_addRule_8 rfl (lv_at hl 0 rfl) ?_
  refine lv_dup hx hb d_Sp_addRule_9 rfl ?_
  refine va_get (D := X.1) (ci := 2) (v := .int (nI nr)) (C := R_Sp) (T := F_Sp) (N := 7) hx hb hg in_Sp hown hE.1 hP 0 rfl rfl 6 (by decide) (hg _ m_77) (fun _ h9 => h9) rfl d_Sp_addRule_10 ?_
  refine lv_iconst (v := nI 1) hx hb d_Sp_addRule_13 (by decide) ?_
  refine lv_iadd hx hb d_Sp_addRule_14 ?_
  refine topI (nI_add _ _) ?_
  refine va_put (D := X.1) (ci := 2) (v := .int (nI (nr + 1))) (ty := .int) (C := R_Sp) (T := F_Sp) (N := 7) hx hb hg in_Sp t_Sp t_Sp_ok n_Sp hown hE.1 hP hD hS 0 rfl rfl 6 (by decide) (hg _ m_77) (fun _ h9 => h9) rfl (by decide +kernel) rfl rfl (Nat.le_of_ble_eq_true rfl) d_Sp_addRule_15 (fun H locs hP hD hS => ?_)
  have hP : va_P X.1 classes [(h0, .inr (2, [.ref hv, .ref hi, .ref hM, .ref hV, .ref hN, .int (nI P), .int (nI (nr + 1))])), (hv, .inl (X.2 0, 6, .inl (ia vl))), (hi, .inl (X.2 0, 6, .inl (ia iv))), (hM, .inr (0, [.ref wM])), (wM, .inl (X.2 1, 64, .inr (.inl f2))), (hV, .inr (0, [.ref wV])), (wV, .inl (X.2 1, 64, .inr (.inl fV))), (hN, .inr (0, [.ref wN])), (wN, .inl (X.2 1, 64, .inr (.inl fN))), (hT, .inr (0, [.ref wT])), (wT, .inl (X.2 1, 64, .inr (.inl fT)))] H := hP
  have hD : va_D A [(h0, .inr (2, [.ref hv, .ref hi, .ref hM, .ref hV, .ref hN, .int (nI P), .int (nI (nr + 1))])), (hv, .inl (X.2 0, 6, .inl (ia vl))), (hi, .inl (X.2 0, 6, .inl (ia iv))), (hM, .inr (0, [.ref wM])), (wM, .inl (X.2 1, 64, .inr (.inl f2))), (hV, .inr (0, [.ref wV])), (wV, .inl (X.2 1, 64, .inr (.inl fV))), (hN, .inr (0, [.ref wN])), (wN, .inl (X.2 1, 64, .inr (.inl fN))), (hT, .inr (0, [.ref wT])), (wT, .inl (X.2 1, 64, .inr (.inl fT)))] := hD
  refine lv_aload_n hx hb d_Sp_addRule_18 rfl (lv_at hl 0 rfl) ?_
  refine clVV (n := 0) (As := []) (rest := []) (wc := [(h0, .inr (2, [.ref hv, .ref hi, .ref hM, .ref hV, .ref hN, .int (nI P), .int (nI (nr + 1))])), (hv, .inl (X.2 0, 6, .inl (ia vl))), (hi, .inl (X.2 0, 6, .inl (ia iv))), (hM, .inr (0, [.ref wM])), (wM, .inl (X.2 1, 64, .inr (.inl f2))), (hV, .inr (0, [.ref wV])), (wV, .inl (X.2 1, 64, .inr (.inl fV))), (hN, .inr (0, [.ref wN])), (wN, .inl (X.2 1, 64, .inr (.inl fN)))]) (wr := [(hT, .inr (0, [.ref wT])), (wT, .inl (X.2 1, 64, .inr (.inl fT)))]) hx hb hml hown hg hE hA hP hD hS (k_Sp_sortRows l X h0 hv hi hM hV hN P (nr + 1) vl iv hvl hiv wM wV wN f2 fV fN _ hf2) (gcons m_50 (gcons m_52 (gcons ms_Sp_sortRows (gcons m_2 (gcons m_53 gG))))) (by decide +kernel) [0, 1, 2, 3, 4, 5, 6, 7, 8] [9, 10] rfl rfl (by decide) (by decide) (by decide) 0 rfl rfl rfl hl.1 (Nat.le_of_ble_eq_true rfl) rfl d_Sp_addRule_19 ⟨rfl, rfl, Nat.le_of_ble_eq_true rfl, Nat.le_of_ble_eq_true rfl⟩ (⟨Nat.le_of_ble_eq_true rfl, Nat.le_of_ble_eq_true rfl⟩) (fun d H locs hd hP hD hS => ?_)
  have hP := hP.sub (ws' := [(h0, .inr (2, [.ref hv, .ref hi, .ref hM, .ref hV, .ref hN, .int (nI P), .int (nI (nr + 1))])), (hv, .inl (X.2 0, 6, .inl (ia vl))), (hi, .inl (X.2 0, 6, .inl (ia iv))), (hM, .inr (0, [.ref wM])), (wM, .inl (X.2 1, 64, .inr (.inl f2))), (hV, .inr (0, [.ref wV])), (wV, .inl (X.2 1, 64, .inr (.inl d.1))), (hN, .inr (0, [.ref wN])), (wN, .inl (X.2 1, 64, .inr (.inl d.2))), (hT, .inr (0, [.ref wT])), (wT, .inl (X.2 1, 64, .inr (.inl fT)))]) [2, 3, 4, 5, 6, 7, 8, 9, 10, 0, 1] rfl
  have hD := hD.sub (ws' := [(h0, .inr (2, [.ref hv, .ref hi, .ref hM, .ref hV, .ref hN, .int (nI P), .int (nI (nr + 1))])), (hv, .inl (X.2 0, 6, .inl (ia vl))), (hi, .inl (X.2 0, 6, .inl (ia iv))), (hM, .inr (0, [.ref wM])), (wM, .inl (X.2 1, 64, .inr (.inl f2))), (hV, .inr (0, [.ref wV])), (wV, .inl (X.2 1, 64, .inr (.inl d.1))), (hN, .inr (0, [.ref wN])), (wN, .inl (X.2 1, 64, .inr (.inl d.2))), (hT, .inr (0, [.ref wT])), (wT, .inl (X.2 1, 64, .inr (.inl fT)))]) [2, 3, 4, 5, 6, 7, 8, 9, 10, 0, 1] (by decide) rfl
  exact retV (u := (f2, d.1, d.2)) hx hb hr hlk hP hD hS (⟨hf2, hd.1, hd.2⟩) d_Sp_addRule_22
set_option maxHeartbeats 4000000 in
set_option maxRecDepth 100000 in
theorem k_Sp_isMinimalForbidden (l : Launch) (X : Cx) (h0 hv hi hM hV hN : Nat) (P nr : Nat) (vl iv : Nat → Nat) (hvl : ∀ p, p < 6 → 1 ≤ vl p ∧ vl p ≤ 4) (hiv : ∀ p, p < 6 → iv p < 16) (wV : Nat) (fV : Nat → Int64) (VS : Nat → Bool) (hfV : RS fV VS) (n b : Nat) (hn : n < 64) (hb0 : b < 4096) (hbs : b &&& fo n 6 = b) : CtI l X (TY X) y_Sp_isMinimalForbidden cw_Sp_isMinimalForbidden ({ frames := 3, cells := 0, slots := 0, locals := 74 } : Room) [.ref h0, .int (nI (fo n 6)), .int (nI b)] [(h0, .inr (2, [.ref hv, .ref hi, .ref hM, .ref hV, .ref hN, .int (nI P), .int (nI nr)])), (hv, .inl (X.2 0, 6, .inl (ia vl))), (hi, .inl (X.2 0, 6, .inl (ia iv))), (hV, .inr (0, [.ref wV])), (wV, .inl (X.2 1, 64, .inr (.inl fV)))] (S := Unit) (fun r _ => r = bI (mfB vl iv VS n b)) (fun _ => [(h0, .inr (2, [.ref hv, .ref hi, .ref hM, .ref hV, .ref hN, .int (nI P), .int (nI nr)])), (hv, .inl (X.2 0, 6, .inl (ia vl))), (hi, .inl (X.2 0, 6, .inl (ia iv))), (hV, .inr (0, [.ref wV])), (wV, .inl (X.2 1, 64, .inr (.inl fV)))]) 0 0 := by
  refine metI (by decide) (Nat.le_of_ble_eq_true rfl) ?_
  intro p e s m below meth c A ls hB hl
  obtain ⟨hx, hb, hr, hml, hown, hlk, hin, hg, hA, hD, hP, hE⟩ := hB
  have hS : va_S A s.heap s.heap [] := va_S.rf
  have hl : lv_has ls 5 [(0, .ref h0), (1, .int (nI (fo n 6))), (2, .int (nI b))] := hl
  have hfo := fo_lt n 6 (by omega)
  refine lv_aload_n hx hb d_Sp_isMinimalForbidden_0 rfl (lv_at hl 0 rfl) ?_
  refine lv_iload_n hx hb d_Sp_isMinimalForbidden_1 rfl (lv_at hl 2 rfl) ?_
  refine clVI (n := 1) (As := [.int (nI b)]) (rest := []) (wc := [(h0, .inr (2, [.ref hv, .ref hi, .ref hM, .ref hV, .ref hN, .int (nI P), .int (nI nr)])), (hv, .inl (X.2 0, 6, .inl (ia vl)))]) (wr := [(hi, .inl (X.2 0, 6, .inl (ia iv))), (hV, .inr (0, [.ref wV])), (wV, .inl (X.2 1, 64, .inr (.inl fV)))]) hx hb hml hown hg hE hA hP hD hS (k_Sp_hasAllValues l X h0 hv hi hM hV hN P nr vl iv hvl b (by omega)) (gcons m_378 (gcons m_380 (gcons ms_Sp_hasAllValues (gcons m_2 (gcons m_381 gG))))) (by decide +kernel) [0, 1] [2, 3, 4] rfl rfl (by decide) (by decide) (by decide) 0 rfl rfl rfl hl.1 (Nat.le_of_ble_eq_true rfl) rfl d_Sp_isMinimalForbidden_2 ⟨rfl, rfl, Nat.le_of_ble_eq_true rfl, Nat.le_of_ble_eq_true rfl⟩ (⟨Nat.le_of_ble_eq_true rfl, Nat.le_of_ble_eq_true rfl⟩) (fun r2 u2 H locs hq2 hP hD hS => ?_)
  have hq2 : r2 = bI (all6 vl b 6) := hq2
  subst hq2
  have hP := hP.sub (ws' := [(h0, .inr (2, [.ref hv, .ref hi, .ref hM, .ref hV, .ref hN, .int (nI P), .int (nI nr)])), (hv, .inl (X.2 0, 6, .inl (ia vl))), (hi, .inl (X.2 0, 6, .inl (ia iv))), (hV, .inr (0, [.ref wV])), (wV, .inl (X.2 1, 64, .inr (.inl fV)))]) [3, 4, 0, 1, 2] rfl
  have hD := hD.sub (ws' := [(h0, .inr (2, [.ref hv, .ref hi, .ref hM, .ref hV, .ref hN, .int (nI P), .int (nI nr)])), (hv, .inl (X.2 0, 6, .inl (ia vl))), (hi, .inl (X.2 0, 6, .inl (ia iv))), (hV, .inr (0, [.ref wV])), (wV, .inl (X.2 1, 64, .inr (.inl fV)))]) [3, 4, 0, 1, 2] (by decide) rfl
  refine lv_if_eq (tgt := 29) hx hb d_Sp_isMinimalForbidden_5 (by decide) (fun hc5 => ?_) (fun hc5 => ?_)
  · rw [bI_z] at hc5
    refine lv_iconst (v := nI 0) hx hb d_Sp_isMinimalForbidden_29 (by decide) ?_
    exact retZ (u := ()) hx hb hr hlk (by decide) hP hD hS (by first | exact mf_a hc5 | exact mf_b hc14 | exact mf_c hc26) d_Sp_isMinimalForbidden_30
  · rw [bI_z] at hc5
    refine lv_aload_n hx hb d_Sp_isMinimalForbidden_8 rfl (lv_at hl 0 rfl) ?_
    refine lv_iload_n hx hb d_Sp_isMinimalForbidden_9 rfl (lv_at hl 1 rfl) ?_
    refine lv_iload_n hx hb d_Sp_isMinimalForbidden_10 rfl (lv_at hl 2 rfl) ?_
    refine clVI (n := 2) (As := [.int (nI (fo n 6)), .int (nI b)]) (rest := []) (wc := [(h0, .inr (2, [.ref hv, .ref hi, .ref hM, .ref hV, .ref hN, .int (nI P), .int (nI nr)])), (hi, .inl (X.2 0, 6, .inl (ia iv)))]) (wr := [(hv, .inl (X.2 0, 6, .inl (ia vl))), (hV, .inr (0, [.ref wV])), (wV, .inl (X.2 1, 64, .inr (.inl fV)))]) hx hb hml hown hg hE hA hP hD hS (k_Sp_invalidIn l X h0 hv hi hM hV hN P nr vl iv hiv n b hn hb0) (gcons m_466 (gcons m_335 (gcons m_336 (gcons m_2 (gcons m_337 gG))))) (by decide +kernel) [0, 2] [1, 3, 4] rfl rfl (by decide) (by decide) (by decide) 0 rfl rfl rfl hl.1 (Nat.le_of_ble_eq_true rfl) rfl d_Sp_isMinimalForbidden_11 ⟨rfl, rfl, Nat.le_of_ble_eq_true rfl, Nat.le_of_ble_eq_true rfl⟩ (⟨Nat.le_of_ble_eq_true rfl, Nat.le_of_ble_eq_true rfl⟩) (fun r11 u11 H locs hq11 hP hD hS => ?_)
    have hq11 : r11 = nI (ivs iv n b 6) := hq11
    subst hq11
    have hP := hP.sub (ws' := [(h0, .inr (2, [.ref hv, .ref hi, .ref hM, .ref hV, .ref hN, .int (nI P), .int (nI nr)])), (hv, .inl (X.2 0, 6, .inl (ia vl))), (hi, .inl (X.2 0, 6, .inl (ia iv))), (hV, .inr (0, [.ref wV])), (wV, .inl (X.2 1, 64, .inr (.inl fV)))]) [3, 0, 4, 1, 2] rfl
    have hD := hD.sub (ws' := [(h0, .inr (2, [.ref hv, .ref hi, .ref hM, .ref hV, .ref hN, .int (nI P), .int (nI nr)])), (hv, .inl (X.2 0, 6, .inl (ia vl))), (hi, .inl (X.2 0, 6, .inl (ia iv))), (hV, .inr (0, [.ref wV])), (wV, .inl (X.2 1, 64, .inr (.inl fV)))]) [3, 0, 4, 1, 2] (by decide) rfl
    refine lv_if_ne (tgt := 29) hx hb d_Sp_isMinimalForbidden_14 (by decide) (fun hc14 => ?_) (fun hc14 => ?_)
    · rw [n_z (ivs31 _ _ _)] at hc14
      refine lv_iconst (v := nI 0) hx hb d_Sp_isMinimalForbidden_29 (by decide) ?_
      exact retZ (u := ()) hx hb hr hlk (by decide) hP hD hS (by first | exact mf_a hc5 | exact mf_b hc14 | exact mf_c hc26) d_Sp_isMinimalForbidden_30
    · rw [n_z (ivs31 _ _ _)] at hc14
      refine lv_aload_n hx hb d_Sp_isMinimalForbidden_17 rfl (lv_at hl 0 rfl) ?_
      refine va_get (D := X.1) (ci := 2) (v := .ref hV) (C := R_Sp) (T := F_Sp) (N := 7) hx hb hg in_Sp hown hE.1 hP 0 rfl rfl 3 (by decide) (hg _ m_69) (fun _ h9 => h9) rfl d_Sp_isMinimalForbidden_18 ?_
      refine lv_iload_n hx hb d_Sp_isMinimalForbidden_21 rfl (lv_at hl 1 rfl) ?_
      refine lv_iload_n hx hb d_Sp_isMinimalForbidden_22 rfl (lv_at hl 2 rfl) ?_
      refine clVI (n := 2) (As := [.int (nI (fo n 6)), .int (nI b)]) (rest := []) (wc := [(hV, .inr (0, [.ref wV])), (wV, .inl (X.2 1, 64, .inr (.inl fV)))]) (wr := [(h0, .inr (2, [.ref hv, .ref hi, .ref hM, .ref hV, .ref hN, .int (nI P), .int (nI nr)])), (hv, .inl (X.2 0, 6, .inl (ia vl))), (hi, .inl (X.2 0, 6, .inl (ia iv)))]) hx hb hml hown hg hE hA hP hD hS (k_NS_hasRowWith l X hV wV fV VS hfV n b hn hb0 hbs) (gcons m_467 (gcons m_302 (gcons m_303 (gcons m_3 (gcons m_304 gG))))) (by decide +kernel) [3, 4] [0, 1, 2] rfl rfl (by decide) (by decide) (by decide) 0 rfl rfl rfl hl.1 (Nat.le_of_ble_eq_true rfl) rfl d_Sp_isMinimalForbidden_23 ⟨rfl, rfl, Nat.le_of_ble_eq_true rfl, Nat.le_of_ble_eq_true rfl⟩ (⟨Nat.le_of_ble_eq_true rfl, Nat.le_of_ble_eq_true rfl⟩) (fun r23 u23 H locs hq23 hP hD hS => ?_)
      have hq23 : r23 = bI (anyR VS n b) := hq23
      subst hq23
      have hP : va_P X.1 classes [(h0, .inr (2, [.ref hv, .ref hi, .ref hM, .ref hV, .ref hN, .int (nI P), .int (nI nr)])), (hv, .inl (X.2 0, 6, .inl (ia vl))), (hi, .inl (X.2 0, 6, .inl (ia iv))), (hV, .inr (0, [.ref wV])), (wV, .inl (X.2 1, 64, .inr (.inl fV)))] H := hP
      have hD : va_D A [(h0, .inr (2, [.ref hv, .ref hi, .ref hM, .ref hV, .ref hN, .int (nI P), .int (nI nr)])), (hv, .inl (X.2 0, 6, .inl (ia vl))), (hi, .inl (X.2 0, 6, .inl (ia iv))), (hV, .inr (0, [.ref wV])), (wV, .inl (X.2 1, 64, .inr (.inl fV)))] := hD
      refine lv_if_eq (tgt := 31) hx hb d_Sp_isMinimalForbidden_26 (by decide) (fun hc26 => ?_) (fun hc26 => ?_)
      · rw [bI_z] at hc26
        refine lv_iconst (v := nI 0) hx hb d_Sp_isMinimalForbidden_31 (by decide) ?_
        refine lv_istore_n hx hb d_Sp_isMinimalForbidden_32 rfl hl (by decide) rfl (fun ls hl => ?_)
        have hl : lv_has ls 5 [(3, .int (nI 0)), (0, .ref h0), (1, .int (nI (fo n 6))), (2, .int (nI b))] := hl
        refine wLoop (nL := 5) (σ := (Nat)) (fun i => 6 - i) (fun i => i ≤ 6 ∧ mfL VS n b i = true) (fun i => [(h0, .inr (2, [.ref hv, .ref hi, .ref hM, .ref hV, .ref hN, .int (nI P), .int (nI nr)])), (hv, .inl (X.2 0, 6, .inl (ia vl))), (hi, .inl (X.2 0, 6, .inl (ia iv))), (hV, .inr (0, [.ref wV])), (wV, .inl (X.2 1, 64, .inr (.inl fV)))]) (fun i => [(0, .ref h0), (1, .int (nI (fo n 6))), (2, .int (nI b)), (3, .int (nI i))]) ?_ 0 (⟨by omega, rfl⟩) hP hD hS (lv_sub hl [1, 2, 3, 0] rfl)
        rintro i H locs ls hJ hP hD hS hl ih33
        have hJ : i ≤ 6 ∧ mfL VS n b i = true := hJ
        obtain ⟨hi6, hall⟩ := hJ
        have hP : va_P X.1 classes [(h0, .inr (2, [.ref hv, .ref hi, .ref hM, .ref hV, .ref hN, .int (nI P), .int (nI nr)])), (hv, .inl (X.2 0, 6, .inl (ia vl))), (hi, .inl (X.2 0, 6, .inl (ia iv))), (hV, .inr (0, [.ref wV])), (wV, .inl (X.2 1, 64, .inr (.inl fV)))] H := hP
        have hD : va_D A [(h0, .inr (2, [.ref hv, .ref hi, .ref hM, .ref hV, .ref hN, .int (nI P), .int (nI nr)])), (hv, .inl (X.2 0, 6, .inl (ia vl))), (hi, .inl (X.2 0, 6, .inl (ia iv))), (hV, .inr (0, [.ref wV])), (wV, .inl (X.2 1, 64, .inr (.inl fV)))] := hD
        have hl : lv_has ls 5 [(0, .ref h0), (1, .int (nI (fo n 6))), (2, .int (nI b)), (3, .int (nI i))] := hl
        refine lv_iload_n hx hb d_Sp_isMinimalForbidden_33 rfl (lv_at hl 3 rfl) ?_
        refine lv_bipush (v := nI 6) hx hb d_Sp_isMinimalForbidden_34 (by decide) ?_
        refine lv_icmp_ge (tgt := 80) hx hb d_Sp_isMinimalForbidden_36 (by decide) (fun hc36 => ?_) (fun hc36 => ?_)
        · rw [nI_leI (by omega) (by omega)] at hc36
          obtain rfl : i = 6 := by omega
          refine lv_iconst (v := nI 1) hx hb d_Sp_isMinimalForbidden_80 (by decide) ?_
          exact retZ (u := ()) hx hb hr hlk (by decide) hP hD hS (mf_1 hc5 hc14 hc26 hall) d_Sp_isMinimalForbidden_81
        · rw [nI_leI (by omega) (by omega)] at hc36
          refine lv_iload_n hx hb d_Sp_isMinimalForbidden_39 rfl (lv_at hl 1 rfl) ?_
          refine lv_iconst (v := nI 3) hx hb d_Sp_isMinimalForbidden_40 (by decide) ?_
          refine lv_iconst (v := nI 2) hx hb d_Sp_isMinimalForbidden_41 (by decide) ?_
          refine lv_iload_n hx hb d_Sp_isMinimalForbidden_42 rfl (lv_at hl 3 rfl) ?_
          refine lv_imul hx hb d_Sp_isMinimalForbidden_43 ?_
          refine topI (pk_mul _ _) ?_
          refine lv_ishl hx hb d_Sp_isMinimalForbidden_44 ?_
          refine topI (shlN (by omega) (p3 (by omega))) ?_
          refine lv_iconst (v := (-1)) hx hb d_Sp_isMinimalForbidden_45 (by decide) ?_
          refine lv_ixor hx hb d_Sp_isMinimalForbidden_46 ?_
          refine lv_iand hx hb d_Sp_isMinimalForbidden_47 ?_
          refine topI (y := nI (fo (rmS n i) 6)) (rm_fo n hn i (by omega)) ?_
          have hrm := fo_lt (rmS n i) 6 (by omega)
          refine lv_istore hx hb d_Sp_isMinimalForbidden_48 hl (by decide) rfl (fun ls hl => ?_)
          have hl : lv_has ls 5 [(4, .int (nI (fo (rmS n i) 6))), (0, .ref h0), (1, .int (nI (fo n 6))), (2, .int (nI b)), (3, .int (nI i))] := hl
          refine lv_iload hx hb d_Sp_isMinimalForbidden_50 (lv_at hl 0 rfl) ?_
          refine lv_iload_n hx hb d_Sp_isMinimalForbidden_52 rfl (lv_at hl 2 rfl) ?_
          refine lv_icmp_eq (tgt := 74) hx hb d_Sp_isMinimalForbidden_53 (by decide) (fun hc53 => ?_) (fun hc53 => ?_)
          · rw [rm_eq n hn i (by omega)] at hc53
            refine lv_iinc (k := 4) (v := nI (i + 1)) hx hb d_Sp_isMinimalForbidden_74 hl rfl (nI_1 _) (by decide) rfl (fun ls hl => ?_)
            have hl : lv_has ls 5 [(3, .int (nI (i + 1))), (4, .int (nI (fo (rmS n i) 6))), (0, .ref h0), (1, .int (nI (fo n 6))), (2, .int (nI b))] := hl
            refine lv_goto (tgt := 33) hx hb d_Sp_isMinimalForbidden_77 (by decide) ?_
            exact ih33 (i + 1) H locs ls (by (try dsimp only); omega) (⟨by (try dsimp only); omega, by first | exact mfL_t hall hc69 | exact mfL_f hall hc53⟩) hP hD hS (lv_sub hl [2, 3, 4, 0] rfl)
          · rw [rm_eq n hn i (by omega)] at hc53
            refine lv_aload_n hx hb d_Sp_isMinimalForbidden_56 rfl (lv_at hl 1 rfl) ?_
            refine va_get (D := X.1) (ci := 2) (v := .ref hV) (C := R_Sp) (T := F_Sp) (N := 7) hx hb hg in_Sp hown hE.1 hP 0 rfl rfl 3 (by decide) (hg _ m_69) (fun _ h9 => h9) rfl d_Sp_isMinimalForbidden_57 ?_
            refine lv_iload hx hb d_Sp_isMinimalForbidden_60 (lv_at hl 0 rfl) ?_
            refine lv_iload_n hx hb d_Sp_isMinimalForbidden_62 rfl (lv_at hl 3 rfl) ?_
            refine lv_iload hx hb d_Sp_isMinimalForbidden_63 (lv_at hl 0 rfl) ?_
            refine lv_iand hx hb d_Sp_isMinimalForbidden_65 ?_
            refine topI (nx_and _ _) ?_
            refine clVI (n := 2) (As := [.int (nI (fo (rmS n i) 6)), .int (nI (b &&& (fo (rmS n i) 6)))]) (rest := []) (wc := [(hV, .inr (0, [.ref wV])), (wV, .inl (X.2 1, 64, .inr (.inl fV)))]) (wr := [(h0, .inr (2, [.ref hv, .ref hi, .ref hM, .ref hV, .ref hN, .int (nI P), .int (nI nr)])), (hv, .inl (X.2 0, 6, .inl (ia vl))), (hi, .inl (X.2 0, 6, .inl (ia iv)))]) hx hb hml hown hg hE hA hP hD hS (k_NS_hasRowWith l X hV wV fV VS hfV (rmS n i) (b &&& fo (rmS n i) 6) (rm_lt hn i) (and_lt _ hb0) (and_and _ _)) (gcons m_467 (gcons m_302 (gcons m_303 (gcons m_3 (gcons m_304 gG))))) (by decide +kernel) [3, 4] [0, 1, 2] rfl rfl (by decide) (by decide) (by decide) 0 rfl rfl rfl hl.1 (Nat.le_of_ble_eq_true rfl) rfl d_Sp_isMinimalForbidden_66 ⟨rfl, rfl, Nat.le_of_ble_eq_true rfl, Nat.le_of_ble_eq_true rfl⟩ (⟨Nat.le_of_ble_eq_true rfl, Nat.le_of_ble_eq_true rfl⟩) (fun r66 u66 H locs hq66 hP hD hS => ?_)
            have hq66 : r66 = bI (anyR VS (rmS n i) (b &&& fo (rmS n i) 6)) := hq66
            subst hq66
            have hP : va_P X.1 classes [(h0, .inr (2, [.ref hv, .ref hi, .ref hM, .ref hV, .ref hN, .int (nI P), .int (nI nr)])), (hv, .inl (X.2 0, 6, .inl (ia vl))), (hi, .inl (X.2 0, 6, .inl (ia iv))), (hV, .inr (0, [.ref wV])), (wV, .inl (X.2 1, 64, .inr (.inl fV)))] H := hP
            have hD : va_D A [(h0, .inr (2, [.ref hv, .ref hi, .ref hM, .ref hV, .ref hN, .int (nI P), .int (nI nr)])), (hv, .inl (X.2 0, 6, .inl (ia vl))), (hi, .inl (X.2 0, 6, .inl (ia iv))), (hV, .inr (0, [.ref wV])), (wV, .inl (X.2 1, 64, .inr (.inl fV)))] := hD
            refine lv_if_ne (tgt := 74) hx hb d_Sp_isMinimalForbidden_69 (by decide) (fun hc69 => ?_) (fun hc69 => ?_)
            · rw [bI_z] at hc69
              refine lv_iinc (k := 4) (v := nI (i + 1)) hx hb d_Sp_isMinimalForbidden_74 hl rfl (nI_1 _) (by decide) rfl (fun ls hl => ?_)
              have hl : lv_has ls 5 [(3, .int (nI (i + 1))), (4, .int (nI (fo (rmS n i) 6))), (0, .ref h0), (1, .int (nI (fo n 6))), (2, .int (nI b))] := hl
              refine lv_goto (tgt := 33) hx hb d_Sp_isMinimalForbidden_77 (by decide) ?_
              exact ih33 (i + 1) H locs ls (by (try dsimp only); omega) (⟨by (try dsimp only); omega, by first | exact mfL_t hall hc69 | exact mfL_f hall hc53⟩) hP hD hS (lv_sub hl [2, 3, 4, 0] rfl)
            · rw [bI_z] at hc69
              refine lv_iconst (v := nI 0) hx hb d_Sp_isMinimalForbidden_72 (by decide) ?_
              exact retZ (u := ()) hx hb hr hlk (by decide) hP hD hS (mf_d (by omega) hc53 hc69) d_Sp_isMinimalForbidden_73
      · rw [bI_z] at hc26
        refine lv_iconst (v := nI 0) hx hb d_Sp_isMinimalForbidden_29 (by decide) ?_
        exact retZ (u := ()) hx hb hr hlk (by decide) hP hD hS (by first | exact mf_a hc5 | exact mf_b hc14 | exact mf_c hc26) d_Sp_isMinimalForbidden_30
set_option maxHeartbeats 4000000 in
set_option maxRecDepth 100000 in
theorem k_Sp_minimalForbidden (l : Launch) (X : Cx) (h0 hv hi hM hV hN : Nat) (P nr : Nat) (vl iv : Nat → Nat) (hvl : ∀ p, p < 6 → 1 ≤ vl p ∧ vl p ≤ 4) (hiv : ∀ p, p < 6 → iv p < 16) (wV : Nat) (fV : Nat → Int64) (VS : Nat → Bool) (hfV : RS fV VS) (n : Nat) (hn : n < 64) : CtI l X (TY X) y_Sp_minimalForbidden cw_Sp_minimalForbidden ({ frames := 4, cells := 0, slots := 0, locals := 98 } : Room) [.ref h0, .int (nI (fo n 6))] [(h0, .inr (2, [.ref hv, .ref hi, .ref hM, .ref hV, .ref hN, .int (nI P), .int (nI nr)])), (hv, .inl (X.2 0, 6, .inl (ia vl))), (hi, .inl (X.2 0, 6, .inl (ia iv))), (hV, .inr (0, [.ref wV])), (wV, .inl (X.2 1, 64, .inr (.inl fV)))] (S := Unit) (fun r _ => r = nI (cB (mfF vl iv VS n) (4 ^ cn n 6))) (fun _ => [(h0, .inr (2, [.ref hv, .ref hi, .ref hM, .ref hV, .ref hN, .int (nI P), .int (nI nr)])), (hv, .inl (X.2 0, 6, .inl (ia vl))), (hi, .inl (X.2 0, 6, .inl (ia iv))), (hV, .inr (0, [.ref wV])), (wV, .inl (X.2 1, 64, .inr (.inl fV)))]) 0 0 := by
  refine metI (by decide) (Nat.le_of_ble_eq_true rfl) ?_
  intro p e s m below meth c A ls hB hl
  obtain ⟨hx, hb, hr, hml, hown, hlk, hin, hg, hA, hD, hP, hE⟩ := hB
  have hS : va_S A s.heap s.heap [] := va_S.rf
  have hl : lv_has ls 6 [(0, .ref h0), (1, .int (nI (fo n 6)))] := hl
  have h4 := p4cn n
  refine lv_iconst (v := nI 0) hx hb d_Sp_minimalForbidden_0 (by decide) ?_
  refine lv_istore_n hx hb d_Sp_minimalForbidden_1 rfl hl (by decide) rfl (fun ls hl => ?_)
  have hl : lv_has ls 6 [(2, .int (nI 0)), (0, .ref h0), (1, .int (nI (fo n 6)))] := hl
  refine lv_iconst (v := nI 1) hx hb d_Sp_minimalForbidden_2 (by decide) ?_
  refine lv_iload_n hx hb d_Sp_minimalForbidden_3 rfl (lv_at hl 2 rfl) ?_
  refine clSI (n := 1) (As := [.int (nI (fo n 6))]) (rest := [.int (nI 1)]) (wc := []) (wr := [(h0, .inr (2, [.ref hv, .ref hi, .ref hM, .ref hV, .ref hN, .int (nI P), .int (nI nr)])), (hv, .inl (X.2 0, 6, .inl (ia vl))), (hi, .inl (X.2 0, 6, .inl (ia iv))), (hV, .inr (0, [.ref wV])), (wV, .inl (X.2 1, 64, .inr (.inl fV)))]) hx hb hml hown hg hE hA hP hD hS (k_JI_bitCount l X (nI (fo n 6))) (gcons m_461 (gcons m_219 (gcons m_9 (gcons m_220 gG)))) (by decide +kernel) [] [0, 1, 2, 3, 4] rfl rfl (by decide) (by decide) (by decide) rfl hl.1 (Nat.le_of_ble_eq_true rfl) rfl d_Sp_minimalForbidden_4 ⟨rfl, rfl, Nat.le_of_ble_eq_true rfl, Nat.le_of_ble_eq_true rfl⟩ (⟨Nat.le_of_ble_eq_true rfl, Nat.le_of_ble_eq_true rfl⟩) (fun r4 u4 H locs hq4 hP hD hS => ?_)
  have hq4 : r4 = bcI (nI (fo n 6)) := hq4
  subst hq4
  have hP : va_P X.1 classes [(h0, .inr (2, [.ref hv, .ref hi, .ref hM, .ref hV, .ref hN, .int (nI P), .int (nI nr)])), (hv, .inl (X.2 0, 6, .inl (ia vl))), (hi, .inl (X.2 0, 6, .inl (ia iv))), (hV, .inr (0, [.ref wV])), (wV, .inl (X.2 1, 64, .inr (.inl fV)))] H := hP
  have hD : va_D A [(h0, .inr (2, [.ref hv, .ref hi, .ref hM, .ref hV, .ref hN, .int (nI P), .int (nI nr)])), (hv, .inl (X.2 0, 6, .inl (ia vl))), (hi, .inl (X.2 0, 6, .inl (ia iv))), (hV, .inr (0, [.ref wV])), (wV, .inl (X.2 1, 64, .inr (.inl fV)))] := hD
  refine lv_ishl hx hb d_Sp_minimalForbidden_7 ?_
  refine topI (y := nI (4 ^ cn n 6)) (bcF hn) ?_
  refine lv_istore_n hx hb d_Sp_minimalForbidden_8 rfl hl (by decide) rfl (fun ls hl => ?_)
  have hl : lv_has ls 6 [(3, .int (nI (4 ^ cn n 6))), (2, .int (nI 0)), (0, .ref h0), (1, .int (nI (fo n 6)))] := hl
  refine lv_iconst (v := nI 0) hx hb d_Sp_minimalForbidden_9 (by decide) ?_
  refine topI (y := nI (ux n 0)) (by rw [ux_0]) ?_
  refine lv_istore hx hb d_Sp_minimalForbidden_10 hl (by decide) rfl (fun ls hl => ?_)
  have hl : lv_has ls 6 [(4, .int (nI (ux n 0))), (3, .int (nI (4 ^ cn n 6))), (2, .int (nI 0)), (0, .ref h0), (1, .int (nI (fo n 6)))] := hl
  refine lv_iconst (v := nI 0) hx hb d_Sp_minimalForbidden_12 (by decide) ?_
  refine lv_istore hx hb d_Sp_minimalForbidden_13 hl (by decide) rfl (fun ls hl => ?_)
  have hl : lv_has ls 6 [(5, .int (nI 0)), (4, .int (nI (ux n 0))), (3, .int (nI (4 ^ cn n 6))), (2, .int (nI 0)), (0, .ref h0), (1, .int (nI (fo n 6)))] := hl
  refine wLoop (nL := 6) (σ := (Nat)) (fun j => 4 ^ cn n 6 - j) (fun j => j ≤ 4 ^ cn n 6) (fun j => [(h0, .inr (2, [.ref hv, .ref hi, .ref hM, .ref hV, .ref hN, .int (nI P), .int (nI nr)])), (hv, .inl (X.2 0, 6, .inl (ia vl))), (hi, .inl (X.2 0, 6, .inl (ia iv))), (hV, .inr (0, [.ref wV])), (wV, .inl (X.2 1, 64, .inr (.inl fV)))]) (fun j => [(0, .ref h0), (1, .int (nI (fo n 6))), (2, .int (nI (cB (mfF vl iv VS n) j))), (3, .int (nI (4 ^ cn n 6))), (4, .int (nI (ux n j))), (5, .int (nI j))]) ?_ 0 (Nat.zero_le _) hP hD hS (lv_sub hl [4, 5, 3, 2, 1, 0] rfl)
  rintro j H locs ls hJ hP hD hS hl ih15
  have hJ : j ≤ 4 ^ cn n 6 := hJ
  have hP : va_P X.1 classes [(h0, .inr (2, [.ref hv, .ref hi, .ref hM, .ref hV, .ref hN, .int (nI P), .int (nI nr)])), (hv, .inl (X.2 0, 6, .inl (ia vl))), (hi, .inl (X.2 0, 6, .inl (ia iv))), (hV, .inr (0, [.ref wV])), (wV, .inl (X.2 1, 64, .inr (.inl fV)))] H := hP
  have hD : va_D A [(h0, .inr (2, [.ref hv, .ref hi, .ref hM, .ref hV, .ref hN, .int (nI P), .int (nI nr)])), (hv, .inl (X.2 0, 6, .inl (ia vl))), (hi, .inl (X.2 0, 6, .inl (ia iv))), (hV, .inr (0, [.ref wV])), (wV, .inl (X.2 1, 64, .inr (.inl fV)))] := hD
  have hl : lv_has ls 6 [(0, .ref h0), (1, .int (nI (fo n 6))), (2, .int (nI (cB (mfF vl iv VS n) j))), (3, .int (nI (4 ^ cn n 6))), (4, .int (nI (ux n j))), (5, .int (nI j))] := hl
  refine lv_iload hx hb d_Sp_minimalForbidden_15 (lv_at hl 5 rfl) ?_
  refine lv_iload_n hx hb d_Sp_minimalForbidden_17 rfl (lv_at hl 3 rfl) ?_
  refine lv_icmp_ge (tgt := 48) hx hb d_Sp_minimalForbidden_18 (by decide) (fun hc18 => ?_) (fun hc18 => ?_)
  · rw [nI_leI (by omega) (by omega)] at hc18
    obtain rfl : j = 4 ^ cn n 6 := by omega
    refine lv_iload_n hx hb d_Sp_minimalForbidden_48 rfl (lv_at hl 2 rfl) ?_
    exact retI (u := ()) hx hb hr hlk hP hD hS (rfl) d_Sp_minimalForbidden_49
  · rw [nI_leI (by omega) (by omega)] at hc18
    refine lv_aload_n hx hb d_Sp_minimalForbidden_21 rfl (lv_at hl 0 rfl) ?_
    refine lv_iload_n hx hb d_Sp_minimalForbidden_22 rfl (lv_at hl 1 rfl) ?_
    refine lv_iload hx hb d_Sp_minimalForbidden_23 (lv_at hl 4 rfl) ?_
    refine clVI (n := 2) (As := [.int (nI (fo n 6)), .int (nI (ux n j))]) (rest := []) (wc := [(h0, .inr (2, [.ref hv, .ref hi, .ref hM, .ref hV, .ref hN, .int (nI P), .int (nI nr)])), (hv, .inl (X.2 0, 6, .inl (ia vl))), (hi, .inl (X.2 0, 6, .inl (ia iv))), (hV, .inr (0, [.ref wV])), (wV, .inl (X.2 1, 64, .inr (.inl fV)))]) (wr := []) hx hb hml hown hg hE hA hP hD hS (k_Sp_isMinimalForbidden l X h0 hv hi hM hV hN P nr vl iv hvl hiv wV fV VS hfV n (ux n j) hn (ux_lt n j) (ux_and n j)) (gcons m_462 (gcons m_464 (gcons ms_Sp_isMinimalForbidden (gcons m_2 (gcons m_465 gG))))) (by decide +kernel) [0, 1, 2, 3, 4] [] rfl rfl (by decide) (by decide) (by decide) 0 rfl rfl rfl hl.1 (Nat.le_of_ble_eq_true rfl) rfl d_Sp_minimalForbidden_25 ⟨rfl, rfl, Nat.le_of_ble_eq_true rfl, Nat.le_of_ble_eq_true rfl⟩ (⟨Nat.le_of_ble_eq_true rfl, Nat.le_of_ble_eq_true rfl⟩) (fun r25 u25 H locs hq25 hP hD hS => ?_)
    have hq25 : r25 = bI (mfF vl iv VS n j) := hq25
    subst hq25
    have hP : va_P X.1 classes [(h0, .inr (2, [.ref hv, .ref hi, .ref hM, .ref hV, .ref hN, .int (nI P), .int (nI nr)])), (hv, .inl (X.2 0, 6, .inl (ia vl))), (hi, .inl (X.2 0, 6, .inl (ia iv))), (hV, .inr (0, [.ref wV])), (wV, .inl (X.2 1, 64, .inr (.inl fV)))] H := hP
    have hD : va_D A [(h0, .inr (2, [.ref hv, .ref hi, .ref hM, .ref hV, .ref hN, .int (nI P), .int (nI nr)])), (hv, .inl (X.2 0, 6, .inl (ia vl))), (hi, .inl (X.2 0, 6, .inl (ia iv))), (hV, .inr (0, [.ref wV])), (wV, .inl (X.2 1, 64, .inr (.inl fV)))] := hD
    refine lv_if_eq (tgt := 34) hx hb d_Sp_minimalForbidden_28 (by decide) (fun hc28 => ?_) (fun hc28 => ?_)
    · rw [bI_z] at hc28
      have hl : lv_has ls 6 [(0, .ref h0), (1, .int (nI (fo n 6))), (2, .int (nI (cB (mfF vl iv VS n) (j + 1)))), (3, .int (nI (4 ^ cn n 6))), (4, .int (nI (ux n j))), (5, .int (nI j))] := by rw [cB_f hc28]; exact hl
      refine lv_iload_n hx hb d_Sp_minimalForbidden_34 rfl (lv_at hl 1 rfl) ?_
      refine lv_iload hx hb d_Sp_minimalForbidden_35 (lv_at hl 4 rfl) ?_
      refine clSNI (n := 2) (As := [.int (nI (fo n 6)), .int (nI (ux n j))]) (rest := []) (wc := []) (wr := [(h0, .inr (2, [.ref hv, .ref hi, .ref hM, .ref hV, .ref hN, .int (nI P), .int (nI nr)])), (hv, .inl (X.2 0, 6, .inl (ia vl))), (hi, .inl (X.2 0, 6, .inl (ia iv))), (hV, .inr (0, [.ref wV])), (wV, .inl (X.2 1, 64, .inr (.inl fV)))]) hx hb hml hown hg hE hA hP hD hS (k_CR_nextWithin l X (nI (fo n 6)) (nI (ux n j))) m_311 m_310 m_1 (nw_11 hE.2.1) (by decide +kernel) [] [0, 1, 2, 3, 4] rfl rfl (by decide) (by decide) (by decide) rfl hl.1 (Nat.le_of_ble_eq_true rfl) rfl d_Sp_minimalForbidden_37 ⟨rfl, rfl, Nat.le_of_ble_eq_true rfl, Nat.le_of_ble_eq_true rfl⟩ (⟨Nat.le_of_ble_eq_true rfl, Nat.le_of_ble_eq_true rfl⟩) (fun r37 u37 H locs hq37 hP hD hS => ?_)
      have hq37 : r37 = (nI (ux n j) - nI (fo n 6)) &&& nI (fo n 6) := hq37
      subst hq37
      have hP : va_P X.1 classes [(h0, .inr (2, [.ref hv, .ref hi, .ref hM, .ref hV, .ref hN, .int (nI P), .int (nI nr)])), (hv, .inl (X.2 0, 6, .inl (ia vl))), (hi, .inl (X.2 0, 6, .inl (ia iv))), (hV, .inr (0, [.ref wV])), (wV, .inl (X.2 1, 64, .inr (.inl fV)))] H := hP
      have hD : va_D A [(h0, .inr (2, [.ref hv, .ref hi, .ref hM, .ref hV, .ref hN, .int (nI P), .int (nI nr)])), (hv, .inl (X.2 0, 6, .inl (ia vl))), (hi, .inl (X.2 0, 6, .inl (ia iv))), (hV, .inr (0, [.ref wV])), (wV, .inl (X.2 1, 64, .inr (.inl fV)))] := hD
      refine topI (y := nI (ux n (j + 1))) (ux_next hn (by omega)) ?_
      refine lv_istore hx hb d_Sp_minimalForbidden_40 hl (by decide) rfl (fun ls hl => ?_)
      have hl : lv_has ls 6 [(4, .int (nI (ux n (j + 1)))), (0, .ref h0), (1, .int (nI (fo n 6))), (2, .int (nI (cB (mfF vl iv VS n) (j + 1)))), (3, .int (nI (4 ^ cn n 6))), (5, .int (nI j))] := hl
      refine lv_iinc (k := 5) (v := nI (j + 1)) hx hb d_Sp_minimalForbidden_42 hl rfl (nI_1 _) (by decide) rfl (fun ls hl => ?_)
      have hl : lv_has ls 6 [(5, .int (nI (j + 1))), (4, .int (nI (ux n (j + 1)))), (0, .ref h0), (1, .int (nI (fo n 6))), (2, .int (nI (cB (mfF vl iv VS n) (j + 1)))), (3, .int (nI (4 ^ cn n 6)))] := hl
      refine lv_goto (tgt := 15) hx hb d_Sp_minimalForbidden_45 (by decide) ?_
      exact ih15 (j + 1) H locs ls (by (try dsimp only); omega) (by (try dsimp only); omega) hP hD hS (lv_sub hl [2, 3, 4, 5, 1, 0] rfl)
    · rw [bI_z] at hc28
      refine lv_iinc (k := 2) (v := nI (cB (mfF vl iv VS n) (j + 1))) hx hb d_Sp_minimalForbidden_31 hl rfl (cB_it hc28) (by decide) rfl (fun ls hl => ?_)
      have hl : lv_has ls 6 [(2, .int (nI (cB (mfF vl iv VS n) (j + 1)))), (0, .ref h0), (1, .int (nI (fo n 6))), (3, .int (nI (4 ^ cn n 6))), (4, .int (nI (ux n j))), (5, .int (nI j))] := hl
      refine lv_iload_n hx hb d_Sp_minimalForbidden_34 rfl (lv_at hl 2 rfl) ?_
      refine lv_iload hx hb d_Sp_minimalForbidden_35 (lv_at hl 4 rfl) ?_
      refine clSNI (n := 2) (As := [.int (nI (fo n 6)), .int (nI (ux n j))]) (rest := []) (wc := []) (wr := [(h0, .inr (2, [.ref hv, .ref hi, .ref hM, .ref hV, .ref hN, .int (nI P), .int (nI nr)])), (hv, .inl (X.2 0, 6, .inl (ia vl))), (hi, .inl (X.2 0, 6, .inl (ia iv))), (hV, .inr (0, [.ref wV])), (wV, .inl (X.2 1, 64, .inr (.inl fV)))]) hx hb hml hown hg hE hA hP hD hS (k_CR_nextWithin l X (nI (fo n 6)) (nI (ux n j))) m_311 m_310 m_1 (nw_11 hE.2.1) (by decide +kernel) [] [0, 1, 2, 3, 4] rfl rfl (by decide) (by decide) (by decide) rfl hl.1 (Nat.le_of_ble_eq_true rfl) rfl d_Sp_minimalForbidden_37 ⟨rfl, rfl, Nat.le_of_ble_eq_true rfl, Nat.le_of_ble_eq_true rfl⟩ (⟨Nat.le_of_ble_eq_true rfl, Nat.le_of_ble_eq_true rfl⟩) (fun r37 u37 H locs hq37 hP hD hS => ?_)
      have hq37 : r37 = (nI (ux n j) - nI (fo n 6)) &&& nI (fo n 6) := hq37
      subst hq37
      have hP : va_P X.1 classes [(h0, .inr (2, [.ref hv, .ref hi, .ref hM, .ref hV, .ref hN, .int (nI P), .int (nI nr)])), (hv, .inl (X.2 0, 6, .inl (ia vl))), (hi, .inl (X.2 0, 6, .inl (ia iv))), (hV, .inr (0, [.ref wV])), (wV, .inl (X.2 1, 64, .inr (.inl fV)))] H := hP
      have hD : va_D A [(h0, .inr (2, [.ref hv, .ref hi, .ref hM, .ref hV, .ref hN, .int (nI P), .int (nI nr)])), (hv, .inl (X.2 0, 6, .inl (ia vl))), (hi, .inl (X.2 0, 6, .inl (ia iv))), (hV, .inr (0, [.ref wV])), (wV, .inl (X.2 1, 64, .inr (.inl fV)))] := hD
      refine topI (y := nI (ux n (j + 1))) (ux_next hn (by omega)) ?_
      refine lv_istore hx hb d_Sp_minimalForbidden_40 hl (by decide) rfl (fun ls hl => ?_)
      have hl : lv_has ls 6 [(4, .int (nI (ux n (j + 1)))), (2, .int (nI (cB (mfF vl iv VS n) (j + 1)))), (0, .ref h0), (1, .int (nI (fo n 6))), (3, .int (nI (4 ^ cn n 6))), (5, .int (nI j))] := hl
      refine lv_iinc (k := 5) (v := nI (j + 1)) hx hb d_Sp_minimalForbidden_42 hl rfl (nI_1 _) (by decide) rfl (fun ls hl => ?_)
      have hl : lv_has ls 6 [(5, .int (nI (j + 1))), (4, .int (nI (ux n (j + 1)))), (2, .int (nI (cB (mfF vl iv VS n) (j + 1)))), (0, .ref h0), (1, .int (nI (fo n 6))), (3, .int (nI (4 ^ cn n 6)))] := hl
      refine lv_goto (tgt := 15) hx hb d_Sp_minimalForbidden_45 (by decide) ?_
      exact ih15 (j + 1) H locs ls (by (try dsimp only); omega) (by (try dsimp only); omega) hP hD hS (lv_sub hl [3, 4, 2, 5, 1, 0] rfl)
set_option maxHeartbeats 4000000 in
set_option maxRecDepth 100000 in
theorem k_Ge_isFull (l : Launch) (X : Cx) (h0 : Nat) (g0 hR gc gg gn gt tk : Nat) (gl : Int32) (htk : tk ≤ 520) : CtI l X (TY X) y_Ge_isFull cw_Ge_isFull ({ frames := 0, cells := 0, slots := 0, locals := 0 } : Room) [.ref g0] [(g0, .inr (4, [.ref h0, .ref hR, .ref gc, .ref gg, .ref gn, .ref gt, .int (nI tk), .int gl]))] (S := Unit) (fun r _ => r = bI (tk == 520)) (fun _ => [(g0, .inr (4, [.ref h0, .ref hR, .ref gc, .ref gg, .ref gn, .ref gt, .int (nI tk), .int gl]))]) 0 0 := by
  refine metI (by decide) (Nat.le_of_ble_eq_true rfl) ?_
  intro p e s m below meth c A ls hB hl
  obtain ⟨hx, hb, hr, hml, hown, hlk, hin, hg, hA, hD, hP, hE⟩ := hB
  have hS : va_S A s.heap s.heap [] := va_S.rf
  have hl : lv_has ls 1 [(0, .ref g0)] := hl
  refine lv_aload_n hx hb d_Ge_isFull_0 rfl (lv_at hl 0 rfl) ?_
  refine va_get (D := X.1) (ci := 4) (v := .int (nI tk)) (C := R_Ge) (T := F_Ge) (N := 8) hx hb hg in_Ge hown hE.1 hP 0 rfl rfl 6 (by decide) (hg _ m_143) (fun _ h9 => h9) rfl d_Ge_isFull_1 ?_
  refine lv_sipush (v := nI 520) hx hb d_Ge_isFull_4 (by decide) ?_
  refine lv_icmp_ne (tgt := 14) hx hb d_Ge_isFull_7 (by decide) (fun hc7 => ?_) (fun hc7 => ?_)
  · rw [nI_eq (by omega) (by omega)] at hc7
    refine lv_iconst (v := nI 0) hx hb d_Ge_isFull_14 (by decide) ?_
    exact retZ (u := ()) hx hb hr hlk (by decide) hP hD hS (by rw [beq_false_of_ne hc7]; rfl) d_Ge_isFull_15
  · rw [nI_eq (by omega) (by omega)] at hc7
    refine lv_iconst (v := nI 1) hx hb d_Ge_isFull_10 (by decide) ?_
    refine lv_goto (tgt := 15) hx hb d_Ge_isFull_11 (by decide) ?_
    exact retZ (u := ()) hx hb hr hlk (by decide) hP hD hS (by rw [hc7]; rfl) d_Ge_isFull_15
set_option maxHeartbeats 4000000 in
set_option maxRecDepth 100000 in
theorem k_Ge_pack (l : Launch) (X : Cx) (n rr : Nat) (hn : n < 64) (hr4 : rr < 4096) : CtI l X (TY X) y_Ge_pack cw_Ge_pack ({ frames := 1, cells := 0, slots := 0, locals := 21 } : Room) [.int (nI n), .int (nI rr)] [] (S := Unit) (fun r _ => r = nI (pc6 n rr 6)) (fun _ => []) 0 0 := by
  refine metI (by decide) (Nat.le_of_ble_eq_true rfl) ?_
  intro p e s m below meth c A ls hB hl
  obtain ⟨hx, hb, hr, hml, hown, hlk, hin, hg, hA, hD, hP, hE⟩ := hB
  have hS : va_S A s.heap s.heap [] := va_S.rf
  have hl : lv_has ls 4 [(0, .int (nI n)), (1, .int (nI rr))] := hl
  refine lv_iconst (v := nI 0) hx hb d_Ge_pack_0 (by decide) ?_
  refine lv_istore_n hx hb d_Ge_pack_1 rfl hl (by decide) rfl (fun ls hl => ?_)
  have hl : lv_has ls 4 [(2, .int (nI 0)), (0, .int (nI n)), (1, .int (nI rr))] := hl
  refine lv_iconst (v := nI 0) hx hb d_Ge_pack_2 (by decide) ?_
  refine lv_istore_n hx hb d_Ge_pack_3 rfl hl (by decide) rfl (fun ls hl => ?_)
  have hl : lv_has ls 4 [(3, .int (nI 0)), (2, .int (nI 0)), (0, .int (nI n)), (1, .int (nI rr))] := hl
  refine wLoop (nL := 4) (σ := (Nat)) (fun i => 6 - i) (fun i => i ≤ 6) (fun i => []) (fun i => [(0, .int (nI n)), (1, .int (nI rr)), (2, .int (nI (pc6 n rr i))), (3, .int (nI i))]) ?_ 0 (by omega) hP hD hS (lv_sub hl [2, 3, 1, 0] rfl)
  rintro i H locs ls hJ hP hD hS hl ih4
  have hJ : i ≤ 6 := hJ
  have hpc := pc6_4096 n rr hJ
  have hP : va_P X.1 classes [] H := hP
  have hD : va_D A [] := hD
  have hl : lv_has ls 4 [(0, .int (nI n)), (1, .int (nI rr)), (2, .int (nI (pc6 n rr i))), (3, .int (nI i))] := hl
  refine lv_iload_n hx hb d_Ge_pack_4 rfl (lv_at hl 3 rfl) ?_
  refine lv_bipush (v := nI 6) hx hb d_Ge_pack_5 (by decide) ?_
  refine lv_icmp_ge (tgt := 34) hx hb d_Ge_pack_7 (by decide) (fun hc7 => ?_) (fun hc7 => ?_)
  · rw [nI_leI (by omega) (by omega)] at hc7
    obtain rfl : i = 6 := by omega
    refine lv_iload_n hx hb d_Ge_pack_34 rfl (lv_at hl 2 rfl) ?_
    exact retI (u := ()) hx hb hr hlk hP hD hS (rfl) d_Ge_pack_35
  · rw [nI_leI (by omega) (by omega)] at hc7
    refine lv_iload_n hx hb d_Ge_pack_10 rfl (lv_at hl 0 rfl) ?_
    refine lv_iload_n hx hb d_Ge_pack_11 rfl (lv_at hl 3 rfl) ?_
    refine lv_ishr hx hb d_Ge_pack_12 ?_
    refine topI (shrN (by omega) (by omega)) ?_
    refine lv_iconst (v := nI 1) hx hb d_Ge_pack_13 (by decide) ?_
    refine lv_iand hx hb d_Ge_pack_14 ?_
    refine topI (nx_and _ _) ?_
    refine lv_if_eq (tgt := 28) hx hb d_Ge_pack_15 (by decide) (fun hc15 => ?_) (fun hc15 => ?_)
    · rw [tb_z] at hc15
      have hl : lv_has ls 4 [(0, .int (nI n)), (1, .int (nI rr)), (2, .int (nI (pc6 n rr (i + 1)))), (3, .int (nI i))] := by rw [pc6_f hc15]; exact hl
      refine lv_iinc (k := 3) (v := nI (i + 1)) hx hb d_Ge_pack_28 hl rfl (nI_1 _) (by decide) rfl (fun ls hl => ?_)
      have hl : lv_has ls 4 [(3, .int (nI (i + 1))), (0, .int (nI n)), (1, .int (nI rr)), (2, .int (nI (pc6 n rr (i + 1))))] := hl
      refine lv_goto (tgt := 4) hx hb d_Ge_pack_31 (by decide) ?_
      exact ih4 (i + 1) H locs ls (by (try dsimp only); omega) (by (try dsimp only); omega) hP hD hS (lv_sub hl [1, 2, 3, 0] rfl)
    · rw [tb_z] at hc15
      refine lv_iload_n hx hb d_Ge_pack_18 rfl (lv_at hl 2 rfl) ?_
      refine lv_iconst (v := nI 2) hx hb d_Ge_pack_19 (by decide) ?_
      refine lv_ishl hx hb d_Ge_pack_20 ?_
      refine topI (shlN (by omega) (by omega)) ?_
      refine lv_iload_n hx hb d_Ge_pack_21 rfl (lv_at hl 3 rfl) ?_
      refine lv_iload_n hx hb d_Ge_pack_22 rfl (lv_at hl 1 rfl) ?_
      refine clSNI (n := 2) (As := [.int (nI i), .int (nI rr)]) (rest := [.int (nI ((pc6 n rr i) * 2 ^ 2))]) (wc := []) (wr := []) hx hb hml hown hg hE hA hP hD hS (k_CR_valueOf l X i rr (by omega) (by omega)) m_65 m_64 m_1 (nw_10 hE.2.1) (by decide +kernel) [] [] rfl rfl (by decide) (by decide) (by decide) rfl hl.1 (Nat.le_of_ble_eq_true rfl) rfl d_Ge_pack_23 ⟨rfl, rfl, Nat.le_of_ble_eq_true rfl, Nat.le_of_ble_eq_true rfl⟩ (⟨Nat.le_of_ble_eq_true rfl, Nat.le_of_ble_eq_true rfl⟩) (fun r23 u23 H locs hq23 hP hD hS => ?_)
      have hq23 : r23 = nI (dg rr i) := hq23
      subst hq23
      have hP : va_P X.1 classes [] H := hP
      have hD : va_D A [] := hD
      refine lv_ior hx hb d_Ge_pack_26 ?_
      refine topI (y := nI (pc6 n rr (i + 1))) (pc6_or hc15) ?_
      refine lv_istore_n hx hb d_Ge_pack_27 rfl hl (by decide) rfl (fun ls hl => ?_)
      have hl : lv_has ls 4 [(2, .int (nI (pc6 n rr (i + 1)))), (0, .int (nI n)), (1, .int (nI rr)), (3, .int (nI i))] := hl
      refine lv_iinc (k := 3) (v := nI (i + 1)) hx hb d_Ge_pack_28 hl rfl (nI_1 _) (by decide) rfl (fun ls hl => ?_)
      have hl : lv_has ls 4 [(3, .int (nI (i + 1))), (2, .int (nI (pc6 n rr (i + 1)))), (0, .int (nI n)), (1, .int (nI rr))] := hl
      refine lv_goto (tgt := 4) hx hb d_Ge_pack_31 (by decide) ?_
      exact ih4 (i + 1) H locs ls (by (try dsimp only); omega) (by (try dsimp only); omega) hP hD hS (lv_sub hl [2, 3, 1, 0] rfl)
set_option maxHeartbeats 4000000 in
set_option maxRecDepth 100000 in
theorem k_Ge_cover (l : Launch) (X : Cx) (h0 : Nat) (g0 hR gc gg gn gt tk : Nat) (gl : Int32) (cv : Nat → Int64) (n rr : Nat) (hn : n < 64) (hr4 : rr < 4096) (hcn : cn n 6 ≤ 3) : CtI l X (TY X) y_Ge_cover cw_Ge_cover ({ frames := 2, cells := 0, slots := 0, locals := 44 } : Room) [.ref g0, .int (nI n), .int (nI rr)] [(g0, .inr (4, [.ref h0, .ref hR, .ref gc, .ref gg, .ref gn, .ref gt, .int (nI tk), .int gl])), (gc, .inl (X.2 1, 64, .inr (.inl cv)))] (S := Nat → Int64) (fun r d => r = bI (!(bL (cv n) (pc6 n rr 6))) ∧ ∀ a, ∀ t, t < 64 → bL (d a) t = (bL (cv a) t || (a == n && t == pc6 n rr 6))) (fun d => [(g0, .inr (4, [.ref h0, .ref hR, .ref gc, .ref gg, .ref gn, .ref gt, .int (nI tk), .int gl])), (gc, .inl (X.2 1, 64, .inr (.inl d)))]) 0 0 := by
  refine metI (by decide) (Nat.le_of_ble_eq_true rfl) ?_
  intro p e s m below meth c A ls hB hl
  obtain ⟨hx, hb, hr, hml, hown, hlk, hin, hg, hA, hD, hP, hE⟩ := hB
  have hS : va_S A s.heap s.heap [] := va_S.rf
  have hl : lv_has ls 6 [(0, .ref g0), (1, .int (nI n)), (2, .int (nI rr))] := hl
  have h64 := pc6_64 rr hcn
  refine lv_lconst (v := 1) hx hb d_Ge_cover_0 (by decide) ?_
  refine lv_iload_n hx hb d_Ge_cover_1 rfl (lv_at hl 1 rfl) ?_
  refine lv_iload_n hx hb d_Ge_cover_2 rfl (lv_at hl 2 rfl) ?_
  refine clSI (n := 2) (As := [.int (nI n), .int (nI rr)]) (rest := [.long 1]) (wc := []) (wr := [(g0, .inr (4, [.ref h0, .ref hR, .ref gc, .ref gg, .ref gn, .ref gt, .int (nI tk), .int gl])), (gc, .inl (X.2 1, 64, .inr (.inl cv)))]) hx hb hml hown hg hE hA hP hD hS (k_Ge_pack l X n rr hn hr4) (gcons m_391 (gcons m_392 (gcons m_7 (gcons m_393 gG)))) (by decide +kernel) [] [0, 1] rfl rfl (by decide) (by decide) (by decide) rfl hl.1 (Nat.le_of_ble_eq_true rfl) rfl d_Ge_cover_3 ⟨rfl, rfl, Nat.le_of_ble_eq_true rfl, Nat.le_of_ble_eq_true rfl⟩ (⟨Nat.le_of_ble_eq_true rfl, Nat.le_of_ble_eq_true rfl⟩) (fun r3 u3 H locs hq3 hP hD hS => ?_)
  have hq3 : r3 = nI (pc6 n rr 6) := hq3
  subst hq3
  have hP : va_P X.1 classes [(g0, .inr (4, [.ref h0, .ref hR, .ref gc, .ref gg, .ref gn, .ref gt, .int (nI tk), .int gl])), (gc, .inl (X.2 1, 64, .inr (.inl cv)))] H := hP
  have hD : va_D A [(g0, .inr (4, [.ref h0, .ref hR, .ref gc, .ref gg, .ref gn, .ref gt, .int (nI tk), .int gl])), (gc, .inl (X.2 1, 64, .inr (.inl cv)))] := hD
  refine lv_lshl hx hb d_Ge_cover_6 rfl ?_
  refine lv_lstore_n hx hb d_Ge_cover_7 rfl hl (by decide) rfl (fun ls hl => ?_)
  have hl : lv_has ls 6 [(3, .long (1 <<< ((nI (pc6 n rr 6)).toInt64 &&& 63))), (0, .ref g0), (1, .int (nI n)), (2, .int (nI rr))] := hl
  refine lv_aload_n hx hb d_Ge_cover_8 rfl (lv_at hl 1 rfl) ?_
  refine va_get (D := X.1) (ci := 4) (v := .ref gc) (C := R_Ge) (T := F_Ge) (N := 8) hx hb hg in_Ge hown hE.1 hP 0 rfl rfl 2 (by decide) (hg _ m_136) (fun _ h9 => h9) rfl d_Ge_cover_9 ?_
  refine lv_iload_n hx hb d_Ge_cover_12 rfl (lv_at hl 2 rfl) ?_
  refine va_lald hx hb hE.1 hP 1 1 rfl rfl (vp_in_nI (by omega) (by decide)) d_Ge_cover_13 ?_
  refine topL (y := cv n) (by rw [nI_clamp (by omega)]) ?_
  refine lv_lload_n hx hb d_Ge_cover_14 rfl (lv_at hl 0 rfl) ?_
  refine lv_land hx hb d_Ge_cover_15 ?_
  refine lv_lconst (v := 0) hx hb d_Ge_cover_16 (by decide) ?_
  refine W.lcmp hx hb d_Ge_cover_17 ?_
  refine lv_if_ne (tgt := 25) hx hb d_Ge_cover_18 (by decide) (fun hc18 => ?_) (fun hc18 => ?_)
  · rw [(lcz.trans (cv_bit h64))] at hc18
    refine lv_iconst (v := nI 0) hx hb d_Ge_cover_25 (by decide) ?_
    refine lv_istore hx hb d_Ge_cover_26 hl (by decide) rfl (fun ls hl => ?_)
    have hl : lv_has ls 6 [(5, .int (nI 0)), (3, .long (1 <<< ((nI (pc6 n rr 6)).toInt64 &&& 63))), (0, .ref g0), (1, .int (nI n)), (2, .int (nI rr))] := hl
    refine lv_aload_n hx hb d_Ge_cover_28 rfl (lv_at hl 2 rfl) ?_
    refine va_get (D := X.1) (ci := 4) (v := .ref gc) (C := R_Ge) (T := F_Ge) (N := 8) hx hb hg in_Ge hown hE.1 hP 0 rfl rfl 2 (by decide) (hg _ m_136) (fun _ h9 => h9) rfl d_Ge_cover_29 ?_
    refine lv_iload_n hx hb d_Ge_cover_32 rfl (lv_at hl 3 rfl) ?_
    refine lv_dup2_11 hx hb d_Ge_cover_33 rfl rfl ?_
    refine va_lald hx hb hE.1 hP 1 1 rfl rfl (vp_in_nI (by omega) (by decide)) d_Ge_cover_34 ?_
    refine topL (y := cv n) (by rw [nI_clamp (by omega)]) ?_
    refine lv_lload_n hx hb d_Ge_cover_35 rfl (lv_at hl 1 rfl) ?_
    refine lv_lor hx hb d_Ge_cover_36 ?_
    refine va_last hx hb hE.1 hP hD hS 1 1 rfl rfl (vp_in_nI (by omega) (by decide)) d_Ge_cover_37 (fun H locs hP hD hS => ?_)
    have hP : va_P X.1 classes [(g0, .inr (4, [.ref h0, .ref hR, .ref gc, .ref gg, .ref gn, .ref gt, .int (nI tk), .int gl])), (gc, .inl (X.2 1, 64, .inr (.inl (vp_updL cv (nI n).toNatClampNeg ((cv n) ||| (1 <<< ((nI (pc6 n rr 6)).toInt64 &&& 63)))))))] H := hP
    have hD : va_D A [(g0, .inr (4, [.ref h0, .ref hR, .ref gc, .ref gg, .ref gn, .ref gt, .int (nI tk), .int gl])), (gc, .inl (X.2 1, 64, .inr (.inl (vp_updL cv (nI n).toNatClampNeg ((cv n) ||| (1 <<< ((nI (pc6 n rr 6)).toInt64 &&& 63)))))))] := hD
    rw [nI_clamp (show n < 2 ^ 31 by omega)] at hP hD
    generalize hd : vp_updL cv n ((cv n) ||| (1 <<< ((nI (pc6 n rr 6)).toInt64 &&& 63))) = d at hP hD
    refine lv_iload hx hb d_Ge_cover_38 (lv_at hl 0 rfl) ?_
    exact retZ (u := d) hx hb hr hlk (by decide) hP hD hS (⟨by rw [ts_nf hc18]; rfl, cv_set h64 hd⟩) d_Ge_cover_40
  · rw [(lcz.trans (cv_bit h64))] at hc18
    refine lv_iconst (v := nI 1) hx hb d_Ge_cover_21 (by decide) ?_
    refine lv_goto (tgt := 26) hx hb d_Ge_cover_22 (by decide) ?_
    refine lv_istore hx hb d_Ge_cover_26 hl (by decide) rfl (fun ls hl => ?_)
    have hl : lv_has ls 6 [(5, .int (nI 1)), (3, .long (1 <<< ((nI (pc6 n rr 6)).toInt64 &&& 63))), (0, .ref g0), (1, .int (nI n)), (2, .int (nI rr))] := hl
    refine lv_aload_n hx hb d_Ge_cover_28 rfl (lv_at hl 2 rfl) ?_
    refine va_get (D := X.1) (ci := 4) (v := .ref gc) (C := R_Ge) (T := F_Ge) (N := 8) hx hb hg in_Ge hown hE.1 hP 0 rfl rfl 2 (by decide) (hg _ m_136) (fun _ h9 => h9) rfl d_Ge_cover_29 ?_
    refine lv_iload_n hx hb d_Ge_cover_32 rfl (lv_at hl 3 rfl) ?_
    refine lv_dup2_11 hx hb d_Ge_cover_33 rfl rfl ?_
    refine va_lald hx hb hE.1 hP 1 1 rfl rfl (vp_in_nI (by omega) (by decide)) d_Ge_cover_34 ?_
    refine topL (y := cv n) (by rw [nI_clamp (by omega)]) ?_
    refine lv_lload_n hx hb d_Ge_cover_35 rfl (lv_at hl 1 rfl) ?_
    refine lv_lor hx hb d_Ge_cover_36 ?_
    refine va_last hx hb hE.1 hP hD hS 1 1 rfl rfl (vp_in_nI (by omega) (by decide)) d_Ge_cover_37 (fun H locs hP hD hS => ?_)
    have hP : va_P X.1 classes [(g0, .inr (4, [.ref h0, .ref hR, .ref gc, .ref gg, .ref gn, .ref gt, .int (nI tk), .int gl])), (gc, .inl (X.2 1, 64, .inr (.inl (vp_updL cv (nI n).toNatClampNeg ((cv n) ||| (1 <<< ((nI (pc6 n rr 6)).toInt64 &&& 63)))))))] H := hP
    have hD : va_D A [(g0, .inr (4, [.ref h0, .ref hR, .ref gc, .ref gg, .ref gn, .ref gt, .int (nI tk), .int gl])), (gc, .inl (X.2 1, 64, .inr (.inl (vp_updL cv (nI n).toNatClampNeg ((cv n) ||| (1 <<< ((nI (pc6 n rr 6)).toInt64 &&& 63)))))))] := hD
    rw [nI_clamp (show n < 2 ^ 31 by omega)] at hP hD
    generalize hd : vp_updL cv n ((cv n) ||| (1 <<< ((nI (pc6 n rr 6)).toInt64 &&& 63))) = d at hP hD
    refine lv_iload hx hb d_Ge_cover_38 (lv_at hl 0 rfl) ?_
    exact retZ (u := d) hx hb hr hlk (by decide) hP hD hS (⟨by rw [hc18]; rfl, cv_set h64 hd⟩) d_Ge_cover_40
set_option maxHeartbeats 4000000 in
set_option maxRecDepth 100000 in
theorem k_Ge_lowerGains (l : Launch) (X : Cx) (h0 hv hi hM hV hN : Nat) (P nr : Nat) (vl iv : Nat → Nat) (hP6 : P ≤ 6) (g0 hR gc gg gn gt tk : Nat) (gl : Int32) (gs : Nat → Nat) (hgs : ∀ s, gs s < 2 ^ 31) (hk wk : Nat) (fk : Nat → Int64) (K : Nat → Bool) (hfK : RS fk K) (n rr mm : Nat) (hn : n < 2 ^ P) (hrP : rr < 4 ^ P) (hmm : mm = 2 ^ P - 1 - n) (hg1 : ∀ s, s < 4 ^ P → tp n s = tp n rr → K s = true → 1 ≤ gs s) : CtV l X (TY X) y_Ge_lowerGains cw_Ge_lowerGains ({ frames := 2, cells := 0, slots := 0, locals := 40 } : Room) [.ref g0, .int (nI (fo n 6)), .int (nI rr), .ref hk] [(g0, .inr (4, [.ref h0, .ref hR, .ref gc, .ref gg, .ref gn, .ref gt, .int (nI tk), .int gl])), (h0, .inr (2, [.ref hv, .ref hi, .ref hM, .ref hV, .ref hN, .int (nI P), .int (nI nr)])), (gg, .inl (X.2 0, 4096, .inl (ia gs))), (hk, .inr (0, [.ref wk])), (wk, .inl (X.2 1, 64, .inr (.inl fk)))] (S := Nat → Nat) (fun d => (∀ s, s < 4 ^ P → d s = if tp n s = tp n rr ∧ K s = true then gs s - 1 else gs s) ∧ ∀ s, d s < 2 ^ 31) (fun d => [(g0, .inr (4, [.ref h0, .ref hR, .ref gc, .ref gg, .ref gn, .ref gt, .int (nI tk), .int gl])), (h0, .inr (2, [.ref hv, .ref hi, .ref hM, .ref hV, .ref hN, .int (nI P), .int (nI nr)])), (gg, .inl (X.2 0, 4096, .inl (ia d))), (hk, .inr (0, [.ref wk])), (wk, .inl (X.2 1, 64, .inr (.inl fk)))]) 0 0 := by
  refine metV (by decide) (Nat.le_of_ble_eq_true rfl) ?_
  intro p e s m below meth c A ls hB hl
  obtain ⟨hx, hb, hr, hml, hown, hlk, hin, hg, hA, hD, hP, hE⟩ := hB
  have hS : va_S A s.heap s.heap [] := va_S.rf
  have hl : lv_has ls 9 [(0, .ref g0), (1, .int (nI (fo n 6))), (2, .int (nI rr)), (3, .ref hk)] := hl
  have hm64 := cm64 (show P < 7 by omega) hmm
  have h4 := p4cn mm
  have h4P := pw4le hP6
  have hfo := fo_lt n 6 (by omega)
  refine lv_aload_n hx hb d_Ge_lowerGains_0 rfl (lv_at hl 0 rfl) ?_
  refine va_get (D := X.1) (ci := 4) (v := .ref h0) (C := R_Ge) (T := F_Ge) (N := 8) hx hb hg in_Ge hown hE.1 hP 0 rfl rfl 0 (by decide) (hg _ m_134) (fun _ h9 => h9) rfl d_Ge_lowerGains_1 ?_
  refine clVI (n := 0) (As := []) (rest := []) (wc := [(h0, .inr (2, [.ref hv, .ref hi, .ref hM, .ref hV, .ref hN, .int (nI P), .int (nI nr)]))]) (wr := [(g0, .inr (4, [.ref h0, .ref hR, .ref gc, .ref gg, .ref gn, .ref gt, .int (nI tk), .int gl])), (gg, .inl (X.2 0, 4096, .inl (ia gs))), (hk, .inr (0, [.ref wk])), (wk, .inl (X.2 1, 64, .inr (.inl fk)))]) hx hb hml hown hg hE hA hP hD hS (k_Sp_allFields l X h0 hv hi hM hV hN P nr vl iv hP6) (gcons m_359 (gcons m_360 (gcons m_361 (gcons m_2 (gcons m_362 gG))))) (by decide +kernel) [1] [0, 2, 3, 4] rfl rfl (by decide) (by decide) (by decide) 0 rfl rfl rfl hl.1 (Nat.le_of_ble_eq_true rfl) rfl d_Ge_lowerGains_4 ⟨rfl, rfl, Nat.le_of_ble_eq_true rfl, Nat.le_of_ble_eq_true rfl⟩ (⟨Nat.le_of_ble_eq_true rfl, Nat.le_of_ble_eq_true rfl⟩) (fun r4 u4 H locs hq4 hP hD hS => ?_)
  have hq4 : r4 = nI (4 ^ P - 1) := hq4
  subst hq4
  have hP := hP.sub (ws' := [(g0, .inr (4, [.ref h0, .ref hR, .ref gc, .ref gg, .ref gn, .ref gt, .int (nI tk), .int gl])), (h0, .inr (2, [.ref hv, .ref hi, .ref hM, .ref hV, .ref hN, .int (nI P), .int (nI nr)])), (gg, .inl (X.2 0, 4096, .inl (ia gs))), (hk, .inr (0, [.ref wk])), (wk, .inl (X.2 1, 64, .inr (.inl fk)))]) [0, 4, 1, 2, 3] rfl
  have hD := hD.sub (ws' := [(g0, .inr (4, [.ref h0, .ref hR, .ref gc, .ref gg, .ref gn, .ref gt, .int (nI tk), .int gl])), (h0, .inr (2, [.ref hv, .ref hi, .ref hM, .ref hV, .ref hN, .int (nI P), .int (nI nr)])), (gg, .inl (X.2 0, 4096, .inl (ia gs))), (hk, .inr (0, [.ref wk])), (wk, .inl (X.2 1, 64, .inr (.inl fk)))]) [0, 4, 1, 2, 3] (by decide) rfl
  refine lv_iload_n hx hb d_Ge_lowerGains_7 rfl (lv_at hl 1 rfl) ?_
  refine lv_iconst (v := (-1)) hx hb d_Ge_lowerGains_8 (by decide) ?_
  refine lv_ixor hx hb d_Ge_lowerGains_9 ?_
  refine lv_iand hx hb d_Ge_lowerGains_10 ?_
  refine topI (y := nI (fo mm 6)) (by rw [hmm]; exact cm_fr P (by omega) n hn) ?_
  refine lv_istore hx hb d_Ge_lowerGains_11 hl (by decide) rfl (fun ls hl => ?_)
  have hl : lv_has ls 9 [(4, .int (nI (fo mm 6))), (0, .ref g0), (1, .int (nI (fo n 6))), (2, .int (nI rr)), (3, .ref hk)] := hl
  refine lv_iconst (v := nI 1) hx hb d_Ge_lowerGains_13 (by decide) ?_
  refine lv_iload hx hb d_Ge_lowerGains_14 (lv_at hl 0 rfl) ?_
  refine clSI (n := 1) (As := [.int (nI (fo mm 6))]) (rest := [.int (nI 1)]) (wc := []) (wr := [(g0, .inr (4, [.ref h0, .ref hR, .ref gc, .ref gg, .ref gn, .ref gt, .int (nI tk), .int gl])), (h0, .inr (2, [.ref hv, .ref hi, .ref hM, .ref hV, .ref hN, .int (nI P), .int (nI nr)])), (gg, .inl (X.2 0, 4096, .inl (ia gs))), (hk, .inr (0, [.ref wk])), (wk, .inl (X.2 1, 64, .inr (.inl fk)))]) hx hb hml hown hg hE hA hP hD hS (k_JI_bitCount l X (nI (fo mm 6))) (gcons m_329 (gcons m_219 (gcons m_9 (gcons m_220 gG)))) (by decide +kernel) [] [0, 1, 2, 3, 4] rfl rfl (by decide) (by decide) (by decide) rfl hl.1 (Nat.le_of_ble_eq_true rfl) rfl d_Ge_lowerGains_16 ⟨rfl, rfl, Nat.le_of_ble_eq_true rfl, Nat.le_of_ble_eq_true rfl⟩ (⟨Nat.le_of_ble_eq_true rfl, Nat.le_of_ble_eq_true rfl⟩) (fun r16 u16 H locs hq16 hP hD hS => ?_)
  have hq16 : r16 = bcI (nI (fo mm 6)) := hq16
  subst hq16
  have hP : va_P X.1 classes [(g0, .inr (4, [.ref h0, .ref hR, .ref gc, .ref gg, .ref gn, .ref gt, .int (nI tk), .int gl])), (h0, .inr (2, [.ref hv, .ref hi, .ref hM, .ref hV, .ref hN, .int (nI P), .int (nI nr)])), (gg, .inl (X.2 0, 4096, .inl (ia gs))), (hk, .inr (0, [.ref wk])), (wk, .inl (X.2 1, 64, .inr (.inl fk)))] H := hP
  have hD : va_D A [(g0, .inr (4, [.ref h0, .ref hR, .ref gc, .ref gg, .ref gn, .ref gt, .int (nI tk), .int gl])), (h0, .inr (2, [.ref hv, .ref hi, .ref hM, .ref hV, .ref hN, .int (nI P), .int (nI nr)])), (gg, .inl (X.2 0, 4096, .inl (ia gs))), (hk, .inr (0, [.ref wk])), (wk, .inl (X.2 1, 64, .inr (.inl fk)))] := hD
  refine lv_ishl hx hb d_Ge_lowerGains_19 ?_
  refine topI (y := nI (4 ^ cn mm 6)) (bcF hm64) ?_
  refine lv_istore hx hb d_Ge_lowerGains_20 hl (by decide) rfl (fun ls hl => ?_)
  have hl : lv_has ls 9 [(5, .int (nI (4 ^ cn mm 6))), (4, .int (nI (fo mm 6))), (0, .ref g0), (1, .int (nI (fo n 6))), (2, .int (nI rr)), (3, .ref hk)] := hl
  refine lv_iconst (v := nI 0) hx hb d_Ge_lowerGains_22 (by decide) ?_
  refine topI (y := nI (ux mm 0)) (by rw [ux_0]) ?_
  refine lv_istore hx hb d_Ge_lowerGains_23 hl (by decide) rfl (fun ls hl => ?_)
  have hl : lv_has ls 9 [(6, .int (nI (ux mm 0))), (5, .int (nI (4 ^ cn mm 6))), (4, .int (nI (fo mm 6))), (0, .ref g0), (1, .int (nI (fo n 6))), (2, .int (nI rr)), (3, .ref hk)] := hl
  refine lv_iconst (v := nI 0) hx hb d_Ge_lowerGains_25 (by decide) ?_
  refine lv_istore hx hb d_Ge_lowerGains_26 hl (by decide) rfl (fun ls hl => ?_)
  have hl : lv_has ls 9 [(7, .int (nI 0)), (6, .int (nI (ux mm 0))), (5, .int (nI (4 ^ cn mm 6))), (4, .int (nI (fo mm 6))), (0, .ref g0), (1, .int (nI (fo n 6))), (2, .int (nI rr)), (3, .ref hk)] := hl
  refine wLoop (nL := 9) (σ := (Nat) × (Nat → Nat)) (fun x9 => (fun (j : Nat) (d : Nat → Nat) => 4 ^ cn mm 6 - j) x9.1 x9.2) (fun x9 => (fun (j : Nat) (d : Nat → Nat) => j ≤ 4 ^ cn mm 6 ∧ lgP gs K P n rr mm j d ∧ ∀ s, d s < 2 ^ 31) x9.1 x9.2) (fun x9 => (fun (j : Nat) (d : Nat → Nat) => [(g0, .inr (4, [.ref h0, .ref hR, .ref gc, .ref gg, .ref gn, .ref gt, .int (nI tk), .int gl])), (h0, .inr (2, [.ref hv, .ref hi, .ref hM, .ref hV, .ref hN, .int (nI P), .int (nI nr)])), (gg, .inl (X.2 0, 4096, .inl (ia d))), (hk, .inr (0, [.ref wk])), (wk, .inl (X.2 1, 64, .inr (.inl fk)))]) x9.1 x9.2) (fun x9 => (fun (j : Nat) (d : Nat → Nat) => [(0, .ref g0), (1, .int (nI (fo n 6))), (2, .int (nI rr)), (3, .ref hk), (4, .int (nI (fo mm 6))), (5, .int (nI (4 ^ cn mm 6))), (6, .int (nI (ux mm j))), (7, .int (nI j))]) x9.1 x9.2) ?_ (0, gs) (⟨Nat.zero_le _, lg_0, hgs⟩) hP hD hS (lv_sub hl [4, 5, 6, 7, 3, 2, 1, 0] rfl)
  rintro ⟨j, d⟩ H locs ls hJ hP hD hS hl ih28
  have hJ : j ≤ 4 ^ cn mm 6 ∧ lgP gs K P n rr mm j d ∧ ∀ s, d s < 2 ^ 31 := hJ
  obtain ⟨hj, hlg, hds⟩ := hJ
  have hP : va_P X.1 classes [(g0, .inr (4, [.ref h0, .ref hR, .ref gc, .ref gg, .ref gn, .ref gt, .int (nI tk), .int gl])), (h0, .inr (2, [.ref hv, .ref hi, .ref hM, .ref hV, .ref hN, .int (nI P), .int (nI nr)])), (gg, .inl (X.2 0, 4096, .inl (ia d))), (hk, .inr (0, [.ref wk])), (wk, .inl (X.2 1, 64, .inr (.inl fk)))] H := hP
  have hD : va_D A [(g0, .inr (4, [.ref h0, .ref hR, .ref gc, .ref gg, .ref gn, .ref gt, .int (nI tk), .int gl])), (h0, .inr (2, [.ref hv, .ref hi, .ref hM, .ref hV, .ref hN, .int (nI P), .int (nI nr)])), (gg, .inl (X.2 0, 4096, .inl (ia d))), (hk, .inr (0, [.ref wk])), (wk, .inl (X.2 1, 64, .inr (.inl fk)))] := hD
  have hl : lv_has ls 9 [(0, .ref g0), (1, .int (nI (fo n 6))), (2, .int (nI rr)), (3, .ref hk), (4, .int (nI (fo mm 6))), (5, .int (nI (4 ^ cn mm 6))), (6, .int (nI (ux mm j))), (7, .int (nI j))] := hl
  refine lv_iload hx hb d_Ge_lowerGains_28 (lv_at hl 7 rfl) ?_
  refine lv_iload hx hb d_Ge_lowerGains_30 (lv_at hl 5 rfl) ?_
  refine lv_icmp_ge (tgt := 78) hx hb d_Ge_lowerGains_32 (by decide) (fun hc32 => ?_) (fun hc32 => ?_)
  · rw [nI_leI (by omega) (by omega)] at hc32
    exact retV (u := d) hx hb hr hlk hP hD hS (⟨lg_end (by omega) hlg, hds⟩) d_Ge_lowerGains_78
  · rw [nI_leI (by omega) (by omega)] at hc32
    refine lv_iload_n hx hb d_Ge_lowerGains_35 rfl (lv_at hl 2 rfl) ?_
    refine lv_iload_n hx hb d_Ge_lowerGains_36 rfl (lv_at hl 1 rfl) ?_
    refine lv_iand hx hb d_Ge_lowerGains_37 ?_
    refine topI (nx_and _ _) ?_
    refine lv_iload hx hb d_Ge_lowerGains_38 (lv_at hl 6 rfl) ?_
    refine lv_ior hx hb d_Ge_lowerGains_40 ?_
    refine topI (y := nI (ot rr n mm j)) (nx_or _ _) ?_
    have hot : ot rr n mm j < 4 ^ P := hmm ▸ ot_P (by omega) hn hrP
    have hat := lg_at (by omega) hn hrP hmm (by omega) hlg
    refine lv_istore hx hb d_Ge_lowerGains_41 hl (by decide) rfl (fun ls hl => ?_)
    have hl : lv_has ls 9 [(8, .int (nI (ot rr n mm j))), (0, .ref g0), (1, .int (nI (fo n 6))), (2, .int (nI rr)), (3, .ref hk), (4, .int (nI (fo mm 6))), (5, .int (nI (4 ^ cn mm 6))), (6, .int (nI (ux mm j))), (7, .int (nI j))] := hl
    refine lv_aload_n hx hb d_Ge_lowerGains_43 rfl (lv_at hl 4 rfl) ?_
    refine lv_iload hx hb d_Ge_lowerGains_44 (lv_at hl 0 rfl) ?_
    refine clVI (n := 1) (As := [.int (nI (ot rr n mm j))]) (rest := []) (wc := [(hk, .inr (0, [.ref wk])), (wk, .inl (X.2 1, 64, .inr (.inl fk)))]) (wr := [(g0, .inr (4, [.ref h0, .ref hR, .ref gc, .ref gg, .ref gn, .ref gt, .int (nI tk), .int gl])), (h0, .inr (2, [.ref hv, .ref hi, .ref hM, .ref hV, .ref hN, .int (nI P), .int (nI nr)])), (gg, .inl (X.2 0, 4096, .inl (ia d)))]) hx hb hml hown hg hE hA hP hD hS (k_NS_has l X hk wk fk K hfK (ot rr n mm j) (by omega)) (gcons m_355 (gcons m_356 (gcons m_357 (gcons m_3 (gcons m_358 gG))))) (by decide +kernel) [3, 4] [0, 1, 2] rfl rfl (by decide) (by decide) (by decide) 0 rfl rfl rfl hl.1 (Nat.le_of_ble_eq_true rfl) rfl d_Ge_lowerGains_46 ⟨rfl, rfl, Nat.le_of_ble_eq_true rfl, Nat.le_of_ble_eq_true rfl⟩ (⟨Nat.le_of_ble_eq_true rfl, Nat.le_of_ble_eq_true rfl⟩) (fun r46 u46 H locs hq46 hP hD hS => ?_)
    have hq46 : r46 = bI (K (ot rr n mm j)) := hq46
    subst hq46
    have hP : va_P X.1 classes [(g0, .inr (4, [.ref h0, .ref hR, .ref gc, .ref gg, .ref gn, .ref gt, .int (nI tk), .int gl])), (h0, .inr (2, [.ref hv, .ref hi, .ref hM, .ref hV, .ref hN, .int (nI P), .int (nI nr)])), (gg, .inl (X.2 0, 4096, .inl (ia d))), (hk, .inr (0, [.ref wk])), (wk, .inl (X.2 1, 64, .inr (.inl fk)))] H := hP
    have hD : va_D A [(g0, .inr (4, [.ref h0, .ref hR, .ref gc, .ref gg, .ref gn, .ref gt, .int (nI tk), .int gl])), (h0, .inr (2, [.ref hv, .ref hi, .ref hM, .ref hV, .ref hN, .int (nI P), .int (nI nr)])), (gg, .inl (X.2 0, 4096, .inl (ia d))), (hk, .inr (0, [.ref wk])), (wk, .inl (X.2 1, 64, .inr (.inl fk)))] := hD
    refine lv_if_eq (tgt := 63) hx hb d_Ge_lowerGains_49 (by decide) (fun hc49 => ?_) (fun hc49 => ?_)
    · rw [bI_z] at hc49
      refine lv_iload hx hb d_Ge_lowerGains_63 (lv_at hl 5 rfl) ?_
      refine lv_iload hx hb d_Ge_lowerGains_65 (lv_at hl 7 rfl) ?_
      refine clSNI (n := 2) (As := [.int (nI (fo mm 6)), .int (nI (ux mm j))]) (rest := []) (wc := []) (wr := [(g0, .inr (4, [.ref h0, .ref hR, .ref gc, .ref gg, .ref gn, .ref gt, .int (nI tk), .int gl])), (h0, .inr (2, [.ref hv, .ref hi, .ref hM, .ref hV, .ref hN, .int (nI P), .int (nI nr)])), (gg, .inl (X.2 0, 4096, .inl (ia d))), (hk, .inr (0, [.ref wk])), (wk, .inl (X.2 1, 64, .inr (.inl fk)))]) hx hb hml hown hg hE hA hP hD hS (k_CR_nextWithin l X (nI (fo mm 6)) (nI (ux mm j))) m_311 m_310 m_1 (nw_9 hE.2.1) (by decide +kernel) [] [0, 1, 2, 3, 4] rfl rfl (by decide) (by decide) (by decide) rfl hl.1 (Nat.le_of_ble_eq_true rfl) rfl d_Ge_lowerGains_67 ⟨rfl, rfl, Nat.le_of_ble_eq_true rfl, Nat.le_of_ble_eq_true rfl⟩ (⟨Nat.le_of_ble_eq_true rfl, Nat.le_of_ble_eq_true rfl⟩) (fun r67 u67 H locs hq67 hP hD hS => ?_)
      have hq67 : r67 = (nI (ux mm j) - nI (fo mm 6)) &&& nI (fo mm 6) := hq67
      subst hq67
      have hP : va_P X.1 classes [(g0, .inr (4, [.ref h0, .ref hR, .ref gc, .ref gg, .ref gn, .ref gt, .int (nI tk), .int gl])), (h0, .inr (2, [.ref hv, .ref hi, .ref hM, .ref hV, .ref hN, .int (nI P), .int (nI nr)])), (gg, .inl (X.2 0, 4096, .inl (ia d))), (hk, .inr (0, [.ref wk])), (wk, .inl (X.2 1, 64, .inr (.inl fk)))] H := hP
      have hD : va_D A [(g0, .inr (4, [.ref h0, .ref hR, .ref gc, .ref gg, .ref gn, .ref gt, .int (nI tk), .int gl])), (h0, .inr (2, [.ref hv, .ref hi, .ref hM, .ref hV, .ref hN, .int (nI P), .int (nI nr)])), (gg, .inl (X.2 0, 4096, .inl (ia d))), (hk, .inr (0, [.ref wk])), (wk, .inl (X.2 1, 64, .inr (.inl fk)))] := hD
      refine topI (y := nI (ux mm (j + 1))) (ux_next hm64 (by omega)) ?_
      refine lv_istore hx hb d_Ge_lowerGains_70 hl (by decide) rfl (fun ls hl => ?_)
      have hl : lv_has ls 9 [(6, .int (nI (ux mm (j + 1)))), (8, .int (nI (ot rr n mm j))), (0, .ref g0), (1, .int (nI (fo n 6))), (2, .int (nI rr)), (3, .ref hk), (4, .int (nI (fo mm 6))), (5, .int (nI (4 ^ cn mm 6))), (7, .int (nI j))] := hl
      refine lv_iinc (k := 8) (v := nI (j + 1)) hx hb d_Ge_lowerGains_72 hl rfl (nI_1 _) (by decide) rfl (fun ls hl => ?_)
      have hl : lv_has ls 9 [(7, .int (nI (j + 1))), (6, .int (nI (ux mm (j + 1)))), (8, .int (nI (ot rr n mm j))), (0, .ref g0), (1, .int (nI (fo n 6))), (2, .int (nI rr)), (3, .ref hk), (4, .int (nI (fo mm 6))), (5, .int (nI (4 ^ cn mm 6)))] := hl
      refine lv_goto (tgt := 28) hx hb d_Ge_lowerGains_75 (by decide) ?_
      exact ih28 (j + 1, d) H locs ls (by (try dsimp only); omega) (by first | exact ⟨by (try dsimp only); omega, lg_T (by omega) hn hrP hmm (by omega) hlg hc49, up31 hds (by have := hds (ot rr n mm j); omega)⟩ | exact ⟨by (try dsimp only); omega, lg_F (by omega) hn hrP hmm (by omega) hlg hc49, hds⟩) hP hD hS (lv_sub hl [3, 4, 5, 6, 7, 8, 1, 0] rfl)
    · rw [bI_z] at hc49
      refine lv_aload_n hx hb d_Ge_lowerGains_52 rfl (lv_at hl 1 rfl) ?_
      refine va_get (D := X.1) (ci := 4) (v := .ref gg) (C := R_Ge) (T := F_Ge) (N := 8) hx hb hg in_Ge hown hE.1 hP 0 rfl rfl 3 (by decide) (hg _ m_137) (fun _ h9 => h9) rfl d_Ge_lowerGains_53 ?_
      refine lv_iload hx hb d_Ge_lowerGains_56 (lv_at hl 0 rfl) ?_
      refine lv_dup2_11 hx hb d_Ge_lowerGains_58 rfl rfl ?_
      refine va_iald hx hb hE.1 hP 2 0 rfl rfl (vp_in_nI (by omega) (by decide)) d_Ge_lowerGains_59 ?_
      refine topI (y := (ia d) (ot rr n mm j)) (by rw [nI_clamp (by omega)]) ?_
      refine topI (y := nI (d (ot rr n mm j))) (rfl) ?_
      refine lv_iconst (v := nI 1) hx hb d_Ge_lowerGains_60 (by decide) ?_
      refine lv_isub hx hb d_Ge_lowerGains_61 ?_
      refine topI (pk_sub (by rw [hat]; exact hg1 _ hot (ot_tp (by omega) hn hrP hmm (by omega)) (ts_nf hc49))) ?_
      refine va_iast hx hb hE.1 hP hD hS 2 0 rfl rfl (vp_in_nI (by omega) (by decide)) d_Ge_lowerGains_62 (fun H locs hP hD hS => ?_)
      have hP : va_P X.1 classes [(g0, .inr (4, [.ref h0, .ref hR, .ref gc, .ref gg, .ref gn, .ref gt, .int (nI tk), .int gl])), (h0, .inr (2, [.ref hv, .ref hi, .ref hM, .ref hV, .ref hN, .int (nI P), .int (nI nr)])), (gg, .inl (X.2 0, 4096, .inl (upd (ia d) (nI (ot rr n mm j)).toNatClampNeg (nI ((d (ot rr n mm j)) - 1))))), (hk, .inr (0, [.ref wk])), (wk, .inl (X.2 1, 64, .inr (.inl fk)))] H := hP
      have hD : va_D A [(g0, .inr (4, [.ref h0, .ref hR, .ref gc, .ref gg, .ref gn, .ref gt, .int (nI tk), .int gl])), (h0, .inr (2, [.ref hv, .ref hi, .ref hM, .ref hV, .ref hN, .int (nI P), .int (nI nr)])), (gg, .inl (X.2 0, 4096, .inl (upd (ia d) (nI (ot rr n mm j)).toNatClampNeg (nI ((d (ot rr n mm j)) - 1))))), (hk, .inr (0, [.ref wk])), (wk, .inl (X.2 1, 64, .inr (.inl fk)))] := hD
      rw [nI_clamp (show ot rr n mm j < 2 ^ 31 by omega)] at hP hD
      have e9 : upd (ia d) (ot rr n mm j) (nI ((d (ot rr n mm j)) - 1)) = ia (upN d (ot rr n mm j) (d (ot rr n mm j) - 1)) := upd_ia _ _ _
      rw [e9] at hP hD
      clear e9
      refine lv_iload hx hb d_Ge_lowerGains_63 (lv_at hl 5 rfl) ?_
      refine lv_iload hx hb d_Ge_lowerGains_65 (lv_at hl 7 rfl) ?_
      refine clSNI (n := 2) (As := [.int (nI (fo mm 6)), .int (nI (ux mm j))]) (rest := []) (wc := []) (wr := [(g0, .inr (4, [.ref h0, .ref hR, .ref gc, .ref gg, .ref gn, .ref gt, .int (nI tk), .int gl])), (h0, .inr (2, [.ref hv, .ref hi, .ref hM, .ref hV, .ref hN, .int (nI P), .int (nI nr)])), (gg, .inl (X.2 0, 4096, .inl (ia (upN d (ot rr n mm j) (d (ot rr n mm j) - 1))))), (hk, .inr (0, [.ref wk])), (wk, .inl (X.2 1, 64, .inr (.inl fk)))]) hx hb hml hown hg hE hA hP hD hS (k_CR_nextWithin l X (nI (fo mm 6)) (nI (ux mm j))) m_311 m_310 m_1 (nw_9 hE.2.1) (by decide +kernel) [] [0, 1, 2, 3, 4] rfl rfl (by decide) (by decide) (by decide) rfl hl.1 (Nat.le_of_ble_eq_true rfl) rfl d_Ge_lowerGains_67 ⟨rfl, rfl, Nat.le_of_ble_eq_true rfl, Nat.le_of_ble_eq_true rfl⟩ (⟨Nat.le_of_ble_eq_true rfl, Nat.le_of_ble_eq_true rfl⟩) (fun r67 u67 H locs hq67 hP hD hS => ?_)
      have hq67 : r67 = (nI (ux mm j) - nI (fo mm 6)) &&& nI (fo mm 6) := hq67
      subst hq67
      have hP : va_P X.1 classes [(g0, .inr (4, [.ref h0, .ref hR, .ref gc, .ref gg, .ref gn, .ref gt, .int (nI tk), .int gl])), (h0, .inr (2, [.ref hv, .ref hi, .ref hM, .ref hV, .ref hN, .int (nI P), .int (nI nr)])), (gg, .inl (X.2 0, 4096, .inl (ia (upN d (ot rr n mm j) (d (ot rr n mm j) - 1))))), (hk, .inr (0, [.ref wk])), (wk, .inl (X.2 1, 64, .inr (.inl fk)))] H := hP
      have hD : va_D A [(g0, .inr (4, [.ref h0, .ref hR, .ref gc, .ref gg, .ref gn, .ref gt, .int (nI tk), .int gl])), (h0, .inr (2, [.ref hv, .ref hi, .ref hM, .ref hV, .ref hN, .int (nI P), .int (nI nr)])), (gg, .inl (X.2 0, 4096, .inl (ia (upN d (ot rr n mm j) (d (ot rr n mm j) - 1))))), (hk, .inr (0, [.ref wk])), (wk, .inl (X.2 1, 64, .inr (.inl fk)))] := hD
      refine topI (y := nI (ux mm (j + 1))) (ux_next hm64 (by omega)) ?_
      refine lv_istore hx hb d_Ge_lowerGains_70 hl (by decide) rfl (fun ls hl => ?_)
      have hl : lv_has ls 9 [(6, .int (nI (ux mm (j + 1)))), (8, .int (nI (ot rr n mm j))), (0, .ref g0), (1, .int (nI (fo n 6))), (2, .int (nI rr)), (3, .ref hk), (4, .int (nI (fo mm 6))), (5, .int (nI (4 ^ cn mm 6))), (7, .int (nI j))] := hl
      refine lv_iinc (k := 8) (v := nI (j + 1)) hx hb d_Ge_lowerGains_72 hl rfl (nI_1 _) (by decide) rfl (fun ls hl => ?_)
      have hl : lv_has ls 9 [(7, .int (nI (j + 1))), (6, .int (nI (ux mm (j + 1)))), (8, .int (nI (ot rr n mm j))), (0, .ref g0), (1, .int (nI (fo n 6))), (2, .int (nI rr)), (3, .ref hk), (4, .int (nI (fo mm 6))), (5, .int (nI (4 ^ cn mm 6)))] := hl
      refine lv_goto (tgt := 28) hx hb d_Ge_lowerGains_75 (by decide) ?_
      exact ih28 (j + 1, ((upN d (ot rr n mm j) (d (ot rr n mm j) - 1)))) H locs ls (by (try dsimp only); omega) (by first | exact ⟨by (try dsimp only); omega, lg_T (by omega) hn hrP hmm (by omega) hlg hc49, up31 hds (by have := hds (ot rr n mm j); omega)⟩ | exact ⟨by (try dsimp only); omega, lg_F (by omega) hn hrP hmm (by omega) hlg hc49, hds⟩) hP hD hS (lv_sub hl [3, 4, 5, 6, 7, 8, 1, 0] rfl)
set_option maxHeartbeats 4000000 in
set_option maxRecDepth 100000 in
theorem k_Ge_bestOf (l : Launch) (X : Cx) (h0 hv hi hM hV hN : Nat) (P nr : Nat) (vl iv : Nat → Nat) (hP6 : P ≤ 6) (g0 hR gc gg gn gt tk : Nat) (gl : Int32) (gs : Nat → Nat) (hgs : ∀ s, gs s < 2 ^ 31) (hk wk : Nat) (fk : Nat → Int64) (K : Nat → Bool) (hfK : RS fk K) : CtI l X (TY X) y_Ge_bestOf cw_Ge_bestOf ({ frames := 1, cells := 0, slots := 0, locals := 21 } : Room) [.ref g0, .ref hk] [(g0, .inr (4, [.ref h0, .ref hR, .ref gc, .ref gg, .ref gn, .ref gt, .int (nI tk), .int gl])), (h0, .inr (2, [.ref hv, .ref hi, .ref hM, .ref hV, .ref hN, .int (nI P), .int (nI nr)])), (gg, .inl (X.2 0, 4096, .inl (ia gs))), (hk, .inr (0, [.ref wk])), (wk, .inl (X.2 1, 64, .inr (.inl fk)))] (S := Option Nat) (fun r b => r = oI b ∧ bsP K gs (4 ^ P) b) (fun _ => [(g0, .inr (4, [.ref h0, .ref hR, .ref gc, .ref gg, .ref gn, .ref gt, .int (nI tk), .int gl])), (h0, .inr (2, [.ref hv, .ref hi, .ref hM, .ref hV, .ref hN, .int (nI P), .int (nI nr)])), (gg, .inl (X.2 0, 4096, .inl (ia gs))), (hk, .inr (0, [.ref wk])), (wk, .inl (X.2 1, 64, .inr (.inl fk)))]) 0 0 := by
  refine metI (by decide) (Nat.le_of_ble_eq_true rfl) ?_
  intro p e s m below meth c A ls hB hl
  obtain ⟨hx, hb, hr, hml, hown, hlk, hin, hg, hA, hD, hP, hE⟩ := hB
  have hS : va_S A s.heap s.heap [] := va_S.rf
  have hl : lv_has ls 6 [(0, .ref g0), (1, .ref hk)] := hl
  have h4P := pw4le hP6
  refine lv_iconst (v := (-1)) hx hb d_Ge_bestOf_0 (by decide) ?_
  refine topI (y := oI none) (rfl) ?_
  refine lv_istore_n hx hb d_Ge_bestOf_1 rfl hl (by decide) rfl (fun ls hl => ?_)
  have hl : lv_has ls 6 [(2, .int (oI none)), (0, .ref g0), (1, .ref hk)] := hl
  refine lv_iconst (v := nI 0) hx hb d_Ge_bestOf_2 (by decide) ?_
  refine lv_istore_n hx hb d_Ge_bestOf_3 rfl hl (by decide) rfl (fun ls hl => ?_)
  have hl : lv_has ls 6 [(3, .int (nI 0)), (2, .int (oI none)), (0, .ref g0), (1, .ref hk)] := hl
  refine lv_aload_n hx hb d_Ge_bestOf_4 rfl (lv_at hl 2 rfl) ?_
  refine va_get (D := X.1) (ci := 4) (v := .ref h0) (C := R_Ge) (T := F_Ge) (N := 8) hx hb hg in_Ge hown hE.1 hP 0 rfl rfl 0 (by decide) (hg _ m_134) (fun _ h9 => h9) rfl d_Ge_bestOf_5 ?_
  refine clVI (n := 0) (As := []) (rest := []) (wc := [(h0, .inr (2, [.ref hv, .ref hi, .ref hM, .ref hV, .ref hN, .int (nI P), .int (nI nr)]))]) (wr := [(g0, .inr (4, [.ref h0, .ref hR, .ref gc, .ref gg, .ref gn, .ref gt, .int (nI tk), .int gl])), (gg, .inl (X.2 0, 4096, .inl (ia gs))), (hk, .inr (0, [.ref wk])), (wk, .inl (X.2 1, 64, .inr (.inl fk)))]) hx hb hml hown hg hE hA hP hD hS (k_Sp_numberLimit l X h0 hv hi hM hV hN P nr vl iv hP6) (gcons m_347 (gcons m_348 (gcons m_349 (gcons m_2 (gcons m_350 gG))))) (by decide +kernel) [1] [0, 2, 3, 4] rfl rfl (by decide) (by decide) (by decide) 0 rfl rfl rfl hl.1 (Nat.le_of_ble_eq_true rfl) rfl d_Ge_bestOf_8 ⟨rfl, rfl, Nat.le_of_ble_eq_true rfl, Nat.le_of_ble_eq_true rfl⟩ (⟨Nat.le_of_ble_eq_true rfl, Nat.le_of_ble_eq_true rfl⟩) (fun r8 u8 H locs hq8 hP hD hS => ?_)
  have hq8 : r8 = nI (4 ^ P) := hq8
  subst hq8
  have hP := hP.sub (ws' := [(g0, .inr (4, [.ref h0, .ref hR, .ref gc, .ref gg, .ref gn, .ref gt, .int (nI tk), .int gl])), (h0, .inr (2, [.ref hv, .ref hi, .ref hM, .ref hV, .ref hN, .int (nI P), .int (nI nr)])), (gg, .inl (X.2 0, 4096, .inl (ia gs))), (hk, .inr (0, [.ref wk])), (wk, .inl (X.2 1, 64, .inr (.inl fk)))]) [0, 4, 1, 2, 3] rfl
  have hD := hD.sub (ws' := [(g0, .inr (4, [.ref h0, .ref hR, .ref gc, .ref gg, .ref gn, .ref gt, .int (nI tk), .int gl])), (h0, .inr (2, [.ref hv, .ref hi, .ref hM, .ref hV, .ref hN, .int (nI P), .int (nI nr)])), (gg, .inl (X.2 0, 4096, .inl (ia gs))), (hk, .inr (0, [.ref wk])), (wk, .inl (X.2 1, 64, .inr (.inl fk)))]) [0, 4, 1, 2, 3] (by decide) rfl
  refine lv_istore hx hb d_Ge_bestOf_11 hl (by decide) rfl (fun ls hl => ?_)
  have hl : lv_has ls 6 [(4, .int (nI (4 ^ P))), (3, .int (nI 0)), (2, .int (oI none)), (0, .ref g0), (1, .ref hk)] := hl
  refine lv_iconst (v := nI 0) hx hb d_Ge_bestOf_13 (by decide) ?_
  refine lv_istore hx hb d_Ge_bestOf_14 hl (by decide) rfl (fun ls hl => ?_)
  have hl : lv_has ls 6 [(5, .int (nI 0)), (4, .int (nI (4 ^ P))), (3, .int (nI 0)), (2, .int (oI none)), (0, .ref g0), (1, .ref hk)] := hl
  refine wLoop (nL := 6) (σ := (Nat) × (Option Nat)) (fun x9 => (fun (k : Nat) (b : Option Nat) => 4 ^ P - k) x9.1 x9.2) (fun x9 => (fun (k : Nat) (b : Option Nat) => k ≤ 4 ^ P ∧ bsP K gs k b) x9.1 x9.2) (fun x9 => (fun (k : Nat) (b : Option Nat) => [(g0, .inr (4, [.ref h0, .ref hR, .ref gc, .ref gg, .ref gn, .ref gt, .int (nI tk), .int gl])), (h0, .inr (2, [.ref hv, .ref hi, .ref hM, .ref hV, .ref hN, .int (nI P), .int (nI nr)])), (gg, .inl (X.2 0, 4096, .inl (ia gs))), (hk, .inr (0, [.ref wk])), (wk, .inl (X.2 1, 64, .inr (.inl fk)))]) x9.1 x9.2) (fun x9 => (fun (k : Nat) (b : Option Nat) => [(0, .ref g0), (1, .ref hk), (2, .int (oI b)), (3, .int (nI (mst gs b))), (4, .int (nI (4 ^ P))), (5, .int (nI k))]) x9.1 x9.2) ?_ (0, none) (⟨Nat.zero_le _, bs_0⟩) hP hD hS (lv_sub hl [4, 5, 3, 2, 1, 0] rfl)
  rintro ⟨k, b⟩ H locs ls hJ hP hD hS hl ih16
  have hJ : k ≤ 4 ^ P ∧ bsP K gs k b := hJ
  obtain ⟨hk4, hbs⟩ := hJ
  have hgk := hgs k
  have hmb := mst_lt (by decide) hgs b
  have hP : va_P X.1 classes [(g0, .inr (4, [.ref h0, .ref hR, .ref gc, .ref gg, .ref gn, .ref gt, .int (nI tk), .int gl])), (h0, .inr (2, [.ref hv, .ref hi, .ref hM, .ref hV, .ref hN, .int (nI P), .int (nI nr)])), (gg, .inl (X.2 0, 4096, .inl (ia gs))), (hk, .inr (0, [.ref wk])), (wk, .inl (X.2 1, 64, .inr (.inl fk)))] H := hP
  have hD : va_D A [(g0, .inr (4, [.ref h0, .ref hR, .ref gc, .ref gg, .ref gn, .ref gt, .int (nI tk), .int gl])), (h0, .inr (2, [.ref hv, .ref hi, .ref hM, .ref hV, .ref hN, .int (nI P), .int (nI nr)])), (gg, .inl (X.2 0, 4096, .inl (ia gs))), (hk, .inr (0, [.ref wk])), (wk, .inl (X.2 1, 64, .inr (.inl fk)))] := hD
  have hl : lv_has ls 6 [(0, .ref g0), (1, .ref hk), (2, .int (oI b)), (3, .int (nI (mst gs b))), (4, .int (nI (4 ^ P))), (5, .int (nI k))] := hl
  refine lv_iload hx hb d_Ge_bestOf_16 (lv_at hl 5 rfl) ?_
  refine lv_iload hx hb d_Ge_bestOf_18 (lv_at hl 4 rfl) ?_
  refine lv_icmp_ge (tgt := 60) hx hb d_Ge_bestOf_20 (by decide) (fun hc20 => ?_) (fun hc20 => ?_)
  · rw [nI_leI (by omega) (by omega)] at hc20
    refine lv_iload_n hx hb d_Ge_bestOf_60 rfl (lv_at hl 2 rfl) ?_
    obtain rfl : k = 4 ^ P := by omega
    exact retI (u := b) hx hb hr hlk hP hD hS (⟨rfl, hbs⟩) d_Ge_bestOf_61
  · rw [nI_leI (by omega) (by omega)] at hc20
    refine lv_aload_n hx hb d_Ge_bestOf_23 rfl (lv_at hl 0 rfl) ?_
    refine va_get (D := X.1) (ci := 4) (v := .ref gg) (C := R_Ge) (T := F_Ge) (N := 8) hx hb hg in_Ge hown hE.1 hP 0 rfl rfl 3 (by decide) (hg _ m_137) (fun _ h9 => h9) rfl d_Ge_bestOf_24 ?_
    refine lv_iload hx hb d_Ge_bestOf_27 (lv_at hl 5 rfl) ?_
    refine va_iald hx hb hE.1 hP 2 0 rfl rfl (vp_in_nI (by omega) (by decide)) d_Ge_bestOf_29 ?_
    refine topI (y := (ia gs) k) (by rw [nI_clamp (by omega)]) ?_
    refine topI (y := nI (gs k)) (rfl) ?_
    refine lv_iload_n hx hb d_Ge_bestOf_30 rfl (lv_at hl 3 rfl) ?_
    refine lv_icmp_le (tgt := 54) hx hb d_Ge_bestOf_31 (by decide) (fun hc31 => ?_) (fun hc31 => ?_)
    · rw [nI_leI (by omega) (by omega)] at hc31
      refine lv_iinc (k := 5) (v := nI (k + 1)) hx hb d_Ge_bestOf_54 hl rfl (nI_1 _) (by decide) rfl (fun ls hl => ?_)
      have hl : lv_has ls 6 [(5, .int (nI (k + 1))), (0, .ref g0), (1, .ref hk), (2, .int (oI b)), (3, .int (nI (mst gs b))), (4, .int (nI (4 ^ P)))] := hl
      refine lv_goto (tgt := 16) hx hb d_Ge_bestOf_57 (by decide) ?_
      exact ih16 (k + 1, b) H locs ls (by (try dsimp only); omega) (by first | exact ⟨by (try dsimp only); omega, bs_no hbs (fun _ => hc31)⟩ | exact ⟨by (try dsimp only); omega, bs_no hbs (fun hR9 => by rw [hc40] at hR9; cases hR9)⟩ | exact ⟨by (try dsimp only); omega, bs_new hbs (ts_nf hc40) (by omega)⟩) hP hD hS (lv_sub hl [1, 2, 3, 4, 5, 0] rfl)
    · rw [nI_leI (by omega) (by omega)] at hc31
      refine lv_aload_n hx hb d_Ge_bestOf_34 rfl (lv_at hl 1 rfl) ?_
      refine lv_iload hx hb d_Ge_bestOf_35 (lv_at hl 5 rfl) ?_
      refine clVI (n := 1) (As := [.int (nI k)]) (rest := []) (wc := [(hk, .inr (0, [.ref wk])), (wk, .inl (X.2 1, 64, .inr (.inl fk)))]) (wr := [(g0, .inr (4, [.ref h0, .ref hR, .ref gc, .ref gg, .ref gn, .ref gt, .int (nI tk), .int gl])), (h0, .inr (2, [.ref hv, .ref hi, .ref hM, .ref hV, .ref hN, .int (nI P), .int (nI nr)])), (gg, .inl (X.2 0, 4096, .inl (ia gs)))]) hx hb hml hown hg hE hA hP hD hS (k_NS_has l X hk wk fk K hfK k (by omega)) (gcons m_355 (gcons m_356 (gcons m_357 (gcons m_3 (gcons m_358 gG))))) (by decide +kernel) [3, 4] [0, 1, 2] rfl rfl (by decide) (by decide) (by decide) 0 rfl rfl rfl hl.1 (Nat.le_of_ble_eq_true rfl) rfl d_Ge_bestOf_37 ⟨rfl, rfl, Nat.le_of_ble_eq_true rfl, Nat.le_of_ble_eq_true rfl⟩ (⟨Nat.le_of_ble_eq_true rfl, Nat.le_of_ble_eq_true rfl⟩) (fun r37 u37 H locs hq37 hP hD hS => ?_)
      have hq37 : r37 = bI (K k) := hq37
      subst hq37
      have hP : va_P X.1 classes [(g0, .inr (4, [.ref h0, .ref hR, .ref gc, .ref gg, .ref gn, .ref gt, .int (nI tk), .int gl])), (h0, .inr (2, [.ref hv, .ref hi, .ref hM, .ref hV, .ref hN, .int (nI P), .int (nI nr)])), (gg, .inl (X.2 0, 4096, .inl (ia gs))), (hk, .inr (0, [.ref wk])), (wk, .inl (X.2 1, 64, .inr (.inl fk)))] H := hP
      have hD : va_D A [(g0, .inr (4, [.ref h0, .ref hR, .ref gc, .ref gg, .ref gn, .ref gt, .int (nI tk), .int gl])), (h0, .inr (2, [.ref hv, .ref hi, .ref hM, .ref hV, .ref hN, .int (nI P), .int (nI nr)])), (gg, .inl (X.2 0, 4096, .inl (ia gs))), (hk, .inr (0, [.ref wk])), (wk, .inl (X.2 1, 64, .inr (.inl fk)))] := hD
      refine lv_if_eq (tgt := 54) hx hb d_Ge_bestOf_40 (by decide) (fun hc40 => ?_) (fun hc40 => ?_)
      · rw [bI_z] at hc40
        refine lv_iinc (k := 5) (v := nI (k + 1)) hx hb d_Ge_bestOf_54 hl rfl (nI_1 _) (by decide) rfl (fun ls hl => ?_)
        have hl : lv_has ls 6 [(5, .int (nI (k + 1))), (0, .ref g0), (1, .ref hk), (2, .int (oI b)), (3, .int (nI (mst gs b))), (4, .int (nI (4 ^ P)))] := hl
        refine lv_goto (tgt := 16) hx hb d_Ge_bestOf_57 (by decide) ?_
        exact ih16 (k + 1, b) H locs ls (by (try dsimp only); omega) (by first | exact ⟨by (try dsimp only); omega, bs_no hbs (fun _ => hc31)⟩ | exact ⟨by (try dsimp only); omega, bs_no hbs (fun hR9 => by rw [hc40] at hR9; cases hR9)⟩ | exact ⟨by (try dsimp only); omega, bs_new hbs (ts_nf hc40) (by omega)⟩) hP hD hS (lv_sub hl [1, 2, 3, 4, 5, 0] rfl)
      · rw [bI_z] at hc40
        refine lv_aload_n hx hb d_Ge_bestOf_43 rfl (lv_at hl 0 rfl) ?_
        refine va_get (D := X.1) (ci := 4) (v := .ref gg) (C := R_Ge) (T := F_Ge) (N := 8) hx hb hg in_Ge hown hE.1 hP 0 rfl rfl 3 (by decide) (hg _ m_137) (fun _ h9 => h9) rfl d_Ge_bestOf_44 ?_
        refine lv_iload hx hb d_Ge_bestOf_47 (lv_at hl 5 rfl) ?_
        refine va_iald hx hb hE.1 hP 2 0 rfl rfl (vp_in_nI (by omega) (by decide)) d_Ge_bestOf_49 ?_
        refine topI (y := (ia gs) k) (by rw [nI_clamp (by omega)]) ?_
        refine topI (y := nI (gs k)) (rfl) ?_
        refine lv_istore_n hx hb d_Ge_bestOf_50 rfl hl (by decide) rfl (fun ls hl => ?_)
        have hl : lv_has ls 6 [(3, .int (nI (gs k))), (0, .ref g0), (1, .ref hk), (2, .int (oI b)), (4, .int (nI (4 ^ P))), (5, .int (nI k))] := hl
        refine lv_iload hx hb d_Ge_bestOf_51 (lv_at hl 5 rfl) ?_
        refine lv_istore_n hx hb d_Ge_bestOf_53 rfl hl (by decide) rfl (fun ls hl => ?_)
        have hl : lv_has ls 6 [(2, .int (nI k)), (3, .int (nI (gs k))), (0, .ref g0), (1, .ref hk), (4, .int (nI (4 ^ P))), (5, .int (nI k))] := hl
        refine lv_iinc (k := 5) (v := nI (k + 1)) hx hb d_Ge_bestOf_54 hl rfl (nI_1 _) (by decide) rfl (fun ls hl => ?_)
        have hl : lv_has ls 6 [(5, .int (nI (k + 1))), (2, .int (nI k)), (3, .int (nI (gs k))), (0, .ref g0), (1, .ref hk), (4, .int (nI (4 ^ P)))] := hl
        refine lv_goto (tgt := 16) hx hb d_Ge_bestOf_57 (by decide) ?_
        exact ih16 (k + 1, some k) H locs ls (by (try dsimp only); omega) (by first | exact ⟨by (try dsimp only); omega, bs_no hbs (fun _ => hc31)⟩ | exact ⟨by (try dsimp only); omega, bs_no hbs (fun hR9 => by rw [hc40] at hR9; cases hR9)⟩ | exact ⟨by (try dsimp only); omega, bs_new hbs (ts_nf hc40) (by omega)⟩) hP hD hS (lv_sub hl [3, 4, 1, 2, 5, 0] rfl)
set_option maxHeartbeats 4000000 in
set_option maxRecDepth 100000 in
theorem k_Ge_best (l : Launch) (X : Cx) (h0 hv hi hM hV hN : Nat) (P nr : Nat) (vl iv : Nat → Nat) (hP6 : P ≤ 6) (g0 hR gc gg gn gt tk : Nat) (gl : Int32) (gs : Nat → Nat) (hgs : ∀ s, gs s < 2 ^ 31) (wV wN : Nat) (fV fN : Nat → Int64) (VS NSs : Nat → Bool) (hfV : RS fV VS) (hfN : RS fN NSs) : CtI l X (TY X) y_Ge_best cw_Ge_best ({ frames := 2, cells := 0, slots := 0, locals := 46 } : Room) [.ref g0] [(g0, .inr (4, [.ref h0, .ref hR, .ref gc, .ref gg, .ref gn, .ref gt, .int (nI tk), .int gl])), (h0, .inr (2, [.ref hv, .ref hi, .ref hM, .ref hV, .ref hN, .int (nI P), .int (nI nr)])), (gg, .inl (X.2 0, 4096, .inl (ia gs))), (hV, .inr (0, [.ref wV])), (wV, .inl (X.2 1, 64, .inr (.inl fV))), (hN, .inr (0, [.ref wN])), (wN, .inl (X.2 1, 64, .inr (.inl fN)))] (S := Option Nat) (fun r b => r = oI b ∧ bst2 VS NSs gs (4 ^ P) b) (fun _ => [(g0, .inr (4, [.ref h0, .ref hR, .ref gc, .ref gg, .ref gn, .ref gt, .int (nI tk), .int gl])), (h0, .inr (2, [.ref hv, .ref hi, .ref hM, .ref hV, .ref hN, .int (nI P), .int (nI nr)])), (gg, .inl (X.2 0, 4096, .inl (ia gs))), (hV, .inr (0, [.ref wV])), (wV, .inl (X.2 1, 64, .inr (.inl fV))), (hN, .inr (0, [.ref wN])), (wN, .inl (X.2 1, 64, .inr (.inl fN)))]) 0 0 := by
  refine metI (by decide) (Nat.le_of_ble_eq_true rfl) ?_
  intro p e s m below meth c A ls hB hl
  obtain ⟨hx, hb, hr, hml, hown, hlk, hin, hg, hA, hD, hP, hE⟩ := hB
  have hS : va_S A s.heap s.heap [] := va_S.rf
  have hl : lv_has ls 2 [(0, .ref g0)] := hl
  have h4P := pw4le hP6
  refine lv_aload_n hx hb d_Ge_best_0 rfl (lv_at hl 0 rfl) ?_
  refine lv_aload_n hx hb d_Ge_best_1 rfl (lv_at hl 0 rfl) ?_
  refine va_get (D := X.1) (ci := 4) (v := .ref h0) (C := R_Ge) (T := F_Ge) (N := 8) hx hb hg in_Ge hown hE.1 hP 0 rfl rfl 0 (by decide) (hg _ m_134) (fun _ h9 => h9) rfl d_Ge_best_2 ?_
  refine va_get (D := X.1) (ci := 2) (v := .ref hV) (C := R_Sp) (T := F_Sp) (N := 7) hx hb hg in_Sp hown hE.1 hP 1 rfl rfl 3 (by decide) (hg _ m_70) (fun _ h9 => h9) rfl d_Ge_best_5 ?_
  refine clVI (n := 1) (As := [.ref hV]) (rest := []) (wc := [(g0, .inr (4, [.ref h0, .ref hR, .ref gc, .ref gg, .ref gn, .ref gt, .int (nI tk), .int gl])), (h0, .inr (2, [.ref hv, .ref hi, .ref hM, .ref hV, .ref hN, .int (nI P), .int (nI nr)])), (gg, .inl (X.2 0, 4096, .inl (ia gs))), (hV, .inr (0, [.ref wV])), (wV, .inl (X.2 1, 64, .inr (.inl fV)))]) (wr := [(hN, .inr (0, [.ref wN])), (wN, .inl (X.2 1, 64, .inr (.inl fN)))]) hx hb hml hown hg hE hA hP hD hS (k_Ge_bestOf l X h0 hv hi hM hV hN P nr vl iv hP6 g0 hR gc gg gn gt tk gl gs hgs hV wV fV VS hfV) (gcons m_407 (gcons m_409 (gcons ms_Ge_bestOf (gcons m_7 (gcons m_410 gG))))) (by decide +kernel) [0, 1, 2, 3, 4] [5, 6] rfl rfl (by decide) (by decide) (by decide) 0 rfl rfl rfl hl.1 (Nat.le_of_ble_eq_true rfl) rfl d_Ge_best_8 ⟨rfl, rfl, Nat.le_of_ble_eq_true rfl, Nat.le_of_ble_eq_true rfl⟩ (⟨Nat.le_of_ble_eq_true rfl, Nat.le_of_ble_eq_true rfl⟩) (fun r8 b1 H locs hq8 hP hD hS => ?_)
  obtain ⟨rfl, hb1⟩ := hq8
  have hP := hP.sub (ws' := [(g0, .inr (4, [.ref h0, .ref hR, .ref gc, .ref gg, .ref gn, .ref gt, .int (nI tk), .int gl])), (h0, .inr (2, [.ref hv, .ref hi, .ref hM, .ref hV, .ref hN, .int (nI P), .int (nI nr)])), (gg, .inl (X.2 0, 4096, .inl (ia gs))), (hV, .inr (0, [.ref wV])), (wV, .inl (X.2 1, 64, .inr (.inl fV))), (hN, .inr (0, [.ref wN])), (wN, .inl (X.2 1, 64, .inr (.inl fN)))]) [2, 3, 4, 5, 6, 0, 1] rfl
  have hD := hD.sub (ws' := [(g0, .inr (4, [.ref h0, .ref hR, .ref gc, .ref gg, .ref gn, .ref gt, .int (nI tk), .int gl])), (h0, .inr (2, [.ref hv, .ref hi, .ref hM, .ref hV, .ref hN, .int (nI P), .int (nI nr)])), (gg, .inl (X.2 0, 4096, .inl (ia gs))), (hV, .inr (0, [.ref wV])), (wV, .inl (X.2 1, 64, .inr (.inl fV))), (hN, .inr (0, [.ref wN])), (wN, .inl (X.2 1, 64, .inr (.inl fN)))]) [2, 3, 4, 5, 6, 0, 1] (by decide) rfl
  refine lv_istore_n hx hb d_Ge_best_11 rfl hl (by decide) rfl (fun ls hl => ?_)
  have hl : lv_has ls 2 [(1, .int (oI b1)), (0, .ref g0)] := hl
  refine lv_iload_n hx hb d_Ge_best_12 rfl (lv_at hl 0 rfl) ?_
  refine lv_iconst (v := (-1)) hx hb d_Ge_best_13 (by decide) ?_
  refine lv_icmp_ne (tgt := 31) hx hb d_Ge_best_14 (by decide) (fun hc14 => ?_) (fun hc14 => ?_)
  · rw [oI_m1 (fun x9 hx9 => by have := bs_lt hb1 x9 hx9; omega)] at hc14
    refine lv_iload_n hx hb d_Ge_best_31 rfl (lv_at hl 0 rfl) ?_
    exact retI (u := b1) hx hb hr hlk hP hD hS (⟨rfl, Or.inl ⟨hb1, hc14⟩⟩) d_Ge_best_32
  · rw [oI_m1 (fun x9 hx9 => by have := bs_lt hb1 x9 hx9; omega)] at hc14
    refine lv_aload_n hx hb d_Ge_best_17 rfl (lv_at hl 1 rfl) ?_
    refine lv_aload_n hx hb d_Ge_best_18 rfl (lv_at hl 1 rfl) ?_
    refine va_get (D := X.1) (ci := 4) (v := .ref h0) (C := R_Ge) (T := F_Ge) (N := 8) hx hb hg in_Ge hown hE.1 hP 0 rfl rfl 0 (by decide) (hg _ m_134) (fun _ h9 => h9) rfl d_Ge_best_19 ?_
    refine va_get (D := X.1) (ci := 2) (v := .ref hN) (C := R_Sp) (T := F_Sp) (N := 7) hx hb hg in_Sp hown hE.1 hP 1 rfl rfl 4 (by decide) (hg _ m_73) (fun _ h9 => h9) rfl d_Ge_best_22 ?_
    refine clVI (n := 1) (As := [.ref hN]) (rest := []) (wc := [(g0, .inr (4, [.ref h0, .ref hR, .ref gc, .ref gg, .ref gn, .ref gt, .int (nI tk), .int gl])), (h0, .inr (2, [.ref hv, .ref hi, .ref hM, .ref hV, .ref hN, .int (nI P), .int (nI nr)])), (gg, .inl (X.2 0, 4096, .inl (ia gs))), (hN, .inr (0, [.ref wN])), (wN, .inl (X.2 1, 64, .inr (.inl fN)))]) (wr := [(hV, .inr (0, [.ref wV])), (wV, .inl (X.2 1, 64, .inr (.inl fV)))]) hx hb hml hown hg hE hA hP hD hS (k_Ge_bestOf l X h0 hv hi hM hV hN P nr vl iv hP6 g0 hR gc gg gn gt tk gl gs hgs hN wN fN NSs hfN) (gcons m_407 (gcons m_409 (gcons ms_Ge_bestOf (gcons m_7 (gcons m_410 gG))))) (by decide +kernel) [0, 1, 2, 5, 6] [3, 4] rfl rfl (by decide) (by decide) (by decide) 0 rfl rfl rfl hl.1 (Nat.le_of_ble_eq_true rfl) rfl d_Ge_best_25 ⟨rfl, rfl, Nat.le_of_ble_eq_true rfl, Nat.le_of_ble_eq_true rfl⟩ (⟨Nat.le_of_ble_eq_true rfl, Nat.le_of_ble_eq_true rfl⟩) (fun r25 b2 H locs hq25 hP hD hS => ?_)
    obtain ⟨rfl, hb2⟩ := hq25
    have hP := hP.sub (ws' := [(g0, .inr (4, [.ref h0, .ref hR, .ref gc, .ref gg, .ref gn, .ref gt, .int (nI tk), .int gl])), (h0, .inr (2, [.ref hv, .ref hi, .ref hM, .ref hV, .ref hN, .int (nI P), .int (nI nr)])), (gg, .inl (X.2 0, 4096, .inl (ia gs))), (hV, .inr (0, [.ref wV])), (wV, .inl (X.2 1, 64, .inr (.inl fV))), (hN, .inr (0, [.ref wN])), (wN, .inl (X.2 1, 64, .inr (.inl fN)))]) [2, 3, 4, 0, 1, 5, 6] rfl
    have hD := hD.sub (ws' := [(g0, .inr (4, [.ref h0, .ref hR, .ref gc, .ref gg, .ref gn, .ref gt, .int (nI tk), .int gl])), (h0, .inr (2, [.ref hv, .ref hi, .ref hM, .ref hV, .ref hN, .int (nI P), .int (nI nr)])), (gg, .inl (X.2 0, 4096, .inl (ia gs))), (hV, .inr (0, [.ref wV])), (wV, .inl (X.2 1, 64, .inr (.inl fV))), (hN, .inr (0, [.ref wN])), (wN, .inl (X.2 1, 64, .inr (.inl fN)))]) [2, 3, 4, 0, 1, 5, 6] (by decide) rfl
    refine lv_goto (tgt := 32) hx hb d_Ge_best_28 (by decide) ?_
    exact retI (u := b2) hx hb hr hlk hP hD hS (⟨rfl, Or.inr ⟨hc14 ▸ hb1, hb2⟩⟩) d_Ge_best_32
set_option maxHeartbeats 4000000 in
set_option maxRecDepth 100000 in
theorem k_Ge_setsCoveredBy (l : Launch) (X : Cx) (h0 hv hi hM hV hN : Nat) (P nr : Nat) (vl iv : Nat → Nat) (hP6 : P ≤ 6) (hiv : ∀ p, p < 6 → iv p < 16) (g0 hR gc gg gn gt tk : Nat) (gl : Int32) (wV wN : Nat) (fV fN : Nat → Int64) (VS NSs : Nat → Bool) (hfV : RS fV VS) (hfN : RS fN NSs) (hi0 : ∀ p, P ≤ p → p < 6 → iv p = 0) (hVN : VN iv VS NSs) (ak : Int64) (nk rr : Nat) (hr4 : rr < 4096) : CtL l X (TY X) y_Ge_setsCoveredBy cw_Ge_setsCoveredBy ({ frames := 2, cells := 0, slots := 0, locals := 46 } : Room) [.ref g0, .int (nI rr)] [(g0, .inr (4, [.ref h0, .ref hR, .ref gc, .ref gg, .ref gn, .ref gt, .int (nI tk), .int gl])), (h0, .inr (2, [.ref hv, .ref hi, .ref hM, .ref hV, .ref hN, .int (nI P), .int (nI nr)])), (hi, .inl (X.2 0, 6, .inl (ia iv))), (hV, .inr (0, [.ref wV])), (wV, .inl (X.2 1, 64, .inr (.inl fV))), (hN, .inr (0, [.ref wN])), (wN, .inl (X.2 1, 64, .inr (.inl fN))), (hR, .inr (1, [.long ak, .int (nI nk)]))] (S := Unit) (fun r _ => ∀ s, s < 64 → bL r s = csB iv VS NSs (bL ak) rr s) (fun _ => [(g0, .inr (4, [.ref h0, .ref hR, .ref gc, .ref gg, .ref gn, .ref gt, .int (nI tk), .int gl])), (h0, .inr (2, [.ref hv, .ref hi, .ref hM, .ref hV, .ref hN, .int (nI P), .int (nI nr)])), (hi, .inl (X.2 0, 6, .inl (ia iv))), (hV, .inr (0, [.ref wV])), (wV, .inl (X.2 1, 64, .inr (.inl fV))), (hN, .inr (0, [.ref wN])), (wN, .inl (X.2 1, 64, .inr (.inl fN))), (hR, .inr (1, [.long ak, .int (nI nk)]))]) 0 0 := by
  refine metL (by decide) (Nat.le_of_ble_eq_true rfl) ?_
  intro p e s m below meth c A ls hB hl
  obtain ⟨hx, hb, hr, hml, hown, hlk, hin, hg, hA, hD, hP, hE⟩ := hB
  have hS : va_S A s.heap s.heap [] := va_S.rf
  have hl : lv_has ls 2 [(0, .ref g0), (1, .int (nI rr))] := hl
  have h64 := pw2le hP6
  refine lv_aload_n hx hb d_Ge_setsCoveredBy_0 rfl (lv_at hl 0 rfl) ?_
  refine va_get (D := X.1) (ci := 4) (v := .ref h0) (C := R_Ge) (T := F_Ge) (N := 8) hx hb hg in_Ge hown hE.1 hP 0 rfl rfl 0 (by decide) (hg _ m_134) (fun _ h9 => h9) rfl d_Ge_setsCoveredBy_1 ?_
  refine va_get (D := X.1) (ci := 2) (v := .ref hV) (C := R_Sp) (T := F_Sp) (N := 7) hx hb hg in_Sp hown hE.1 hP 1 rfl rfl 3 (by decide) (hg _ m_70) (fun _ h9 => h9) rfl d_Ge_setsCoveredBy_4 ?_
  refine lv_iload_n hx hb d_Ge_setsCoveredBy_7 rfl (lv_at hl 1 rfl) ?_
  refine clVI (n := 1) (As := [.int (nI rr)]) (rest := []) (wc := [(hV, .inr (0, [.ref wV])), (wV, .inl (X.2 1, 64, .inr (.inl fV)))]) (wr := [(g0, .inr (4, [.ref h0, .ref hR, .ref gc, .ref gg, .ref gn, .ref gt, .int (nI tk), .int gl])), (h0, .inr (2, [.ref hv, .ref hi, .ref hM, .ref hV, .ref hN, .int (nI P), .int (nI nr)])), (hi, .inl (X.2 0, 6, .inl (ia iv))), (hN, .inr (0, [.ref wN])), (wN, .inl (X.2 1, 64, .inr (.inl fN))), (hR, .inr (1, [.long ak, .int (nI nk)]))]) hx hb hml hown hg hE hA hP hD hS (k_NS_has l X hV wV fV VS hfV rr hr4) (gcons m_355 (gcons m_356 (gcons m_357 (gcons m_3 (gcons m_358 gG))))) (by decide +kernel) [3, 4] [0, 1, 2, 5, 6, 7] rfl rfl (by decide) (by decide) (by decide) 0 rfl rfl rfl hl.1 (Nat.le_of_ble_eq_true rfl) rfl d_Ge_setsCoveredBy_8 ⟨rfl, rfl, Nat.le_of_ble_eq_true rfl, Nat.le_of_ble_eq_true rfl⟩ (⟨Nat.le_of_ble_eq_true rfl, Nat.le_of_ble_eq_true rfl⟩) (fun r8 u8 H locs hq8 hP hD hS => ?_)
  have hq8 : r8 = bI (VS rr) := hq8
  subst hq8
  have hP := hP.sub (ws' := [(g0, .inr (4, [.ref h0, .ref hR, .ref gc, .ref gg, .ref gn, .ref gt, .int (nI tk), .int gl])), (h0, .inr (2, [.ref hv, .ref hi, .ref hM, .ref hV, .ref hN, .int (nI P), .int (nI nr)])), (hi, .inl (X.2 0, 6, .inl (ia iv))), (hV, .inr (0, [.ref wV])), (wV, .inl (X.2 1, 64, .inr (.inl fV))), (hN, .inr (0, [.ref wN])), (wN, .inl (X.2 1, 64, .inr (.inl fN))), (hR, .inr (1, [.long ak, .int (nI nk)]))]) [0, 1, 2, 6, 7, 3, 4, 5] rfl
  have hD := hD.sub (ws' := [(g0, .inr (4, [.ref h0, .ref hR, .ref gc, .ref gg, .ref gn, .ref gt, .int (nI tk), .int gl])), (h0, .inr (2, [.ref hv, .ref hi, .ref hM, .ref hV, .ref hN, .int (nI P), .int (nI nr)])), (hi, .inl (X.2 0, 6, .inl (ia iv))), (hV, .inr (0, [.ref wV])), (wV, .inl (X.2 1, 64, .inr (.inl fV))), (hN, .inr (0, [.ref wN])), (wN, .inl (X.2 1, 64, .inr (.inl fN))), (hR, .inr (1, [.long ak, .int (nI nk)]))]) [0, 1, 2, 6, 7, 3, 4, 5] (by decide) rfl
  refine lv_if_eq (tgt := 23) hx hb d_Ge_setsCoveredBy_11 (by decide) (fun hc11 => ?_) (fun hc11 => ?_)
  · rw [bI_z] at hc11
    refine lv_aload_n hx hb d_Ge_setsCoveredBy_23 rfl (lv_at hl 0 rfl) ?_
    refine va_get (D := X.1) (ci := 4) (v := .ref h0) (C := R_Ge) (T := F_Ge) (N := 8) hx hb hg in_Ge hown hE.1 hP 0 rfl rfl 0 (by decide) (hg _ m_134) (fun _ h9 => h9) rfl d_Ge_setsCoveredBy_24 ?_
    refine va_get (D := X.1) (ci := 2) (v := .ref hN) (C := R_Sp) (T := F_Sp) (N := 7) hx hb hg in_Sp hown hE.1 hP 1 rfl rfl 4 (by decide) (hg _ m_73) (fun _ h9 => h9) rfl d_Ge_setsCoveredBy_27 ?_
    refine lv_iload_n hx hb d_Ge_setsCoveredBy_30 rfl (lv_at hl 1 rfl) ?_
    refine clVI (n := 1) (As := [.int (nI rr)]) (rest := []) (wc := [(hN, .inr (0, [.ref wN])), (wN, .inl (X.2 1, 64, .inr (.inl fN)))]) (wr := [(g0, .inr (4, [.ref h0, .ref hR, .ref gc, .ref gg, .ref gn, .ref gt, .int (nI tk), .int gl])), (h0, .inr (2, [.ref hv, .ref hi, .ref hM, .ref hV, .ref hN, .int (nI P), .int (nI nr)])), (hi, .inl (X.2 0, 6, .inl (ia iv))), (hV, .inr (0, [.ref wV])), (wV, .inl (X.2 1, 64, .inr (.inl fV))), (hR, .inr (1, [.long ak, .int (nI nk)]))]) hx hb hml hown hg hE hA hP hD hS (k_NS_has l X hN wN fN NSs hfN rr hr4) (gcons m_355 (gcons m_356 (gcons m_357 (gcons m_3 (gcons m_358 gG))))) (by decide +kernel) [5, 6] [0, 1, 2, 3, 4, 7] rfl rfl (by decide) (by decide) (by decide) 0 rfl rfl rfl hl.1 (Nat.le_of_ble_eq_true rfl) rfl d_Ge_setsCoveredBy_31 ⟨rfl, rfl, Nat.le_of_ble_eq_true rfl, Nat.le_of_ble_eq_true rfl⟩ (⟨Nat.le_of_ble_eq_true rfl, Nat.le_of_ble_eq_true rfl⟩) (fun r31 u31 H locs hq31 hP hD hS => ?_)
    have hq31 : r31 = bI (NSs rr) := hq31
    subst hq31
    have hP := hP.sub (ws' := [(g0, .inr (4, [.ref h0, .ref hR, .ref gc, .ref gg, .ref gn, .ref gt, .int (nI tk), .int gl])), (h0, .inr (2, [.ref hv, .ref hi, .ref hM, .ref hV, .ref hN, .int (nI P), .int (nI nr)])), (hi, .inl (X.2 0, 6, .inl (ia iv))), (hV, .inr (0, [.ref wV])), (wV, .inl (X.2 1, 64, .inr (.inl fV))), (hN, .inr (0, [.ref wN])), (wN, .inl (X.2 1, 64, .inr (.inl fN))), (hR, .inr (1, [.long ak, .int (nI nk)]))]) [0, 1, 2, 3, 4, 6, 7, 5] rfl
    have hD := hD.sub (ws' := [(g0, .inr (4, [.ref h0, .ref hR, .ref gc, .ref gg, .ref gn, .ref gt, .int (nI tk), .int gl])), (h0, .inr (2, [.ref hv, .ref hi, .ref hM, .ref hV, .ref hN, .int (nI P), .int (nI nr)])), (hi, .inl (X.2 0, 6, .inl (ia iv))), (hV, .inr (0, [.ref wV])), (wV, .inl (X.2 1, 64, .inr (.inl fV))), (hN, .inr (0, [.ref wN])), (wN, .inl (X.2 1, 64, .inr (.inl fN))), (hR, .inr (1, [.long ak, .int (nI nk)]))]) [0, 1, 2, 3, 4, 6, 7, 5] (by decide) rfl
    refine lv_if_eq (tgt := 60) hx hb d_Ge_setsCoveredBy_34 (by decide) (fun hc34 => ?_) (fun hc34 => ?_)
    · rw [bI_z] at hc34
      refine lv_lconst (v := 0) hx hb d_Ge_setsCoveredBy_60 (by decide) ?_
      exact retL (u := ()) hx hb hr hlk hP hD hS (fun s9 h9 => (bL_0 s9).trans (sc_0 hc11 hc34 s9)) d_Ge_setsCoveredBy_61
    · rw [bI_z] at hc34
      refine lv_aload_n hx hb d_Ge_setsCoveredBy_37 rfl (lv_at hl 0 rfl) ?_
      refine va_get (D := X.1) (ci := 4) (v := .ref hR) (C := R_Ge) (T := F_Ge) (N := 8) hx hb hg in_Ge hown hE.1 hP 0 rfl rfl 1 (by decide) (hg _ m_135) (fun _ h9 => h9) rfl d_Ge_setsCoveredBy_38 ?_
      refine lv_aload_n hx hb d_Ge_setsCoveredBy_41 rfl (lv_at hl 0 rfl) ?_
      refine va_get (D := X.1) (ci := 4) (v := .ref h0) (C := R_Ge) (T := F_Ge) (N := 8) hx hb hg in_Ge hown hE.1 hP 0 rfl rfl 0 (by decide) (hg _ m_134) (fun _ h9 => h9) rfl d_Ge_setsCoveredBy_42 ?_
      refine lv_aload_n hx hb d_Ge_setsCoveredBy_45 rfl (lv_at hl 0 rfl) ?_
      refine va_get (D := X.1) (ci := 4) (v := .ref h0) (C := R_Ge) (T := F_Ge) (N := 8) hx hb hg in_Ge hown hE.1 hP 0 rfl rfl 0 (by decide) (hg _ m_134) (fun _ h9 => h9) rfl d_Ge_setsCoveredBy_46 ?_
      refine clVI (n := 0) (As := []) (rest := [.ref h0, .ref hR]) (wc := [(h0, .inr (2, [.ref hv, .ref hi, .ref hM, .ref hV, .ref hN, .int (nI P), .int (nI nr)]))]) (wr := [(g0, .inr (4, [.ref h0, .ref hR, .ref gc, .ref gg, .ref gn, .ref gt, .int (nI tk), .int gl])), (hi, .inl (X.2 0, 6, .inl (ia iv))), (hV, .inr (0, [.ref wV])), (wV, .inl (X.2 1, 64, .inr (.inl fV))), (hN, .inr (0, [.ref wN])), (wN, .inl (X.2 1, 64, .inr (.inl fN))), (hR, .inr (1, [.long ak, .int (nI nk)]))]) hx hb hml hown hg hE hA hP hD hS (k_Sp_allFields l X h0 hv hi hM hV hN P nr vl iv hP6) (gcons m_359 (gcons m_360 (gcons m_361 (gcons m_2 (gcons m_362 gG))))) (by decide +kernel) [1] [0, 2, 3, 4, 5, 6, 7] rfl rfl (by decide) (by decide) (by decide) 0 rfl rfl rfl hl.1 (Nat.le_of_ble_eq_true rfl) rfl d_Ge_setsCoveredBy_49 ⟨rfl, rfl, Nat.le_of_ble_eq_true rfl, Nat.le_of_ble_eq_true rfl⟩ (⟨Nat.le_of_ble_eq_true rfl, Nat.le_of_ble_eq_true rfl⟩) (fun r49 u49 H locs hq49 hP hD hS => ?_)
      have hq49 : r49 = nI (4 ^ P - 1) := hq49
      subst hq49
      have hP := hP.sub (ws' := [(g0, .inr (4, [.ref h0, .ref hR, .ref gc, .ref gg, .ref gn, .ref gt, .int (nI tk), .int gl])), (h0, .inr (2, [.ref hv, .ref hi, .ref hM, .ref hV, .ref hN, .int (nI P), .int (nI nr)])), (hi, .inl (X.2 0, 6, .inl (ia iv))), (hV, .inr (0, [.ref wV])), (wV, .inl (X.2 1, 64, .inr (.inl fV))), (hN, .inr (0, [.ref wN])), (wN, .inl (X.2 1, 64, .inr (.inl fN))), (hR, .inr (1, [.long ak, .int (nI nk)]))]) [0, 7, 1, 2, 3, 4, 5, 6] rfl
      have hD := hD.sub (ws' := [(g0, .inr (4, [.ref h0, .ref hR, .ref gc, .ref gg, .ref gn, .ref gt, .int (nI tk), .int gl])), (h0, .inr (2, [.ref hv, .ref hi, .ref hM, .ref hV, .ref hN, .int (nI P), .int (nI nr)])), (hi, .inl (X.2 0, 6, .inl (ia iv))), (hV, .inr (0, [.ref wV])), (wV, .inl (X.2 1, 64, .inr (.inl fV))), (hN, .inr (0, [.ref wN])), (wN, .inl (X.2 1, 64, .inr (.inl fN))), (hR, .inr (1, [.long ak, .int (nI nk)]))]) [0, 7, 1, 2, 3, 4, 5, 6] (by decide) rfl
      refine topI (y := nI (fo (2 ^ P - 1) 6)) (by rw [al_fo P (by omega)]) ?_
      refine lv_iload_n hx hb d_Ge_setsCoveredBy_52 rfl (lv_at hl 1 rfl) ?_
      refine clVI (n := 2) (As := [.int (nI (fo (2 ^ P - 1) 6)), .int (nI rr)]) (rest := [.ref hR]) (wc := [(h0, .inr (2, [.ref hv, .ref hi, .ref hM, .ref hV, .ref hN, .int (nI P), .int (nI nr)])), (hi, .inl (X.2 0, 6, .inl (ia iv)))]) (wr := [(g0, .inr (4, [.ref h0, .ref hR, .ref gc, .ref gg, .ref gn, .ref gt, .int (nI tk), .int gl])), (hV, .inr (0, [.ref wV])), (wV, .inl (X.2 1, 64, .inr (.inl fV))), (hN, .inr (0, [.ref wN])), (wN, .inl (X.2 1, 64, .inr (.inl fN))), (hR, .inr (1, [.long ak, .int (nI nk)]))]) hx hb hml hown hg hE hA hP hD hS (k_Sp_invalidIn l X h0 hv hi hM hV hN P nr vl iv hiv (2 ^ P - 1) rr (by omega) hr4) (gcons m_334 (gcons m_335 (gcons m_336 (gcons m_2 (gcons m_337 gG))))) (by decide +kernel) [1, 2] [0, 3, 4, 5, 6, 7] rfl rfl (by decide) (by decide) (by decide) 0 rfl rfl rfl hl.1 (Nat.le_of_ble_eq_true rfl) rfl d_Ge_setsCoveredBy_53 ⟨rfl, rfl, Nat.le_of_ble_eq_true rfl, Nat.le_of_ble_eq_true rfl⟩ (⟨Nat.le_of_ble_eq_true rfl, Nat.le_of_ble_eq_true rfl⟩) (fun r53 u53 H locs hq53 hP hD hS => ?_)
      have hq53 : r53 = nI (ivs iv (2 ^ P - 1) rr 6) := hq53
      subst hq53
      have hP := hP.sub (ws' := [(g0, .inr (4, [.ref h0, .ref hR, .ref gc, .ref gg, .ref gn, .ref gt, .int (nI tk), .int gl])), (h0, .inr (2, [.ref hv, .ref hi, .ref hM, .ref hV, .ref hN, .int (nI P), .int (nI nr)])), (hi, .inl (X.2 0, 6, .inl (ia iv))), (hV, .inr (0, [.ref wV])), (wV, .inl (X.2 1, 64, .inr (.inl fV))), (hN, .inr (0, [.ref wN])), (wN, .inl (X.2 1, 64, .inr (.inl fN))), (hR, .inr (1, [.long ak, .int (nI nk)]))]) [0, 6, 7, 1, 2, 3, 4, 5] rfl
      have hD := hD.sub (ws' := [(g0, .inr (4, [.ref h0, .ref hR, .ref gc, .ref gg, .ref gn, .ref gt, .int (nI tk), .int gl])), (h0, .inr (2, [.ref hv, .ref hi, .ref hM, .ref hV, .ref hN, .int (nI P), .int (nI nr)])), (hi, .inl (X.2 0, 6, .inl (ia iv))), (hV, .inr (0, [.ref wV])), (wV, .inl (X.2 1, 64, .inr (.inl fV))), (hN, .inr (0, [.ref wN])), (wN, .inl (X.2 1, 64, .inr (.inl fN))), (hR, .inr (1, [.long ak, .int (nI nk)]))]) [0, 6, 7, 1, 2, 3, 4, 5] (by decide) rfl
      refine clVL (n := 1) (As := [.int (nI (ivs iv (2 ^ P - 1) rr 6))]) (rest := []) (wc := [(hR, .inr (1, [.long ak, .int (nI nk)]))]) (wr := [(g0, .inr (4, [.ref h0, .ref hR, .ref gc, .ref gg, .ref gn, .ref gt, .int (nI tk), .int gl])), (h0, .inr (2, [.ref hv, .ref hi, .ref hM, .ref hV, .ref hN, .int (nI P), .int (nI nr)])), (hi, .inl (X.2 0, 6, .inl (ia iv))), (hV, .inr (0, [.ref wV])), (wV, .inl (X.2 1, 64, .inr (.inl fV))), (hN, .inr (0, [.ref wN])), (wN, .inl (X.2 1, 64, .inr (.inl fN)))]) hx hb hml hown hg hE hA hP hD hS (k_Re_askedWith l X hR ak nk (ivs iv (2 ^ P - 1) rr 6) (ivs_64 iv _ _ 6 (by decide))) (gcons m_316 (gcons m_317 (gcons m_318 (gcons m_5 (gcons m_319 gG))))) (by decide +kernel) [7] [0, 1, 2, 3, 4, 5, 6] rfl rfl (by decide) (by decide) (by decide) 0 rfl rfl rfl hl.1 (Nat.le_of_ble_eq_true rfl) rfl d_Ge_setsCoveredBy_56 ⟨rfl, rfl, Nat.le_of_ble_eq_true rfl, Nat.le_of_ble_eq_true rfl⟩ (⟨Nat.le_of_ble_eq_true rfl, Nat.le_of_ble_eq_true rfl⟩) (fun r56 u56 H locs hq56 hP hD hS => ?_)
      have hP : va_P X.1 classes [(g0, .inr (4, [.ref h0, .ref hR, .ref gc, .ref gg, .ref gn, .ref gt, .int (nI tk), .int gl])), (h0, .inr (2, [.ref hv, .ref hi, .ref hM, .ref hV, .ref hN, .int (nI P), .int (nI nr)])), (hi, .inl (X.2 0, 6, .inl (ia iv))), (hV, .inr (0, [.ref wV])), (wV, .inl (X.2 1, 64, .inr (.inl fV))), (hN, .inr (0, [.ref wN])), (wN, .inl (X.2 1, 64, .inr (.inl fN))), (hR, .inr (1, [.long ak, .int (nI nk)]))] H := hP
      have hD : va_D A [(g0, .inr (4, [.ref h0, .ref hR, .ref gc, .ref gg, .ref gn, .ref gt, .int (nI tk), .int gl])), (h0, .inr (2, [.ref hv, .ref hi, .ref hM, .ref hV, .ref hN, .int (nI P), .int (nI nr)])), (hi, .inl (X.2 0, 6, .inl (ia iv))), (hV, .inr (0, [.ref wV])), (wV, .inl (X.2 1, 64, .inr (.inl fV))), (hN, .inr (0, [.ref wN])), (wN, .inl (X.2 1, 64, .inr (.inl fN))), (hR, .inr (1, [.long ak, .int (nI nk)]))] := hD
      exact retL (u := ()) hx hb hr hlk hP hD hS (fun s9 h9 => (hq56 s9 h9).trans (sc_N hi0 hc34 s9)) d_Ge_setsCoveredBy_59
  · rw [bI_z] at hc11
    refine lv_aload_n hx hb d_Ge_setsCoveredBy_14 rfl (lv_at hl 0 rfl) ?_
    refine va_get (D := X.1) (ci := 4) (v := .ref hR) (C := R_Ge) (T := F_Ge) (N := 8) hx hb hg in_Ge hown hE.1 hP 0 rfl rfl 1 (by decide) (hg _ m_135) (fun _ h9 => h9) rfl d_Ge_setsCoveredBy_15 ?_
    refine lv_iconst (v := nI 0) hx hb d_Ge_setsCoveredBy_18 (by decide) ?_
    refine clVL (n := 1) (As := [.int (nI 0)]) (rest := []) (wc := [(hR, .inr (1, [.long ak, .int (nI nk)]))]) (wr := [(g0, .inr (4, [.ref h0, .ref hR, .ref gc, .ref gg, .ref gn, .ref gt, .int (nI tk), .int gl])), (h0, .inr (2, [.ref hv, .ref hi, .ref hM, .ref hV, .ref hN, .int (nI P), .int (nI nr)])), (hi, .inl (X.2 0, 6, .inl (ia iv))), (hV, .inr (0, [.ref wV])), (wV, .inl (X.2 1, 64, .inr (.inl fV))), (hN, .inr (0, [.ref wN])), (wN, .inl (X.2 1, 64, .inr (.inl fN)))]) hx hb hml hown hg hE hA hP hD hS (k_Re_askedWith l X hR ak nk 0 (by decide)) (gcons m_316 (gcons m_317 (gcons m_318 (gcons m_5 (gcons m_319 gG))))) (by decide +kernel) [7] [0, 1, 2, 3, 4, 5, 6] rfl rfl (by decide) (by decide) (by decide) 0 rfl rfl rfl hl.1 (Nat.le_of_ble_eq_true rfl) rfl d_Ge_setsCoveredBy_19 ⟨rfl, rfl, Nat.le_of_ble_eq_true rfl, Nat.le_of_ble_eq_true rfl⟩ (⟨Nat.le_of_ble_eq_true rfl, Nat.le_of_ble_eq_true rfl⟩) (fun r19 u19 H locs hq19 hP hD hS => ?_)
    have hP : va_P X.1 classes [(g0, .inr (4, [.ref h0, .ref hR, .ref gc, .ref gg, .ref gn, .ref gt, .int (nI tk), .int gl])), (h0, .inr (2, [.ref hv, .ref hi, .ref hM, .ref hV, .ref hN, .int (nI P), .int (nI nr)])), (hi, .inl (X.2 0, 6, .inl (ia iv))), (hV, .inr (0, [.ref wV])), (wV, .inl (X.2 1, 64, .inr (.inl fV))), (hN, .inr (0, [.ref wN])), (wN, .inl (X.2 1, 64, .inr (.inl fN))), (hR, .inr (1, [.long ak, .int (nI nk)]))] H := hP
    have hD : va_D A [(g0, .inr (4, [.ref h0, .ref hR, .ref gc, .ref gg, .ref gn, .ref gt, .int (nI tk), .int gl])), (h0, .inr (2, [.ref hv, .ref hi, .ref hM, .ref hV, .ref hN, .int (nI P), .int (nI nr)])), (hi, .inl (X.2 0, 6, .inl (ia iv))), (hV, .inr (0, [.ref wV])), (wV, .inl (X.2 1, 64, .inr (.inl fV))), (hN, .inr (0, [.ref wN])), (wN, .inl (X.2 1, 64, .inr (.inl fN))), (hR, .inr (1, [.long ak, .int (nI nk)]))] := hD
    exact retL (u := ()) hx hb hr hlk hP hD hS (fun s9 h9 => (hq19 s9 h9).trans (sc_V hVN hc11 s9)) d_Ge_setsCoveredBy_22
set_option maxHeartbeats 4000000 in
set_option maxRecDepth 100000 in
theorem k_Ge_start (l : Launch) (X : Cx) (h0 hv hi hM hV hN : Nat) (P nr : Nat) (vl iv : Nat → Nat) (hP6 : P ≤ 6) (hiv : ∀ p, p < 6 → iv p < 16) (g0 hR gc gg gn gt tk : Nat) (gl : Int32) (wV wN : Nat) (fV fN : Nat → Int64) (VS NSs : Nat → Bool) (hfV : RS fV VS) (hfN : RS fN NSs) (hi0 : ∀ p, P ≤ p → p < 6 → iv p = 0) (hVN : VN iv VS NSs) (ak : Int64) (nk : Nat) (cv : Nat → Int64) (gs : Nat → Nat) (hgs : ∀ s, gs s < 2 ^ 31) (go : Int32) : CtV l X (TY X) y_Ge_start cw_Ge_start ({ frames := 3, cells := 0, slots := 0, locals := 67 } : Room) [.ref g0, .int go] [(g0, .inr (4, [.ref h0, .ref hR, .ref gc, .ref gg, .ref gn, .ref gt, .int (nI tk), .int gl])), (h0, .inr (2, [.ref hv, .ref hi, .ref hM, .ref hV, .ref hN, .int (nI P), .int (nI nr)])), (hi, .inl (X.2 0, 6, .inl (ia iv))), (hV, .inr (0, [.ref wV])), (wV, .inl (X.2 1, 64, .inr (.inl fV))), (hN, .inr (0, [.ref wN])), (wN, .inl (X.2 1, 64, .inr (.inl fN))), (hR, .inr (1, [.long ak, .int (nI nk)])), (gc, .inl (X.2 1, 64, .inr (.inl cv))), (gg, .inl (X.2 0, 4096, .inl (ia gs)))] (S := (Nat → Int64) × (Nat → Nat)) (fun d => (∀ j, j < 64 → d.1 j = 0) ∧ (∀ s, s < 4 ^ P → d.2 s = cB (csB iv VS NSs (bL ak) s) 64) ∧ ∀ s, d.2 s < 2 ^ 31) (fun d => [(g0, .inr (4, [.ref h0, .ref hR, .ref gc, .ref gg, .ref gn, .ref gt, .int (nI 0), .int go])), (h0, .inr (2, [.ref hv, .ref hi, .ref hM, .ref hV, .ref hN, .int (nI P), .int (nI nr)])), (hi, .inl (X.2 0, 6, .inl (ia iv))), (hV, .inr (0, [.ref wV])), (wV, .inl (X.2 1, 64, .inr (.inl fV))), (hN, .inr (0, [.ref wN])), (wN, .inl (X.2 1, 64, .inr (.inl fN))), (hR, .inr (1, [.long ak, .int (nI nk)])), (gc, .inl (X.2 1, 64, .inr (.inl d.1))), (gg, .inl (X.2 0, 4096, .inl (ia d.2)))]) 0 0 := by
  refine metV (by decide) (Nat.le_of_ble_eq_true rfl) ?_
  intro p e s m below meth c A ls hB hl
  obtain ⟨hx, hb, hr, hml, hown, hlk, hin, hg, hA, hD, hP, hE⟩ := hB
  have hS : va_S A s.heap s.heap [] := va_S.rf
  have hl : lv_has ls 4 [(0, .ref g0), (1, .int go)] := hl
  have h4P := pw4le hP6
  refine lv_aload_n hx hb d_Ge_start_0 rfl (lv_at hl 0 rfl) ?_
  refine va_get (D := X.1) (ci := 4) (v := .ref gc) (C := R_Ge) (T := F_Ge) (N := 8) hx hb hg in_Ge hown hE.1 hP 0 rfl rfl 2 (by decide) (hg _ m_136) (fun _ h9 => h9) rfl d_Ge_start_1 ?_
  refine lv_lconst (v := 0) hx hb d_Ge_start_4 (by decide) ?_
  refine clSV (n := 2) (As := [.ref gc, .long 0]) (rest := []) (wc := [(gc, .inl (X.2 1, 64, .inr (.inl cv)))]) (wr := [(g0, .inr (4, [.ref h0, .ref hR, .ref gc, .ref gg, .ref gn, .ref gt, .int (nI tk), .int gl])), (h0, .inr (2, [.ref hv, .ref hi, .ref hM, .ref hV, .ref hN, .int (nI P), .int (nI nr)])), (hi, .inl (X.2 0, 6, .inl (ia iv))), (hV, .inr (0, [.ref wV])), (wV, .inl (X.2 1, 64, .inr (.inl fV))), (hN, .inr (0, [.ref wN])), (wN, .inl (X.2 1, 64, .inr (.inl fN))), (hR, .inr (1, [.long ak, .int (nI nk)])), (gg, .inl (X.2 0, 4096, .inl (ia gs)))]) hx hb hml hown hg hE hA hP hD hS (k_JA_fillL l X gc 64 (by decide) cv 0) (gcons m_346 (gcons m_48 (gcons m_4 (gcons m_49 gG)))) (by decide +kernel) [8] [0, 1, 2, 3, 4, 5, 6, 7, 9] rfl rfl (by decide) (by decide) (by decide) rfl hl.1 (Nat.le_of_ble_eq_true rfl) rfl d_Ge_start_5 ⟨rfl, rfl, Nat.le_of_ble_eq_true rfl, Nat.le_of_ble_eq_true rfl⟩ (⟨Nat.le_of_ble_eq_true rfl, Nat.le_of_ble_eq_true rfl⟩) (fun c1 H locs hc1 hP hD hS => ?_)
  have hP := hP.sub (ws' := [(g0, .inr (4, [.ref h0, .ref hR, .ref gc, .ref gg, .ref gn, .ref gt, .int (nI tk), .int gl])), (h0, .inr (2, [.ref hv, .ref hi, .ref hM, .ref hV, .ref hN, .int (nI P), .int (nI nr)])), (hi, .inl (X.2 0, 6, .inl (ia iv))), (hV, .inr (0, [.ref wV])), (wV, .inl (X.2 1, 64, .inr (.inl fV))), (hN, .inr (0, [.ref wN])), (wN, .inl (X.2 1, 64, .inr (.inl fN))), (hR, .inr (1, [.long ak, .int (nI nk)])), (gc, .inl (X.2 1, 64, .inr (.inl c1))), (gg, .inl (X.2 0, 4096, .inl (ia gs)))]) [0, 1, 2, 3, 4, 5, 6, 7, 9, 8] rfl
  have hD := hD.sub (ws' := [(g0, .inr (4, [.ref h0, .ref hR, .ref gc, .ref gg, .ref gn, .ref gt, .int (nI tk), .int gl])), (h0, .inr (2, [.ref hv, .ref hi, .ref hM, .ref hV, .ref hN, .int (nI P), .int (nI nr)])), (hi, .inl (X.2 0, 6, .inl (ia iv))), (hV, .inr (0, [.ref wV])), (wV, .inl (X.2 1, 64, .inr (.inl fV))), (hN, .inr (0, [.ref wN])), (wN, .inl (X.2 1, 64, .inr (.inl fN))), (hR, .inr (1, [.long ak, .int (nI nk)])), (gc, .inl (X.2 1, 64, .inr (.inl c1))), (gg, .inl (X.2 0, 4096, .inl (ia gs)))]) [0, 1, 2, 3, 4, 5, 6, 7, 9, 8] (by decide) rfl
  refine lv_aload_n hx hb d_Ge_start_8 rfl (lv_at hl 0 rfl) ?_
  refine lv_iconst (v := nI 0) hx hb d_Ge_start_9 (by decide) ?_
  refine va_put (D := X.1) (ci := 4) (v := .int (nI 0)) (ty := .int) (C := R_Ge) (T := F_Ge) (N := 8) hx hb hg in_Ge t_Ge t_Ge_ok n_Ge hown hE.1 hP hD hS 0 rfl rfl 6 (by decide) (hg _ m_143) (fun _ h9 => h9) rfl (by decide +kernel) rfl rfl (Nat.le_of_ble_eq_true rfl) d_Ge_start_10 (fun H locs hP hD hS => ?_)
  have hP : va_P X.1 classes [(g0, .inr (4, [.ref h0, .ref hR, .ref gc, .ref gg, .ref gn, .ref gt, .int (nI 0), .int gl])), (h0, .inr (2, [.ref hv, .ref hi, .ref hM, .ref hV, .ref hN, .int (nI P), .int (nI nr)])), (hi, .inl (X.2 0, 6, .inl (ia iv))), (hV, .inr (0, [.ref wV])), (wV, .inl (X.2 1, 64, .inr (.inl fV))), (hN, .inr (0, [.ref wN])), (wN, .inl (X.2 1, 64, .inr (.inl fN))), (hR, .inr (1, [.long ak, .int (nI nk)])), (gc, .inl (X.2 1, 64, .inr (.inl c1))), (gg, .inl (X.2 0, 4096, .inl (ia gs)))] H := hP
  have hD : va_D A [(g0, .inr (4, [.ref h0, .ref hR, .ref gc, .ref gg, .ref gn, .ref gt, .int (nI 0), .int gl])), (h0, .inr (2, [.ref hv, .ref hi, .ref hM, .ref hV, .ref hN, .int (nI P), .int (nI nr)])), (hi, .inl (X.2 0, 6, .inl (ia iv))), (hV, .inr (0, [.ref wV])), (wV, .inl (X.2 1, 64, .inr (.inl fV))), (hN, .inr (0, [.ref wN])), (wN, .inl (X.2 1, 64, .inr (.inl fN))), (hR, .inr (1, [.long ak, .int (nI nk)])), (gc, .inl (X.2 1, 64, .inr (.inl c1))), (gg, .inl (X.2 0, 4096, .inl (ia gs)))] := hD
  refine lv_aload_n hx hb d_Ge_start_13 rfl (lv_at hl 0 rfl) ?_
  refine lv_iload_n hx hb d_Ge_start_14 rfl (lv_at hl 1 rfl) ?_
  refine va_put (D := X.1) (ci := 4) (v := .int go) (ty := .int) (C := R_Ge) (T := F_Ge) (N := 8) hx hb hg in_Ge t_Ge t_Ge_ok n_Ge hown hE.1 hP hD hS 0 rfl rfl 7 (by decide) (hg _ m_145) (fun _ h9 => h9) rfl (by decide +kernel) rfl rfl (Nat.le_of_ble_eq_true rfl) d_Ge_start_15 (fun H locs hP hD hS => ?_)
  have hP : va_P X.1 classes [(g0, .inr (4, [.ref h0, .ref hR, .ref gc, .ref gg, .ref gn, .ref gt, .int (nI 0), .int go])), (h0, .inr (2, [.ref hv, .ref hi, .ref hM, .ref hV, .ref hN, .int (nI P), .int (nI nr)])), (hi, .inl (X.2 0, 6, .inl (ia iv))), (hV, .inr (0, [.ref wV])), (wV, .inl (X.2 1, 64, .inr (.inl fV))), (hN, .inr (0, [.ref wN])), (wN, .inl (X.2 1, 64, .inr (.inl fN))), (hR, .inr (1, [.long ak, .int (nI nk)])), (gc, .inl (X.2 1, 64, .inr (.inl c1))), (gg, .inl (X.2 0, 4096, .inl (ia gs)))] H := hP
  have hD : va_D A [(g0, .inr (4, [.ref h0, .ref hR, .ref gc, .ref gg, .ref gn, .ref gt, .int (nI 0), .int go])), (h0, .inr (2, [.ref hv, .ref hi, .ref hM, .ref hV, .ref hN, .int (nI P), .int (nI nr)])), (hi, .inl (X.2 0, 6, .inl (ia iv))), (hV, .inr (0, [.ref wV])), (wV, .inl (X.2 1, 64, .inr (.inl fV))), (hN, .inr (0, [.ref wN])), (wN, .inl (X.2 1, 64, .inr (.inl fN))), (hR, .inr (1, [.long ak, .int (nI nk)])), (gc, .inl (X.2 1, 64, .inr (.inl c1))), (gg, .inl (X.2 0, 4096, .inl (ia gs)))] := hD
  refine lv_aload_n hx hb d_Ge_start_18 rfl (lv_at hl 0 rfl) ?_
  refine va_get (D := X.1) (ci := 4) (v := .ref h0) (C := R_Ge) (T := F_Ge) (N := 8) hx hb hg in_Ge hown hE.1 hP 0 rfl rfl 0 (by decide) (hg _ m_134) (fun _ h9 => h9) rfl d_Ge_start_19 ?_
  refine clVI (n := 0) (As := []) (rest := []) (wc := [(h0, .inr (2, [.ref hv, .ref hi, .ref hM, .ref hV, .ref hN, .int (nI P), .int (nI nr)]))]) (wr := [(g0, .inr (4, [.ref h0, .ref hR, .ref gc, .ref gg, .ref gn, .ref gt, .int (nI 0), .int go])), (hi, .inl (X.2 0, 6, .inl (ia iv))), (hV, .inr (0, [.ref wV])), (wV, .inl (X.2 1, 64, .inr (.inl fV))), (hN, .inr (0, [.ref wN])), (wN, .inl (X.2 1, 64, .inr (.inl fN))), (hR, .inr (1, [.long ak, .int (nI nk)])), (gc, .inl (X.2 1, 64, .inr (.inl c1))), (gg, .inl (X.2 0, 4096, .inl (ia gs)))]) hx hb hml hown hg hE hA hP hD hS (k_Sp_numberLimit l X h0 hv hi hM hV hN P nr vl iv hP6) (gcons m_347 (gcons m_348 (gcons m_349 (gcons m_2 (gcons m_350 gG))))) (by decide +kernel) [1] [0, 2, 3, 4, 5, 6, 7, 8, 9] rfl rfl (by decide) (by decide) (by decide) 0 rfl rfl rfl hl.1 (Nat.le_of_ble_eq_true rfl) rfl d_Ge_start_22 ⟨rfl, rfl, Nat.le_of_ble_eq_true rfl, Nat.le_of_ble_eq_true rfl⟩ (⟨Nat.le_of_ble_eq_true rfl, Nat.le_of_ble_eq_true rfl⟩) (fun r22 u22 H locs hq22 hP hD hS => ?_)
  have hq22 : r22 = nI (4 ^ P) := hq22
  subst hq22
  have hP := hP.sub (ws' := [(g0, .inr (4, [.ref h0, .ref hR, .ref gc, .ref gg, .ref gn, .ref gt, .int (nI 0), .int go])), (h0, .inr (2, [.ref hv, .ref hi, .ref hM, .ref hV, .ref hN, .int (nI P), .int (nI nr)])), (hi, .inl (X.2 0, 6, .inl (ia iv))), (hV, .inr (0, [.ref wV])), (wV, .inl (X.2 1, 64, .inr (.inl fV))), (hN, .inr (0, [.ref wN])), (wN, .inl (X.2 1, 64, .inr (.inl fN))), (hR, .inr (1, [.long ak, .int (nI nk)])), (gc, .inl (X.2 1, 64, .inr (.inl c1))), (gg, .inl (X.2 0, 4096, .inl (ia gs)))]) [0, 9, 1, 2, 3, 4, 5, 6, 7, 8] rfl
  have hD := hD.sub (ws' := [(g0, .inr (4, [.ref h0, .ref hR, .ref gc, .ref gg, .ref gn, .ref gt, .int (nI 0), .int go])), (h0, .inr (2, [.ref hv, .ref hi, .ref hM, .ref hV, .ref hN, .int (nI P), .int (nI nr)])), (hi, .inl (X.2 0, 6, .inl (ia iv))), (hV, .inr (0, [.ref wV])), (wV, .inl (X.2 1, 64, .inr (.inl fV))), (hN, .inr (0, [.ref wN])), (wN, .inl (X.2 1, 64, .inr (.inl fN))), (hR, .inr (1, [.long ak, .int (nI nk)])), (gc, .inl (X.2 1, 64, .inr (.inl c1))), (gg, .inl (X.2 0, 4096, .inl (ia gs)))]) [0, 9, 1, 2, 3, 4, 5, 6, 7, 8] (by decide) rfl
  refine lv_istore_n hx hb d_Ge_start_25 rfl hl (by decide) rfl (fun ls hl => ?_)
  have hl : lv_has ls 4 [(2, .int (nI (4 ^ P))), (0, .ref g0), (1, .int go)] := hl
  refine lv_iconst (v := nI 0) hx hb d_Ge_start_26 (by decide) ?_
  refine lv_istore_n hx hb d_Ge_start_27 rfl hl (by decide) rfl (fun ls hl => ?_)
  have hl : lv_has ls 4 [(3, .int (nI 0)), (2, .int (nI (4 ^ P))), (0, .ref g0), (1, .int go)] := hl
  refine wLoop (nL := 4) (σ := (Nat) × (Nat → Nat)) (fun x9 => (fun (k : Nat) (d : Nat → Nat) => 4 ^ P - k) x9.1 x9.2) (fun x9 => (fun (k : Nat) (d : Nat → Nat) => k ≤ 4 ^ P ∧ (∀ s, s < k → d s = cB (csB iv VS NSs (bL ak) s) 64) ∧ ∀ s, d s < 2 ^ 31) x9.1 x9.2) (fun x9 => (fun (k : Nat) (d : Nat → Nat) => [(g0, .inr (4, [.ref h0, .ref hR, .ref gc, .ref gg, .ref gn, .ref gt, .int (nI 0), .int go])), (h0, .inr (2, [.ref hv, .ref hi, .ref hM, .ref hV, .ref hN, .int (nI P), .int (nI nr)])), (hi, .inl (X.2 0, 6, .inl (ia iv))), (hV, .inr (0, [.ref wV])), (wV, .inl (X.2 1, 64, .inr (.inl fV))), (hN, .inr (0, [.ref wN])), (wN, .inl (X.2 1, 64, .inr (.inl fN))), (hR, .inr (1, [.long ak, .int (nI nk)])), (gc, .inl (X.2 1, 64, .inr (.inl c1))), (gg, .inl (X.2 0, 4096, .inl (ia d)))]) x9.1 x9.2) (fun x9 => (fun (k : Nat) (d : Nat → Nat) => [(0, .ref g0), (1, .int go), (2, .int (nI (4 ^ P))), (3, .int (nI k))]) x9.1 x9.2) ?_ (0, gs) (⟨Nat.zero_le _, fun s9 h9 => absurd h9 (by (try dsimp only); omega), hgs⟩) hP hD hS (lv_sub hl [2, 3, 1, 0] rfl)
  rintro ⟨k, d⟩ H locs ls hJ hP hD hS hl ih28
  have hJ : k ≤ 4 ^ P ∧ (∀ s, s < k → d s = cB (csB iv VS NSs (bL ak) s) 64) ∧ ∀ s, d s < 2 ^ 31 := hJ
  obtain ⟨hk4, hdk, hds⟩ := hJ
  have hP : va_P X.1 classes [(g0, .inr (4, [.ref h0, .ref hR, .ref gc, .ref gg, .ref gn, .ref gt, .int (nI 0), .int go])), (h0, .inr (2, [.ref hv, .ref hi, .ref hM, .ref hV, .ref hN, .int (nI P), .int (nI nr)])), (hi, .inl (X.2 0, 6, .inl (ia iv))), (hV, .inr (0, [.ref wV])), (wV, .inl (X.2 1, 64, .inr (.inl fV))), (hN, .inr (0, [.ref wN])), (wN, .inl (X.2 1, 64, .inr (.inl fN))), (hR, .inr (1, [.long ak, .int (nI nk)])), (gc, .inl (X.2 1, 64, .inr (.inl c1))), (gg, .inl (X.2 0, 4096, .inl (ia d)))] H := hP
  have hD : va_D A [(g0, .inr (4, [.ref h0, .ref hR, .ref gc, .ref gg, .ref gn, .ref gt, .int (nI 0), .int go])), (h0, .inr (2, [.ref hv, .ref hi, .ref hM, .ref hV, .ref hN, .int (nI P), .int (nI nr)])), (hi, .inl (X.2 0, 6, .inl (ia iv))), (hV, .inr (0, [.ref wV])), (wV, .inl (X.2 1, 64, .inr (.inl fV))), (hN, .inr (0, [.ref wN])), (wN, .inl (X.2 1, 64, .inr (.inl fN))), (hR, .inr (1, [.long ak, .int (nI nk)])), (gc, .inl (X.2 1, 64, .inr (.inl c1))), (gg, .inl (X.2 0, 4096, .inl (ia d)))] := hD
  have hl : lv_has ls 4 [(0, .ref g0), (1, .int go), (2, .int (nI (4 ^ P))), (3, .int (nI k))] := hl
  refine lv_iload_n hx hb d_Ge_start_28 rfl (lv_at hl 3 rfl) ?_
  refine lv_iload_n hx hb d_Ge_start_29 rfl (lv_at hl 2 rfl) ?_
  refine lv_icmp_ge (tgt := 53) hx hb d_Ge_start_30 (by decide) (fun hc30 => ?_) (fun hc30 => ?_)
  · rw [nI_leI (by omega) (by omega)] at hc30
    exact retV (u := (c1, d)) hx hb hr hlk hP hD hS (⟨hc1, fun s9 h9 => hdk s9 (by omega), hds⟩) d_Ge_start_53
  · rw [nI_leI (by omega) (by omega)] at hc30
    refine lv_aload_n hx hb d_Ge_start_33 rfl (lv_at hl 0 rfl) ?_
    refine va_get (D := X.1) (ci := 4) (v := .ref gg) (C := R_Ge) (T := F_Ge) (N := 8) hx hb hg in_Ge hown hE.1 hP 0 rfl rfl 3 (by decide) (hg _ m_137) (fun _ h9 => h9) rfl d_Ge_start_34 ?_
    refine lv_iload_n hx hb d_Ge_start_37 rfl (lv_at hl 3 rfl) ?_
    refine lv_aload_n hx hb d_Ge_start_38 rfl (lv_at hl 0 rfl) ?_
    refine lv_iload_n hx hb d_Ge_start_39 rfl (lv_at hl 3 rfl) ?_
    refine clVL (n := 1) (As := [.int (nI k)]) (rest := [.int (nI k), .ref gg]) (wc := [(g0, .inr (4, [.ref h0, .ref hR, .ref gc, .ref gg, .ref gn, .ref gt, .int (nI 0), .int go])), (h0, .inr (2, [.ref hv, .ref hi, .ref hM, .ref hV, .ref hN, .int (nI P), .int (nI nr)])), (hi, .inl (X.2 0, 6, .inl (ia iv))), (hV, .inr (0, [.ref wV])), (wV, .inl (X.2 1, 64, .inr (.inl fV))), (hN, .inr (0, [.ref wN])), (wN, .inl (X.2 1, 64, .inr (.inl fN))), (hR, .inr (1, [.long ak, .int (nI nk)]))]) (wr := [(gc, .inl (X.2 1, 64, .inr (.inl c1))), (gg, .inl (X.2 0, 4096, .inl (ia d)))]) hx hb hml hown hg hE hA hP hD hS (k_Ge_setsCoveredBy l X h0 hv hi hM hV hN P nr vl iv hP6 hiv g0 hR gc gg gn gt (0) go wV wN fV fN VS NSs hfV hfN hi0 hVN ak nk k (by omega)) (gcons m_351 (gcons m_353 (gcons ms_Ge_setsCoveredBy (gcons m_7 (gcons m_354 gG))))) (by decide +kernel) [0, 1, 2, 3, 4, 5, 6, 7] [8, 9] rfl rfl (by decide) (by decide) (by decide) 0 rfl rfl rfl hl.1 (Nat.le_of_ble_eq_true rfl) rfl d_Ge_start_40 ⟨rfl, rfl, Nat.le_of_ble_eq_true rfl, Nat.le_of_ble_eq_true rfl⟩ (⟨Nat.le_of_ble_eq_true rfl, Nat.le_of_ble_eq_true rfl⟩) (fun r40 u40 H locs hq40 hP hD hS => ?_)
    have hP := hP.sub (ws' := [(g0, .inr (4, [.ref h0, .ref hR, .ref gc, .ref gg, .ref gn, .ref gt, .int (nI 0), .int go])), (h0, .inr (2, [.ref hv, .ref hi, .ref hM, .ref hV, .ref hN, .int (nI P), .int (nI nr)])), (hi, .inl (X.2 0, 6, .inl (ia iv))), (hV, .inr (0, [.ref wV])), (wV, .inl (X.2 1, 64, .inr (.inl fV))), (hN, .inr (0, [.ref wN])), (wN, .inl (X.2 1, 64, .inr (.inl fN))), (hR, .inr (1, [.long ak, .int (nI nk)])), (gc, .inl (X.2 1, 64, .inr (.inl c1))), (gg, .inl (X.2 0, 4096, .inl (ia d)))]) [2, 3, 4, 5, 6, 7, 8, 9, 0, 1] rfl
    have hD := hD.sub (ws' := [(g0, .inr (4, [.ref h0, .ref hR, .ref gc, .ref gg, .ref gn, .ref gt, .int (nI 0), .int go])), (h0, .inr (2, [.ref hv, .ref hi, .ref hM, .ref hV, .ref hN, .int (nI P), .int (nI nr)])), (hi, .inl (X.2 0, 6, .inl (ia iv))), (hV, .inr (0, [.ref wV])), (wV, .inl (X.2 1, 64, .inr (.inl fV))), (hN, .inr (0, [.ref wN])), (wN, .inl (X.2 1, 64, .inr (.inl fN))), (hR, .inr (1, [.long ak, .int (nI nk)])), (gc, .inl (X.2 1, 64, .inr (.inl c1))), (gg, .inl (X.2 0, 4096, .inl (ia d)))]) [2, 3, 4, 5, 6, 7, 8, 9, 0, 1] (by decide) rfl
    refine clSI (n := 1) (As := [.long r40]) (rest := [.int (nI k), .ref gg]) (wc := []) (wr := [(g0, .inr (4, [.ref h0, .ref hR, .ref gc, .ref gg, .ref gn, .ref gt, .int (nI 0), .int go])), (h0, .inr (2, [.ref hv, .ref hi, .ref hM, .ref hV, .ref hN, .int (nI P), .int (nI nr)])), (hi, .inl (X.2 0, 6, .inl (ia iv))), (hV, .inr (0, [.ref wV])), (wV, .inl (X.2 1, 64, .inr (.inl fV))), (hN, .inr (0, [.ref wN])), (wN, .inl (X.2 1, 64, .inr (.inl fN))), (hR, .inr (1, [.long ak, .int (nI nk)])), (gc, .inl (X.2 1, 64, .inr (.inl c1))), (gg, .inl (X.2 0, 4096, .inl (ia d)))]) hx hb hml hown hg hE hA hP hD hS (k_JL_bitCount l X r40) (gcons m_364 (gcons m_365 (gcons m_11 (gcons m_366 gG)))) (by decide +kernel) [] [0, 1, 2, 3, 4, 5, 6, 7, 8, 9] rfl rfl (by decide) (by decide) (by decide) rfl hl.1 (Nat.le_of_ble_eq_true rfl) rfl d_Ge_start_43 ⟨rfl, rfl, Nat.le_of_ble_eq_true rfl, Nat.le_of_ble_eq_true rfl⟩ (⟨Nat.le_of_ble_eq_true rfl, Nat.le_of_ble_eq_true rfl⟩) (fun r43 u43 H locs hq43 hP hD hS => ?_)
    have hq43 : r43 = bcL r40 := hq43
    subst hq43
    have hP : va_P X.1 classes [(g0, .inr (4, [.ref h0, .ref hR, .ref gc, .ref gg, .ref gn, .ref gt, .int (nI 0), .int go])), (h0, .inr (2, [.ref hv, .ref hi, .ref hM, .ref hV, .ref hN, .int (nI P), .int (nI nr)])), (hi, .inl (X.2 0, 6, .inl (ia iv))), (hV, .inr (0, [.ref wV])), (wV, .inl (X.2 1, 64, .inr (.inl fV))), (hN, .inr (0, [.ref wN])), (wN, .inl (X.2 1, 64, .inr (.inl fN))), (hR, .inr (1, [.long ak, .int (nI nk)])), (gc, .inl (X.2 1, 64, .inr (.inl c1))), (gg, .inl (X.2 0, 4096, .inl (ia d)))] H := hP
    have hD : va_D A [(g0, .inr (4, [.ref h0, .ref hR, .ref gc, .ref gg, .ref gn, .ref gt, .int (nI 0), .int go])), (h0, .inr (2, [.ref hv, .ref hi, .ref hM, .ref hV, .ref hN, .int (nI P), .int (nI nr)])), (hi, .inl (X.2 0, 6, .inl (ia iv))), (hV, .inr (0, [.ref wV])), (wV, .inl (X.2 1, 64, .inr (.inl fV))), (hN, .inr (0, [.ref wN])), (wN, .inl (X.2 1, 64, .inr (.inl fN))), (hR, .inr (1, [.long ak, .int (nI nk)])), (gc, .inl (X.2 1, 64, .inr (.inl c1))), (gg, .inl (X.2 0, 4096, .inl (ia d)))] := hD
    refine topI (y := nI (cB (csB iv VS NSs (bL ak) k) 64)) (by rw [bcL_eq, cB_congr hq40]) ?_
    refine va_iast hx hb hE.1 hP hD hS 9 0 rfl rfl (vp_in_nI (by omega) (by decide)) d_Ge_start_46 (fun H locs hP hD hS => ?_)
    have hP : va_P X.1 classes [(g0, .inr (4, [.ref h0, .ref hR, .ref gc, .ref gg, .ref gn, .ref gt, .int (nI 0), .int go])), (h0, .inr (2, [.ref hv, .ref hi, .ref hM, .ref hV, .ref hN, .int (nI P), .int (nI nr)])), (hi, .inl (X.2 0, 6, .inl (ia iv))), (hV, .inr (0, [.ref wV])), (wV, .inl (X.2 1, 64, .inr (.inl fV))), (hN, .inr (0, [.ref wN])), (wN, .inl (X.2 1, 64, .inr (.inl fN))), (hR, .inr (1, [.long ak, .int (nI nk)])), (gc, .inl (X.2 1, 64, .inr (.inl c1))), (gg, .inl (X.2 0, 4096, .inl (upd (ia d) (nI k).toNatClampNeg (nI (cB (csB iv VS NSs (bL ak) k) 64)))))] H := hP
    have hD : va_D A [(g0, .inr (4, [.ref h0, .ref hR, .ref gc, .ref gg, .ref gn, .ref gt, .int (nI 0), .int go])), (h0, .inr (2, [.ref hv, .ref hi, .ref hM, .ref hV, .ref hN, .int (nI P), .int (nI nr)])), (hi, .inl (X.2 0, 6, .inl (ia iv))), (hV, .inr (0, [.ref wV])), (wV, .inl (X.2 1, 64, .inr (.inl fV))), (hN, .inr (0, [.ref wN])), (wN, .inl (X.2 1, 64, .inr (.inl fN))), (hR, .inr (1, [.long ak, .int (nI nk)])), (gc, .inl (X.2 1, 64, .inr (.inl c1))), (gg, .inl (X.2 0, 4096, .inl (upd (ia d) (nI k).toNatClampNeg (nI (cB (csB iv VS NSs (bL ak) k) 64)))))] := hD
    rw [nI_clamp (show k < 2 ^ 31 by omega)] at hP hD
    have e9 : upd (ia d) k (nI (cB (csB iv VS NSs (bL ak) k) 64)) = ia (upN d k (cB (csB iv VS NSs (bL ak) k) 64)) := upd_ia _ _ _
    rw [e9] at hP hD
    clear e9
    refine lv_iinc (k := 3) (v := nI (k + 1)) hx hb d_Ge_start_47 hl rfl (nI_1 _) (by decide) rfl (fun ls hl => ?_)
    have hl : lv_has ls 4 [(3, .int (nI (k + 1))), (0, .ref g0), (1, .int go), (2, .int (nI (4 ^ P)))] := hl
    refine lv_goto (tgt := 28) hx hb d_Ge_start_50 (by decide) ?_
    exact ih28 (k + 1, upN d k (cB (csB iv VS NSs (bL ak) k) 64)) H locs ls (by (try dsimp only); omega) (⟨by (try dsimp only); omega, stK hdk, up31 hds (Nat.lt_of_le_of_lt (cB_le _ 64) (by decide))⟩) hP hD hS (lv_sub hl [1, 2, 3, 0] rfl)
set_option maxHeartbeats 4000000 in
set_option maxRecDepth 100000 in
theorem k_Ge_isGoal (l : Launch) (X : Cx) (h0 hv hi hM hV hN : Nat) (P nr : Nat) (vl iv : Nat → Nat) (hiv : ∀ p, p < 6 → iv p < 16) (g0 hR gc gg gn gt tk : Nat) (gl : Int32) (wV wN : Nat) (fV fN : Nat → Int64) (VS NSs : Nat → Bool) (hfV : RS fV VS) (hfN : RS fN NSs) (n b : Nat) (hn : n < 64) (hb0 : b < 4096) (hbs : b &&& fo n 6 = b) : CtI l X (TY X) y_Ge_isGoal cw_Ge_isGoal ({ frames := 3, cells := 0, slots := 0, locals := 74 } : Room) [.ref g0, .int (nI (fo n 6)), .int (nI b)] [(g0, .inr (4, [.ref h0, .ref hR, .ref gc, .ref gg, .ref gn, .ref gt, .int (nI tk), .int gl])), (h0, .inr (2, [.ref hv, .ref hi, .ref hM, .ref hV, .ref hN, .int (nI P), .int (nI nr)])), (hi, .inl (X.2 0, 6, .inl (ia iv))), (hV, .inr (0, [.ref wV])), (wV, .inl (X.2 1, 64, .inr (.inl fV))), (hN, .inr (0, [.ref wN])), (wN, .inl (X.2 1, 64, .inr (.inl fN)))] (S := Unit) (fun r _ => r = bI (glB iv VS NSs n b)) (fun _ => [(g0, .inr (4, [.ref h0, .ref hR, .ref gc, .ref gg, .ref gn, .ref gt, .int (nI tk), .int gl])), (h0, .inr (2, [.ref hv, .ref hi, .ref hM, .ref hV, .ref hN, .int (nI P), .int (nI nr)])), (hi, .inl (X.2 0, 6, .inl (ia iv))), (hV, .inr (0, [.ref wV])), (wV, .inl (X.2 1, 64, .inr (.inl fV))), (hN, .inr (0, [.ref wN])), (wN, .inl (X.2 1, 64, .inr (.inl fN)))]) 0 0 := by
  refine metI (by decide) (Nat.le_of_ble_eq_true rfl) ?_
  intro p e s m below meth c A ls hB hl
  obtain ⟨hx, hb, hr, hml, hown, hlk, hin, hg, hA, hD, hP, hE⟩ := hB
  have hS : va_S A s.heap s.heap [] := va_S.rf
  have hl : lv_has ls 4 [(0, .ref g0), (1, .int (nI (fo n 6))), (2, .int (nI b))] := hl
  refine lv_aload_n hx hb d_Ge_isGoal_0 rfl (lv_at hl 0 rfl) ?_
  refine va_get (D := X.1) (ci := 4) (v := .ref h0) (C := R_Ge) (T := F_Ge) (N := 8) hx hb hg in_Ge hown hE.1 hP 0 rfl rfl 0 (by decide) (hg _ m_134) (fun _ h9 => h9) rfl d_Ge_isGoal_1 ?_
  refine lv_iload_n hx hb d_Ge_isGoal_4 rfl (lv_at hl 1 rfl) ?_
  refine lv_iload_n hx hb d_Ge_isGoal_5 rfl (lv_at hl 2 rfl) ?_
  refine clVI (n := 2) (As := [.int (nI (fo n 6)), .int (nI b)]) (rest := []) (wc := [(h0, .inr (2, [.ref hv, .ref hi, .ref hM, .ref hV, .ref hN, .int (nI P), .int (nI nr)])), (hi, .inl (X.2 0, 6, .inl (ia iv)))]) (wr := [(g0, .inr (4, [.ref h0, .ref hR, .ref gc, .ref gg, .ref gn, .ref gt, .int (nI tk), .int gl])), (hV, .inr (0, [.ref wV])), (wV, .inl (X.2 1, 64, .inr (.inl fV))), (hN, .inr (0, [.ref wN])), (wN, .inl (X.2 1, 64, .inr (.inl fN)))]) hx hb hml hown hg hE hA hP hD hS (k_Sp_invalidIn l X h0 hv hi hM hV hN P nr vl iv hiv n b hn hb0) (gcons m_334 (gcons m_335 (gcons m_336 (gcons m_2 (gcons m_337 gG))))) (by decide +kernel) [1, 2] [0, 3, 4, 5, 6] rfl rfl (by decide) (by decide) (by decide) 0 rfl rfl rfl hl.1 (Nat.le_of_ble_eq_true rfl) rfl d_Ge_isGoal_6 ⟨rfl, rfl, Nat.le_of_ble_eq_true rfl, Nat.le_of_ble_eq_true rfl⟩ (⟨Nat.le_of_ble_eq_true rfl, Nat.le_of_ble_eq_true rfl⟩) (fun r6 u6 H locs hq6 hP hD hS => ?_)
  have hq6 : r6 = nI (ivs iv n b 6) := hq6
  subst hq6
  have hP := hP.sub (ws' := [(g0, .inr (4, [.ref h0, .ref hR, .ref gc, .ref gg, .ref gn, .ref gt, .int (nI tk), .int gl])), (h0, .inr (2, [.ref hv, .ref hi, .ref hM, .ref hV, .ref hN, .int (nI P), .int (nI nr)])), (hi, .inl (X.2 0, 6, .inl (ia iv))), (hV, .inr (0, [.ref wV])), (wV, .inl (X.2 1, 64, .inr (.inl fV))), (hN, .inr (0, [.ref wN])), (wN, .inl (X.2 1, 64, .inr (.inl fN)))]) [0, 5, 6, 1, 2, 3, 4] rfl
  have hD := hD.sub (ws' := [(g0, .inr (4, [.ref h0, .ref hR, .ref gc, .ref gg, .ref gn, .ref gt, .int (nI tk), .int gl])), (h0, .inr (2, [.ref hv, .ref hi, .ref hM, .ref hV, .ref hN, .int (nI P), .int (nI nr)])), (hi, .inl (X.2 0, 6, .inl (ia iv))), (hV, .inr (0, [.ref wV])), (wV, .inl (X.2 1, 64, .inr (.inl fV))), (hN, .inr (0, [.ref wN])), (wN, .inl (X.2 1, 64, .inr (.inl fN)))]) [0, 5, 6, 1, 2, 3, 4] (by decide) rfl
  refine lv_istore_n hx hb d_Ge_isGoal_9 rfl hl (by decide) rfl (fun ls hl => ?_)
  have hl : lv_has ls 4 [(3, .int (nI (ivs iv n b 6))), (0, .ref g0), (1, .int (nI (fo n 6))), (2, .int (nI b))] := hl
  refine lv_iload_n hx hb d_Ge_isGoal_10 rfl (lv_at hl 0 rfl) ?_
  refine lv_if_ne (tgt := 27) hx hb d_Ge_isGoal_11 (by decide) (fun hc11 => ?_) (fun hc11 => ?_)
  · rw [n_z (ivs31 _ _ _)] at hc11
    refine lv_iload_n hx hb d_Ge_isGoal_27 rfl (lv_at hl 0 rfl) ?_
    refine clSI (n := 1) (As := [.int (nI (ivs iv n b 6))]) (rest := []) (wc := []) (wr := [(g0, .inr (4, [.ref h0, .ref hR, .ref gc, .ref gg, .ref gn, .ref gt, .int (nI tk), .int gl])), (h0, .inr (2, [.ref hv, .ref hi, .ref hM, .ref hV, .ref hN, .int (nI P), .int (nI nr)])), (hi, .inl (X.2 0, 6, .inl (ia iv))), (hV, .inr (0, [.ref wV])), (wV, .inl (X.2 1, 64, .inr (.inl fV))), (hN, .inr (0, [.ref wN])), (wN, .inl (X.2 1, 64, .inr (.inl fN)))]) hx hb hml hown hg hE hA hP hD hS (k_JI_bitCount l X (nI (ivs iv n b 6))) (gcons m_329 (gcons m_219 (gcons m_9 (gcons m_220 gG)))) (by decide +kernel) [] [0, 1, 2, 3, 4, 5, 6] rfl rfl (by decide) (by decide) (by decide) rfl hl.1 (Nat.le_of_ble_eq_true rfl) rfl d_Ge_isGoal_28 ⟨rfl, rfl, Nat.le_of_ble_eq_true rfl, Nat.le_of_ble_eq_true rfl⟩ (⟨Nat.le_of_ble_eq_true rfl, Nat.le_of_ble_eq_true rfl⟩) (fun r28 u28 H locs hq28 hP hD hS => ?_)
    have hq28 : r28 = bcI (nI (ivs iv n b 6)) := hq28
    subst hq28
    have hP : va_P X.1 classes [(g0, .inr (4, [.ref h0, .ref hR, .ref gc, .ref gg, .ref gn, .ref gt, .int (nI tk), .int gl])), (h0, .inr (2, [.ref hv, .ref hi, .ref hM, .ref hV, .ref hN, .int (nI P), .int (nI nr)])), (hi, .inl (X.2 0, 6, .inl (ia iv))), (hV, .inr (0, [.ref wV])), (wV, .inl (X.2 1, 64, .inr (.inl fV))), (hN, .inr (0, [.ref wN])), (wN, .inl (X.2 1, 64, .inr (.inl fN)))] H := hP
    have hD : va_D A [(g0, .inr (4, [.ref h0, .ref hR, .ref gc, .ref gg, .ref gn, .ref gt, .int (nI tk), .int gl])), (h0, .inr (2, [.ref hv, .ref hi, .ref hM, .ref hV, .ref hN, .int (nI P), .int (nI nr)])), (hi, .inl (X.2 0, 6, .inl (ia iv))), (hV, .inr (0, [.ref wV])), (wV, .inl (X.2 1, 64, .inr (.inl fV))), (hN, .inr (0, [.ref wN])), (wN, .inl (X.2 1, 64, .inr (.inl fN)))] := hD
    refine topI (y := nI (cn (ivs iv n b 6) 6)) (bc6 (ivs_64 _ _ _ 6 (by decide))) ?_
    refine lv_iconst (v := nI 1) hx hb d_Ge_isGoal_31 (by decide) ?_
    refine lv_icmp_ne (tgt := 54) hx hb d_Ge_isGoal_32 (by decide) (fun hc32 => ?_) (fun hc32 => ?_)
    · rw [nI_eq (cn31 _) (by decide)] at hc32
      refine lv_iconst (v := nI 0) hx hb d_Ge_isGoal_54 (by decide) ?_
      exact retZ (u := ()) hx hb hr hlk (by decide) hP hD hS (by first | exact gl_b hc11 hc47 | exact gl_a hc11 hc32) d_Ge_isGoal_55
    · rw [nI_eq (cn31 _) (by decide)] at hc32
      refine lv_aload_n hx hb d_Ge_isGoal_35 rfl (lv_at hl 1 rfl) ?_
      refine va_get (D := X.1) (ci := 4) (v := .ref h0) (C := R_Ge) (T := F_Ge) (N := 8) hx hb hg in_Ge hown hE.1 hP 0 rfl rfl 0 (by decide) (hg _ m_134) (fun _ h9 => h9) rfl d_Ge_isGoal_36 ?_
      refine va_get (D := X.1) (ci := 2) (v := .ref hN) (C := R_Sp) (T := F_Sp) (N := 7) hx hb hg in_Sp hown hE.1 hP 1 rfl rfl 4 (by decide) (hg _ m_73) (fun _ h9 => h9) rfl d_Ge_isGoal_39 ?_
      refine lv_iload_n hx hb d_Ge_isGoal_42 rfl (lv_at hl 2 rfl) ?_
      refine lv_iload_n hx hb d_Ge_isGoal_43 rfl (lv_at hl 3 rfl) ?_
      refine clVI (n := 2) (As := [.int (nI (fo n 6)), .int (nI b)]) (rest := []) (wc := [(hN, .inr (0, [.ref wN])), (wN, .inl (X.2 1, 64, .inr (.inl fN)))]) (wr := [(g0, .inr (4, [.ref h0, .ref hR, .ref gc, .ref gg, .ref gn, .ref gt, .int (nI tk), .int gl])), (h0, .inr (2, [.ref hv, .ref hi, .ref hM, .ref hV, .ref hN, .int (nI P), .int (nI nr)])), (hi, .inl (X.2 0, 6, .inl (ia iv))), (hV, .inr (0, [.ref wV])), (wV, .inl (X.2 1, 64, .inr (.inl fV)))]) hx hb hml hown hg hE hA hP hD hS (k_NS_hasRowWith l X hN wN fN NSs hfN n b hn hb0 hbs) (gcons m_340 (gcons m_302 (gcons m_303 (gcons m_3 (gcons m_304 gG))))) (by decide +kernel) [5, 6] [0, 1, 2, 3, 4] rfl rfl (by decide) (by decide) (by decide) 0 rfl rfl rfl hl.1 (Nat.le_of_ble_eq_true rfl) rfl d_Ge_isGoal_44 ⟨rfl, rfl, Nat.le_of_ble_eq_true rfl, Nat.le_of_ble_eq_true rfl⟩ (⟨Nat.le_of_ble_eq_true rfl, Nat.le_of_ble_eq_true rfl⟩) (fun r44 u44 H locs hq44 hP hD hS => ?_)
      have hq44 : r44 = bI (anyR NSs n b) := hq44
      subst hq44
      have hP : va_P X.1 classes [(g0, .inr (4, [.ref h0, .ref hR, .ref gc, .ref gg, .ref gn, .ref gt, .int (nI tk), .int gl])), (h0, .inr (2, [.ref hv, .ref hi, .ref hM, .ref hV, .ref hN, .int (nI P), .int (nI nr)])), (hi, .inl (X.2 0, 6, .inl (ia iv))), (hV, .inr (0, [.ref wV])), (wV, .inl (X.2 1, 64, .inr (.inl fV))), (hN, .inr (0, [.ref wN])), (wN, .inl (X.2 1, 64, .inr (.inl fN)))] H := hP
      have hD : va_D A [(g0, .inr (4, [.ref h0, .ref hR, .ref gc, .ref gg, .ref gn, .ref gt, .int (nI tk), .int gl])), (h0, .inr (2, [.ref hv, .ref hi, .ref hM, .ref hV, .ref hN, .int (nI P), .int (nI nr)])), (hi, .inl (X.2 0, 6, .inl (ia iv))), (hV, .inr (0, [.ref wV])), (wV, .inl (X.2 1, 64, .inr (.inl fV))), (hN, .inr (0, [.ref wN])), (wN, .inl (X.2 1, 64, .inr (.inl fN)))] := hD
      refine lv_if_eq (tgt := 54) hx hb d_Ge_isGoal_47 (by decide) (fun hc47 => ?_) (fun hc47 => ?_)
      · rw [bI_z] at hc47
        refine lv_iconst (v := nI 0) hx hb d_Ge_isGoal_54 (by decide) ?_
        exact retZ (u := ()) hx hb hr hlk (by decide) hP hD hS (by first | exact gl_b hc11 hc47 | exact gl_a hc11 hc32) d_Ge_isGoal_55
      · rw [bI_z] at hc47
        refine lv_iconst (v := nI 1) hx hb d_Ge_isGoal_50 (by decide) ?_
        refine lv_goto (tgt := 55) hx hb d_Ge_isGoal_51 (by decide) ?_
        exact retZ (u := ()) hx hb hr hlk (by decide) hP hD hS (gl_c hc11 hc32 hc47) d_Ge_isGoal_55
  · rw [n_z (ivs31 _ _ _)] at hc11
    refine lv_aload_n hx hb d_Ge_isGoal_14 rfl (lv_at hl 1 rfl) ?_
    refine va_get (D := X.1) (ci := 4) (v := .ref h0) (C := R_Ge) (T := F_Ge) (N := 8) hx hb hg in_Ge hown hE.1 hP 0 rfl rfl 0 (by decide) (hg _ m_134) (fun _ h9 => h9) rfl d_Ge_isGoal_15 ?_
    refine va_get (D := X.1) (ci := 2) (v := .ref hV) (C := R_Sp) (T := F_Sp) (N := 7) hx hb hg in_Sp hown hE.1 hP 1 rfl rfl 3 (by decide) (hg _ m_70) (fun _ h9 => h9) rfl d_Ge_isGoal_18 ?_
    refine lv_iload_n hx hb d_Ge_isGoal_21 rfl (lv_at hl 2 rfl) ?_
    refine lv_iload_n hx hb d_Ge_isGoal_22 rfl (lv_at hl 3 rfl) ?_
    refine clVI (n := 2) (As := [.int (nI (fo n 6)), .int (nI b)]) (rest := []) (wc := [(hV, .inr (0, [.ref wV])), (wV, .inl (X.2 1, 64, .inr (.inl fV)))]) (wr := [(g0, .inr (4, [.ref h0, .ref hR, .ref gc, .ref gg, .ref gn, .ref gt, .int (nI tk), .int gl])), (h0, .inr (2, [.ref hv, .ref hi, .ref hM, .ref hV, .ref hN, .int (nI P), .int (nI nr)])), (hi, .inl (X.2 0, 6, .inl (ia iv))), (hN, .inr (0, [.ref wN])), (wN, .inl (X.2 1, 64, .inr (.inl fN)))]) hx hb hml hown hg hE hA hP hD hS (k_NS_hasRowWith l X hV wV fV VS hfV n b hn hb0 hbs) (gcons m_340 (gcons m_302 (gcons m_303 (gcons m_3 (gcons m_304 gG))))) (by decide +kernel) [3, 4] [0, 1, 2, 5, 6] rfl rfl (by decide) (by decide) (by decide) 0 rfl rfl rfl hl.1 (Nat.le_of_ble_eq_true rfl) rfl d_Ge_isGoal_23 ⟨rfl, rfl, Nat.le_of_ble_eq_true rfl, Nat.le_of_ble_eq_true rfl⟩ (⟨Nat.le_of_ble_eq_true rfl, Nat.le_of_ble_eq_true rfl⟩) (fun r23 u23 H locs hq23 hP hD hS => ?_)
    have hq23 : r23 = bI (anyR VS n b) := hq23
    subst hq23
    have hP := hP.sub (ws' := [(g0, .inr (4, [.ref h0, .ref hR, .ref gc, .ref gg, .ref gn, .ref gt, .int (nI tk), .int gl])), (h0, .inr (2, [.ref hv, .ref hi, .ref hM, .ref hV, .ref hN, .int (nI P), .int (nI nr)])), (hi, .inl (X.2 0, 6, .inl (ia iv))), (hV, .inr (0, [.ref wV])), (wV, .inl (X.2 1, 64, .inr (.inl fV))), (hN, .inr (0, [.ref wN])), (wN, .inl (X.2 1, 64, .inr (.inl fN)))]) [0, 1, 2, 5, 6, 3, 4] rfl
    have hD := hD.sub (ws' := [(g0, .inr (4, [.ref h0, .ref hR, .ref gc, .ref gg, .ref gn, .ref gt, .int (nI tk), .int gl])), (h0, .inr (2, [.ref hv, .ref hi, .ref hM, .ref hV, .ref hN, .int (nI P), .int (nI nr)])), (hi, .inl (X.2 0, 6, .inl (ia iv))), (hV, .inr (0, [.ref wV])), (wV, .inl (X.2 1, 64, .inr (.inl fV))), (hN, .inr (0, [.ref wN])), (wN, .inl (X.2 1, 64, .inr (.inl fN)))]) [0, 1, 2, 5, 6, 3, 4] (by decide) rfl
    exact retZ (u := ()) hx hb hr hlk (bI_01 _) hP hD hS (by rw [gl_0 hc11]) d_Ge_isGoal_26
set_option maxHeartbeats 4000000 in
set_option maxRecDepth 100000 in
theorem k_Ge_countGoalsOf (l : Launch) (X : Cx) (h0 hv hi hM hV hN : Nat) (P nr : Nat) (vl iv : Nat → Nat) (hiv : ∀ p, p < 6 → iv p < 16) (g0 hR gc gg gn gt tk : Nat) (gl : Int32) (wV wN : Nat) (fV fN : Nat → Int64) (VS NSs : Nat → Bool) (hfV : RS fV VS) (hfN : RS fN NSs) (n : Nat) (hn : n < 64) : CtI l X (TY X) y_Ge_countGoalsOf cw_Ge_countGoalsOf ({ frames := 4, cells := 0, slots := 0, locals := 97 } : Room) [.ref g0, .int (nI (fo n 6))] [(g0, .inr (4, [.ref h0, .ref hR, .ref gc, .ref gg, .ref gn, .ref gt, .int (nI tk), .int gl])), (h0, .inr (2, [.ref hv, .ref hi, .ref hM, .ref hV, .ref hN, .int (nI P), .int (nI nr)])), (hi, .inl (X.2 0, 6, .inl (ia iv))), (hV, .inr (0, [.ref wV])), (wV, .inl (X.2 1, 64, .inr (.inl fV))), (hN, .inr (0, [.ref wN])), (wN, .inl (X.2 1, 64, .inr (.inl fN)))] (S := Unit) (fun r _ => r = nI (cB (glF iv VS NSs n) (4 ^ cn n 6))) (fun _ => [(g0, .inr (4, [.ref h0, .ref hR, .ref gc, .ref gg, .ref gn, .ref gt, .int (nI tk), .int gl])), (h0, .inr (2, [.ref hv, .ref hi, .ref hM, .ref hV, .ref hN, .int (nI P), .int (nI nr)])), (hi, .inl (X.2 0, 6, .inl (ia iv))), (hV, .inr (0, [.ref wV])), (wV, .inl (X.2 1, 64, .inr (.inl fV))), (hN, .inr (0, [.ref wN])), (wN, .inl (X.2 1, 64, .inr (.inl fN)))]) 0 0 := by
  refine metI (by decide) (Nat.le_of_ble_eq_true rfl) ?_
  intro p e s m below meth c A ls hB hl
  obtain ⟨hx, hb, hr, hml, hown, hlk, hin, hg, hA, hD, hP, hE⟩ := hB
  have hS : va_S A s.heap s.heap [] := va_S.rf
  have hl : lv_has ls 6 [(0, .ref g0), (1, .int (nI (fo n 6)))] := hl
  have h4 := p4cn n
  refine lv_iconst (v := nI 0) hx hb d_Ge_countGoalsOf_0 (by decide) ?_
  refine lv_istore_n hx hb d_Ge_countGoalsOf_1 rfl hl (by decide) rfl (fun ls hl => ?_)
  have hl : lv_has ls 6 [(2, .int (nI 0)), (0, .ref g0), (1, .int (nI (fo n 6)))] := hl
  refine lv_iconst (v := nI 1) hx hb d_Ge_countGoalsOf_2 (by decide) ?_
  refine lv_iload_n hx hb d_Ge_countGoalsOf_3 rfl (lv_at hl 2 rfl) ?_
  refine clSI (n := 1) (As := [.int (nI (fo n 6))]) (rest := [.int (nI 1)]) (wc := []) (wr := [(g0, .inr (4, [.ref h0, .ref hR, .ref gc, .ref gg, .ref gn, .ref gt, .int (nI tk), .int gl])), (h0, .inr (2, [.ref hv, .ref hi, .ref hM, .ref hV, .ref hN, .int (nI P), .int (nI nr)])), (hi, .inl (X.2 0, 6, .inl (ia iv))), (hV, .inr (0, [.ref wV])), (wV, .inl (X.2 1, 64, .inr (.inl fV))), (hN, .inr (0, [.ref wN])), (wN, .inl (X.2 1, 64, .inr (.inl fN)))]) hx hb hml hown hg hE hA hP hD hS (k_JI_bitCount l X (nI (fo n 6))) (gcons m_329 (gcons m_219 (gcons m_9 (gcons m_220 gG)))) (by decide +kernel) [] [0, 1, 2, 3, 4, 5, 6] rfl rfl (by decide) (by decide) (by decide) rfl hl.1 (Nat.le_of_ble_eq_true rfl) rfl d_Ge_countGoalsOf_4 ⟨rfl, rfl, Nat.le_of_ble_eq_true rfl, Nat.le_of_ble_eq_true rfl⟩ (⟨Nat.le_of_ble_eq_true rfl, Nat.le_of_ble_eq_true rfl⟩) (fun r4 u4 H locs hq4 hP hD hS => ?_)
  have hq4 : r4 = bcI (nI (fo n 6)) := hq4
  subst hq4
  have hP : va_P X.1 classes [(g0, .inr (4, [.ref h0, .ref hR, .ref gc, .ref gg, .ref gn, .ref gt, .int (nI tk), .int gl])), (h0, .inr (2, [.ref hv, .ref hi, .ref hM, .ref hV, .ref hN, .int (nI P), .int (nI nr)])), (hi, .inl (X.2 0, 6, .inl (ia iv))), (hV, .inr (0, [.ref wV])), (wV, .inl (X.2 1, 64, .inr (.inl fV))), (hN, .inr (0, [.ref wN])), (wN, .inl (X.2 1, 64, .inr (.inl fN)))] H := hP
  have hD : va_D A [(g0, .inr (4, [.ref h0, .ref hR, .ref gc, .ref gg, .ref gn, .ref gt, .int (nI tk), .int gl])), (h0, .inr (2, [.ref hv, .ref hi, .ref hM, .ref hV, .ref hN, .int (nI P), .int (nI nr)])), (hi, .inl (X.2 0, 6, .inl (ia iv))), (hV, .inr (0, [.ref wV])), (wV, .inl (X.2 1, 64, .inr (.inl fV))), (hN, .inr (0, [.ref wN])), (wN, .inl (X.2 1, 64, .inr (.inl fN)))] := hD
  refine lv_ishl hx hb d_Ge_countGoalsOf_7 ?_
  refine topI (y := nI (4 ^ cn n 6)) (bcF hn) ?_
  refine lv_istore_n hx hb d_Ge_countGoalsOf_8 rfl hl (by decide) rfl (fun ls hl => ?_)
  have hl : lv_has ls 6 [(3, .int (nI (4 ^ cn n 6))), (2, .int (nI 0)), (0, .ref g0), (1, .int (nI (fo n 6)))] := hl
  refine lv_iconst (v := nI 0) hx hb d_Ge_countGoalsOf_9 (by decide) ?_
  refine topI (y := nI (ux n 0)) (by rw [ux_0]) ?_
  refine lv_istore hx hb d_Ge_countGoalsOf_10 hl (by decide) rfl (fun ls hl => ?_)
  have hl : lv_has ls 6 [(4, .int (nI (ux n 0))), (3, .int (nI (4 ^ cn n 6))), (2, .int (nI 0)), (0, .ref g0), (1, .int (nI (fo n 6)))] := hl
  refine lv_iconst (v := nI 0) hx hb d_Ge_countGoalsOf_12 (by decide) ?_
  refine lv_istore hx hb d_Ge_countGoalsOf_13 hl (by decide) rfl (fun ls hl => ?_)
  have hl : lv_has ls 6 [(5, .int (nI 0)), (4, .int (nI (ux n 0))), (3, .int (nI (4 ^ cn n 6))), (2, .int (nI 0)), (0, .ref g0), (1, .int (nI (fo n 6)))] := hl
  refine wLoop (nL := 6) (σ := (Nat)) (fun j => 4 ^ cn n 6 - j) (fun j => j ≤ 4 ^ cn n 6) (fun j => [(g0, .inr (4, [.ref h0, .ref hR, .ref gc, .ref gg, .ref gn, .ref gt, .int (nI tk), .int gl])), (h0, .inr (2, [.ref hv, .ref hi, .ref hM, .ref hV, .ref hN, .int (nI P), .int (nI nr)])), (hi, .inl (X.2 0, 6, .inl (ia iv))), (hV, .inr (0, [.ref wV])), (wV, .inl (X.2 1, 64, .inr (.inl fV))), (hN, .inr (0, [.ref wN])), (wN, .inl (X.2 1, 64, .inr (.inl fN)))]) (fun j => [(0, .ref g0), (1, .int (nI (fo n 6))), (2, .int (nI (cB (glF iv VS NSs n) j))), (3, .int (nI (4 ^ cn n 6))), (4, .int (nI (ux n j))), (5, .int (nI j))]) ?_ 0 (Nat.zero_le _) hP hD hS (lv_sub hl [4, 5, 3, 2, 1, 0] rfl)
  rintro j H locs ls hJ hP hD hS hl ih15
  have hJ : j ≤ 4 ^ cn n 6 := hJ
  have hP : va_P X.1 classes [(g0, .inr (4, [.ref h0, .ref hR, .ref gc, .ref gg, .ref gn, .ref gt, .int (nI tk), .int gl])), (h0, .inr (2, [.ref hv, .ref hi, .ref hM, .ref hV, .ref hN, .int (nI P), .int (nI nr)])), (hi, .inl (X.2 0, 6, .inl (ia iv))), (hV, .inr (0, [.ref wV])), (wV, .inl (X.2 1, 64, .inr (.inl fV))), (hN, .inr (0, [.ref wN])), (wN, .inl (X.2 1, 64, .inr (.inl fN)))] H := hP
  have hD : va_D A [(g0, .inr (4, [.ref h0, .ref hR, .ref gc, .ref gg, .ref gn, .ref gt, .int (nI tk), .int gl])), (h0, .inr (2, [.ref hv, .ref hi, .ref hM, .ref hV, .ref hN, .int (nI P), .int (nI nr)])), (hi, .inl (X.2 0, 6, .inl (ia iv))), (hV, .inr (0, [.ref wV])), (wV, .inl (X.2 1, 64, .inr (.inl fV))), (hN, .inr (0, [.ref wN])), (wN, .inl (X.2 1, 64, .inr (.inl fN)))] := hD
  have hl : lv_has ls 6 [(0, .ref g0), (1, .int (nI (fo n 6))), (2, .int (nI (cB (glF iv VS NSs n) j))), (3, .int (nI (4 ^ cn n 6))), (4, .int (nI (ux n j))), (5, .int (nI j))] := hl
  refine lv_iload hx hb d_Ge_countGoalsOf_15 (lv_at hl 5 rfl) ?_
  refine lv_iload_n hx hb d_Ge_countGoalsOf_17 rfl (lv_at hl 3 rfl) ?_
  refine lv_icmp_ge (tgt := 48) hx hb d_Ge_countGoalsOf_18 (by decide) (fun hc18 => ?_) (fun hc18 => ?_)
  · rw [nI_leI (by omega) (by omega)] at hc18
    obtain rfl : j = 4 ^ cn n 6 := by omega
    refine lv_iload_n hx hb d_Ge_countGoalsOf_48 rfl (lv_at hl 2 rfl) ?_
    exact retI (u := ()) hx hb hr hlk hP hD hS (rfl) d_Ge_countGoalsOf_49
  · rw [nI_leI (by omega) (by omega)] at hc18
    refine lv_aload_n hx hb d_Ge_countGoalsOf_21 rfl (lv_at hl 0 rfl) ?_
    refine lv_iload_n hx hb d_Ge_countGoalsOf_22 rfl (lv_at hl 1 rfl) ?_
    refine lv_iload hx hb d_Ge_countGoalsOf_23 (lv_at hl 4 rfl) ?_
    refine clVI (n := 2) (As := [.int (nI (fo n 6)), .int (nI (ux n j))]) (rest := []) (wc := [(g0, .inr (4, [.ref h0, .ref hR, .ref gc, .ref gg, .ref gn, .ref gt, .int (nI tk), .int gl])), (h0, .inr (2, [.ref hv, .ref hi, .ref hM, .ref hV, .ref hN, .int (nI P), .int (nI nr)])), (hi, .inl (X.2 0, 6, .inl (ia iv))), (hV, .inr (0, [.ref wV])), (wV, .inl (X.2 1, 64, .inr (.inl fV))), (hN, .inr (0, [.ref wN])), (wN, .inl (X.2 1, 64, .inr (.inl fN)))]) (wr := []) hx hb hml hown hg hE hA hP hD hS (k_Ge_isGoal l X h0 hv hi hM hV hN P nr vl iv hiv g0 hR gc gg gn gt tk gl wV wN fV fN VS NSs hfV hfN n (ux n j) hn (ux_lt n j) (ux_and n j)) (gcons m_330 (gcons m_332 (gcons ms_Ge_isGoal (gcons m_7 (gcons m_333 gG))))) (by decide +kernel) [0, 1, 2, 3, 4, 5, 6] [] rfl rfl (by decide) (by decide) (by decide) 0 rfl rfl rfl hl.1 (Nat.le_of_ble_eq_true rfl) rfl d_Ge_countGoalsOf_25 ⟨rfl, rfl, Nat.le_of_ble_eq_true rfl, Nat.le_of_ble_eq_true rfl⟩ (⟨Nat.le_of_ble_eq_true rfl, Nat.le_of_ble_eq_true rfl⟩) (fun r25 u25 H locs hq25 hP hD hS => ?_)
    have hq25 : r25 = bI (glF iv VS NSs n j) := hq25
    subst hq25
    have hP : va_P X.1 classes [(g0, .inr (4, [.ref h0, .ref hR, .ref gc, .ref gg, .ref gn, .ref gt, .int (nI tk), .int gl])), (h0, .inr (2, [.ref hv, .ref hi, .ref hM, .ref hV, .ref hN, .int (nI P), .int (nI nr)])), (hi, .inl (X.2 0, 6, .inl (ia iv))), (hV, .inr (0, [.ref wV])), (wV, .inl (X.2 1, 64, .inr (.inl fV))), (hN, .inr (0, [.ref wN])), (wN, .inl (X.2 1, 64, .inr (.inl fN)))] H := hP
    have hD : va_D A [(g0, .inr (4, [.ref h0, .ref hR, .ref gc, .ref gg, .ref gn, .ref gt, .int (nI tk), .int gl])), (h0, .inr (2, [.ref hv, .ref hi, .ref hM, .ref hV, .ref hN, .int (nI P), .int (nI nr)])), (hi, .inl (X.2 0, 6, .inl (ia iv))), (hV, .inr (0, [.ref wV])), (wV, .inl (X.2 1, 64, .inr (.inl fV))), (hN, .inr (0, [.ref wN])), (wN, .inl (X.2 1, 64, .inr (.inl fN)))] := hD
    refine lv_if_eq (tgt := 34) hx hb d_Ge_countGoalsOf_28 (by decide) (fun hc28 => ?_) (fun hc28 => ?_)
    · rw [bI_z] at hc28
      have hl : lv_has ls 6 [(0, .ref g0), (1, .int (nI (fo n 6))), (2, .int (nI (cB (glF iv VS NSs n) (j + 1)))), (3, .int (nI (4 ^ cn n 6))), (4, .int (nI (ux n j))), (5, .int (nI j))] := by rw [cB_f hc28]; exact hl
      refine lv_iload_n hx hb d_Ge_countGoalsOf_34 rfl (lv_at hl 1 rfl) ?_
      refine lv_iload hx hb d_Ge_countGoalsOf_35 (lv_at hl 4 rfl) ?_
      refine clSNI (n := 2) (As := [.int (nI (fo n 6)), .int (nI (ux n j))]) (rest := []) (wc := []) (wr := [(g0, .inr (4, [.ref h0, .ref hR, .ref gc, .ref gg, .ref gn, .ref gt, .int (nI tk), .int gl])), (h0, .inr (2, [.ref hv, .ref hi, .ref hM, .ref hV, .ref hN, .int (nI P), .int (nI nr)])), (hi, .inl (X.2 0, 6, .inl (ia iv))), (hV, .inr (0, [.ref wV])), (wV, .inl (X.2 1, 64, .inr (.inl fV))), (hN, .inr (0, [.ref wN])), (wN, .inl (X.2 1, 64, .inr (.inl fN)))]) hx hb hml hown hg hE hA hP hD hS (k_CR_nextWithin l X (nI (fo n 6)) (nI (ux n j))) m_311 m_310 m_1 (nw_9 hE.2.1) (by decide +kernel) [] [0, 1, 2, 3, 4, 5, 6] rfl rfl (by decide) (by decide) (by decide) rfl hl.1 (Nat.le_of_ble_eq_true rfl) rfl d_Ge_countGoalsOf_37 ⟨rfl, rfl, Nat.le_of_ble_eq_true rfl, Nat.le_of_ble_eq_true rfl⟩ (⟨Nat.le_of_ble_eq_true rfl, Nat.le_of_ble_eq_true rfl⟩) (fun r37 u37 H locs hq37 hP hD hS => ?_)
      have hq37 : r37 = (nI (ux n j) - nI (fo n 6)) &&& nI (fo n 6) := hq37
      subst hq37
      have hP : va_P X.1 classes [(g0, .inr (4, [.ref h0, .ref hR, .ref gc, .ref gg, .ref gn, .ref gt, .int (nI tk), .int gl])), (h0, .inr (2, [.ref hv, .ref hi, .ref hM, .ref hV, .ref hN, .int (nI P), .int (nI nr)])), (hi, .inl (X.2 0, 6, .inl (ia iv))), (hV, .inr (0, [.ref wV])), (wV, .inl (X.2 1, 64, .inr (.inl fV))), (hN, .inr (0, [.ref wN])), (wN, .inl (X.2 1, 64, .inr (.inl fN)))] H := hP
      have hD : va_D A [(g0, .inr (4, [.ref h0, .ref hR, .ref gc, .ref gg, .ref gn, .ref gt, .int (nI tk), .int gl])), (h0, .inr (2, [.ref hv, .ref hi, .ref hM, .ref hV, .ref hN, .int (nI P), .int (nI nr)])), (hi, .inl (X.2 0, 6, .inl (ia iv))), (hV, .inr (0, [.ref wV])), (wV, .inl (X.2 1, 64, .inr (.inl fV))), (hN, .inr (0, [.ref wN])), (wN, .inl (X.2 1, 64, .inr (.inl fN)))] := hD
      refine topI (y := nI (ux n (j + 1))) (ux_next hn (by omega)) ?_
      refine lv_istore hx hb d_Ge_countGoalsOf_40 hl (by decide) rfl (fun ls hl => ?_)
      have hl : lv_has ls 6 [(4, .int (nI (ux n (j + 1)))), (0, .ref g0), (1, .int (nI (fo n 6))), (2, .int (nI (cB (glF iv VS NSs n) (j + 1)))), (3, .int (nI (4 ^ cn n 6))), (5, .int (nI j))] := hl
      refine lv_iinc (k := 5) (v := nI (j + 1)) hx hb d_Ge_countGoalsOf_42 hl rfl (nI_1 _) (by decide) rfl (fun ls hl => ?_)
      have hl : lv_has ls 6 [(5, .int (nI (j + 1))), (4, .int (nI (ux n (j + 1)))), (0, .ref g0), (1, .int (nI (fo n 6))), (2, .int (nI (cB (glF iv VS NSs n) (j + 1)))), (3, .int (nI (4 ^ cn n 6)))] := hl
      refine lv_goto (tgt := 15) hx hb d_Ge_countGoalsOf_45 (by decide) ?_
      exact ih15 (j + 1) H locs ls (by (try dsimp only); omega) (by (try dsimp only); omega) hP hD hS (lv_sub hl [2, 3, 4, 5, 1, 0] rfl)
    · rw [bI_z] at hc28
      refine lv_iinc (k := 2) (v := nI (cB (glF iv VS NSs n) (j + 1))) hx hb d_Ge_countGoalsOf_31 hl rfl (cB_it hc28) (by decide) rfl (fun ls hl => ?_)
      have hl : lv_has ls 6 [(2, .int (nI (cB (glF iv VS NSs n) (j + 1)))), (0, .ref g0), (1, .int (nI (fo n 6))), (3, .int (nI (4 ^ cn n 6))), (4, .int (nI (ux n j))), (5, .int (nI j))] := hl
      refine lv_iload_n hx hb d_Ge_countGoalsOf_34 rfl (lv_at hl 2 rfl) ?_
      refine lv_iload hx hb d_Ge_countGoalsOf_35 (lv_at hl 4 rfl) ?_
      refine clSNI (n := 2) (As := [.int (nI (fo n 6)), .int (nI (ux n j))]) (rest := []) (wc := []) (wr := [(g0, .inr (4, [.ref h0, .ref hR, .ref gc, .ref gg, .ref gn, .ref gt, .int (nI tk), .int gl])), (h0, .inr (2, [.ref hv, .ref hi, .ref hM, .ref hV, .ref hN, .int (nI P), .int (nI nr)])), (hi, .inl (X.2 0, 6, .inl (ia iv))), (hV, .inr (0, [.ref wV])), (wV, .inl (X.2 1, 64, .inr (.inl fV))), (hN, .inr (0, [.ref wN])), (wN, .inl (X.2 1, 64, .inr (.inl fN)))]) hx hb hml hown hg hE hA hP hD hS (k_CR_nextWithin l X (nI (fo n 6)) (nI (ux n j))) m_311 m_310 m_1 (nw_9 hE.2.1) (by decide +kernel) [] [0, 1, 2, 3, 4, 5, 6] rfl rfl (by decide) (by decide) (by decide) rfl hl.1 (Nat.le_of_ble_eq_true rfl) rfl d_Ge_countGoalsOf_37 ⟨rfl, rfl, Nat.le_of_ble_eq_true rfl, Nat.le_of_ble_eq_true rfl⟩ (⟨Nat.le_of_ble_eq_true rfl, Nat.le_of_ble_eq_true rfl⟩) (fun r37 u37 H locs hq37 hP hD hS => ?_)
      have hq37 : r37 = (nI (ux n j) - nI (fo n 6)) &&& nI (fo n 6) := hq37
      subst hq37
      have hP : va_P X.1 classes [(g0, .inr (4, [.ref h0, .ref hR, .ref gc, .ref gg, .ref gn, .ref gt, .int (nI tk), .int gl])), (h0, .inr (2, [.ref hv, .ref hi, .ref hM, .ref hV, .ref hN, .int (nI P), .int (nI nr)])), (hi, .inl (X.2 0, 6, .inl (ia iv))), (hV, .inr (0, [.ref wV])), (wV, .inl (X.2 1, 64, .inr (.inl fV))), (hN, .inr (0, [.ref wN])), (wN, .inl (X.2 1, 64, .inr (.inl fN)))] H := hP
      have hD : va_D A [(g0, .inr (4, [.ref h0, .ref hR, .ref gc, .ref gg, .ref gn, .ref gt, .int (nI tk), .int gl])), (h0, .inr (2, [.ref hv, .ref hi, .ref hM, .ref hV, .ref hN, .int (nI P), .int (nI nr)])), (hi, .inl (X.2 0, 6, .inl (ia iv))), (hV, .inr (0, [.ref wV])), (wV, .inl (X.2 1, 64, .inr (.inl fV))), (hN, .inr (0, [.ref wN])), (wN, .inl (X.2 1, 64, .inr (.inl fN)))] := hD
      refine topI (y := nI (ux n (j + 1))) (ux_next hn (by omega)) ?_
      refine lv_istore hx hb d_Ge_countGoalsOf_40 hl (by decide) rfl (fun ls hl => ?_)
      have hl : lv_has ls 6 [(4, .int (nI (ux n (j + 1)))), (2, .int (nI (cB (glF iv VS NSs n) (j + 1)))), (0, .ref g0), (1, .int (nI (fo n 6))), (3, .int (nI (4 ^ cn n 6))), (5, .int (nI j))] := hl
      refine lv_iinc (k := 5) (v := nI (j + 1)) hx hb d_Ge_countGoalsOf_42 hl rfl (nI_1 _) (by decide) rfl (fun ls hl => ?_)
      have hl : lv_has ls 6 [(5, .int (nI (j + 1))), (4, .int (nI (ux n (j + 1)))), (2, .int (nI (cB (glF iv VS NSs n) (j + 1)))), (0, .ref g0), (1, .int (nI (fo n 6))), (3, .int (nI (4 ^ cn n 6)))] := hl
      refine lv_goto (tgt := 15) hx hb d_Ge_countGoalsOf_45 (by decide) ?_
      exact ih15 (j + 1) H locs ls (by (try dsimp only); omega) (by (try dsimp only); omega) hP hD hS (lv_sub hl [3, 4, 2, 5, 1, 0] rfl)
set_option maxHeartbeats 4000000 in
set_option maxRecDepth 100000 in
theorem k_Ge_countGoals (l : Launch) (X : Cx) (h0 hv hi hM hV hN : Nat) (P nr : Nat) (vl iv : Nat → Nat) (hiv : ∀ p, p < 6 → iv p < 16) (g0 hR gc gg gn gt tk : Nat) (gl : Int32) (wV wN : Nat) (fV fN : Nat → Int64) (VS NSs : Nat → Bool) (hfV : RS fV VS) (hfN : RS fN NSs) (ak : Int64) (nk : Nat) (hak0 : bL ak 0 = false) : CtI l X (TY X) y_Ge_countGoals cw_Ge_countGoals ({ frames := 5, cells := 0, slots := 0, locals := 122 } : Room) [.ref g0] [(g0, .inr (4, [.ref h0, .ref hR, .ref gc, .ref gg, .ref gn, .ref gt, .int (nI tk), .int gl])), (h0, .inr (2, [.ref hv, .ref hi, .ref hM, .ref hV, .ref hN, .int (nI P), .int (nI nr)])), (hi, .inl (X.2 0, 6, .inl (ia iv))), (hV, .inr (0, [.ref wV])), (wV, .inl (X.2 1, 64, .inr (.inl fV))), (hN, .inr (0, [.ref wN])), (wN, .inl (X.2 1, 64, .inr (.inl fN))), (hR, .inr (1, [.long ak, .int (nI nk)]))] (S := Unit) (fun r _ => r = nI (sumN (gsF iv VS NSs (bL ak)) 64)) (fun _ => [(g0, .inr (4, [.ref h0, .ref hR, .ref gc, .ref gg, .ref gn, .ref gt, .int (nI tk), .int gl])), (h0, .inr (2, [.ref hv, .ref hi, .ref hM, .ref hV, .ref hN, .int (nI P), .int (nI nr)])), (hi, .inl (X.2 0, 6, .inl (ia iv))), (hV, .inr (0, [.ref wV])), (wV, .inl (X.2 1, 64, .inr (.inl fV))), (hN, .inr (0, [.ref wN])), (wN, .inl (X.2 1, 64, .inr (.inl fN))), (hR, .inr (1, [.long ak, .int (nI nk)]))]) 0 0 := by
  refine metI (by decide) (Nat.le_of_ble_eq_true rfl) ?_
  intro p e s m below meth c A ls hB hl
  obtain ⟨hx, hb, hr, hml, hown, hlk, hin, hg, hA, hD, hP, hE⟩ := hB
  have hS : va_S A s.heap s.heap [] := va_S.rf
  have hl : lv_has ls 5 [(0, .ref g0)] := hl
  refine lv_aload_n hx hb d_Ge_countGoals_0 rfl (lv_at hl 0 rfl) ?_
  refine va_get (D := X.1) (ci := 4) (v := .ref hR) (C := R_Ge) (T := F_Ge) (N := 8) hx hb hg in_Ge hown hE.1 hP 0 rfl rfl 1 (by decide) (hg _ m_135) (fun _ h9 => h9) rfl d_Ge_countGoals_1 ?_
  refine lv_iconst (v := nI 0) hx hb d_Ge_countGoals_4 (by decide) ?_
  refine clVL (n := 1) (As := [.int (nI 0)]) (rest := []) (wc := [(hR, .inr (1, [.long ak, .int (nI nk)]))]) (wr := [(g0, .inr (4, [.ref h0, .ref hR, .ref gc, .ref gg, .ref gn, .ref gt, .int (nI tk), .int gl])), (h0, .inr (2, [.ref hv, .ref hi, .ref hM, .ref hV, .ref hN, .int (nI P), .int (nI nr)])), (hi, .inl (X.2 0, 6, .inl (ia iv))), (hV, .inr (0, [.ref wV])), (wV, .inl (X.2 1, 64, .inr (.inl fV))), (hN, .inr (0, [.ref wN])), (wN, .inl (X.2 1, 64, .inr (.inl fN)))]) hx hb hml hown hg hE hA hP hD hS (k_Re_askedWith l X hR ak nk 0 (by decide)) (gcons m_316 (gcons m_317 (gcons m_318 (gcons m_5 (gcons m_319 gG))))) (by decide +kernel) [7] [0, 1, 2, 3, 4, 5, 6] rfl rfl (by decide) (by decide) (by decide) 0 rfl rfl rfl hl.1 (Nat.le_of_ble_eq_true rfl) rfl d_Ge_countGoals_5 ⟨rfl, rfl, Nat.le_of_ble_eq_true rfl, Nat.le_of_ble_eq_true rfl⟩ (⟨Nat.le_of_ble_eq_true rfl, Nat.le_of_ble_eq_true rfl⟩) (fun aw u5 H locs haw hP hD hS => ?_)
  have hP : va_P X.1 classes [(g0, .inr (4, [.ref h0, .ref hR, .ref gc, .ref gg, .ref gn, .ref gt, .int (nI tk), .int gl])), (h0, .inr (2, [.ref hv, .ref hi, .ref hM, .ref hV, .ref hN, .int (nI P), .int (nI nr)])), (hi, .inl (X.2 0, 6, .inl (ia iv))), (hV, .inr (0, [.ref wV])), (wV, .inl (X.2 1, 64, .inr (.inl fV))), (hN, .inr (0, [.ref wN])), (wN, .inl (X.2 1, 64, .inr (.inl fN))), (hR, .inr (1, [.long ak, .int (nI nk)]))] H := hP
  have hD : va_D A [(g0, .inr (4, [.ref h0, .ref hR, .ref gc, .ref gg, .ref gn, .ref gt, .int (nI tk), .int gl])), (h0, .inr (2, [.ref hv, .ref hi, .ref hM, .ref hV, .ref hN, .int (nI P), .int (nI nr)])), (hi, .inl (X.2 0, 6, .inl (ia iv))), (hV, .inr (0, [.ref wV])), (wV, .inl (X.2 1, 64, .inr (.inl fV))), (hN, .inr (0, [.ref wN])), (wN, .inl (X.2 1, 64, .inr (.inl fN))), (hR, .inr (1, [.long ak, .int (nI nk)]))] := hD
  refine lv_lstore_n hx hb d_Ge_countGoals_8 rfl hl (by decide) rfl (fun ls hl => ?_)
  have hl : lv_has ls 5 [(1, .long aw), (0, .ref g0)] := hl
  refine lv_iconst (v := nI 0) hx hb d_Ge_countGoals_9 (by decide) ?_
  refine topI (y := nI (sumN (gsF iv VS NSs (bL ak)) 1)) (by rw [gs_f hak0]; rfl) ?_
  refine lv_istore_n hx hb d_Ge_countGoals_10 rfl hl (by decide) rfl (fun ls hl => ?_)
  have hl : lv_has ls 5 [(3, .int (nI (sumN (gsF iv VS NSs (bL ak)) 1))), (1, .long aw), (0, .ref g0)] := hl
  refine lv_iconst (v := nI 1) hx hb d_Ge_countGoals_11 (by decide) ?_
  refine lv_istore hx hb d_Ge_countGoals_12 hl (by decide) rfl (fun ls hl => ?_)
  have hl : lv_has ls 5 [(4, .int (nI 1)), (3, .int (nI (sumN (gsF iv VS NSs (bL ak)) 1))), (1, .long aw), (0, .ref g0)] := hl
  refine wLoop (nL := 5) (σ := (Nat)) (fun i => 64 - i) (fun i => 1 ≤ i ∧ i ≤ 64) (fun i => [(g0, .inr (4, [.ref h0, .ref hR, .ref gc, .ref gg, .ref gn, .ref gt, .int (nI tk), .int gl])), (h0, .inr (2, [.ref hv, .ref hi, .ref hM, .ref hV, .ref hN, .int (nI P), .int (nI nr)])), (hi, .inl (X.2 0, 6, .inl (ia iv))), (hV, .inr (0, [.ref wV])), (wV, .inl (X.2 1, 64, .inr (.inl fV))), (hN, .inr (0, [.ref wN])), (wN, .inl (X.2 1, 64, .inr (.inl fN))), (hR, .inr (1, [.long ak, .int (nI nk)]))]) (fun i => [(0, .ref g0), (1, .long aw), (3, .int (nI (sumN (gsF iv VS NSs (bL ak)) i))), (4, .int (nI i))]) ?_ 1 (⟨by omega, by omega⟩) hP hD hS (lv_sub hl [3, 2, 1, 0] rfl)
  rintro i H locs ls hJ hP hD hS hl ih14
  have hJ : 1 ≤ i ∧ i ≤ 64 := hJ
  obtain ⟨hi1, hi64⟩ := hJ
  have hP : va_P X.1 classes [(g0, .inr (4, [.ref h0, .ref hR, .ref gc, .ref gg, .ref gn, .ref gt, .int (nI tk), .int gl])), (h0, .inr (2, [.ref hv, .ref hi, .ref hM, .ref hV, .ref hN, .int (nI P), .int (nI nr)])), (hi, .inl (X.2 0, 6, .inl (ia iv))), (hV, .inr (0, [.ref wV])), (wV, .inl (X.2 1, 64, .inr (.inl fV))), (hN, .inr (0, [.ref wN])), (wN, .inl (X.2 1, 64, .inr (.inl fN))), (hR, .inr (1, [.long ak, .int (nI nk)]))] H := hP
  have hD : va_D A [(g0, .inr (4, [.ref h0, .ref hR, .ref gc, .ref gg, .ref gn, .ref gt, .int (nI tk), .int gl])), (h0, .inr (2, [.ref hv, .ref hi, .ref hM, .ref hV, .ref hN, .int (nI P), .int (nI nr)])), (hi, .inl (X.2 0, 6, .inl (ia iv))), (hV, .inr (0, [.ref wV])), (wV, .inl (X.2 1, 64, .inr (.inl fV))), (hN, .inr (0, [.ref wN])), (wN, .inl (X.2 1, 64, .inr (.inl fN))), (hR, .inr (1, [.long ak, .int (nI nk)]))] := hD
  have hl : lv_has ls 5 [(0, .ref g0), (1, .long aw), (3, .int (nI (sumN (gsF iv VS NSs (bL ak)) i))), (4, .int (nI i))] := hl
  refine lv_iload hx hb d_Ge_countGoals_14 (lv_at hl 3 rfl) ?_
  refine lv_bipush (v := nI 64) hx hb d_Ge_countGoals_16 (by decide) ?_
  refine lv_icmp_ge (tgt := 50) hx hb d_Ge_countGoals_18 (by decide) (fun hc18 => ?_) (fun hc18 => ?_)
  · rw [nI_leI (by omega) (by omega)] at hc18
    obtain rfl : i = 64 := by omega
    refine lv_iload_n hx hb d_Ge_countGoals_50 rfl (lv_at hl 2 rfl) ?_
    exact retI (u := ()) hx hb hr hlk hP hD hS (rfl) d_Ge_countGoals_51
  · rw [nI_leI (by omega) (by omega)] at hc18
    refine lv_lload_n hx hb d_Ge_countGoals_21 rfl (lv_at hl 1 rfl) ?_
    refine lv_iload hx hb d_Ge_countGoals_22 (lv_at hl 3 rfl) ?_
    refine lv_lushr hx hb d_Ge_countGoals_24 rfl ?_
    refine lv_lconst (v := 1) hx hb d_Ge_countGoals_25 (by decide) ?_
    refine lv_land hx hb d_Ge_countGoals_26 ?_
    refine lv_lconst (v := 0) hx hb d_Ge_countGoals_27 (by decide) ?_
    refine W.lcmp hx hb d_Ge_countGoals_28 ?_
    refine lv_if_eq (tgt := 44) hx hb d_Ge_countGoals_29 (by decide) (fun hc29 => ?_) (fun hc29 => ?_)
    · rw [(lcz.trans (bit_at _ (by omega)))] at hc29
      rw [haw i (by omega), sub_0, Bool.and_true] at hc29
      have hl : lv_has ls 5 [(0, .ref g0), (1, .long aw), (3, .int (nI (sumN (gsF iv VS NSs (bL ak)) (i + 1)))), (4, .int (nI i))] := by rw [gs_f hc29]; exact hl
      refine lv_iinc (k := 3) (v := nI (i + 1)) hx hb d_Ge_countGoals_44 hl rfl (nI_1 _) (by decide) rfl (fun ls hl => ?_)
      have hl : lv_has ls 5 [(4, .int (nI (i + 1))), (0, .ref g0), (1, .long aw), (3, .int (nI (sumN (gsF iv VS NSs (bL ak)) (i + 1))))] := hl
      refine lv_goto (tgt := 14) hx hb d_Ge_countGoals_47 (by decide) ?_
      exact ih14 (i + 1) H locs ls (by (try dsimp only); omega) (⟨by (try dsimp only); omega, by (try dsimp only); omega⟩) hP hD hS (lv_sub hl [1, 2, 3, 0] rfl)
    · rw [(lcz.trans (bit_at _ (by omega)))] at hc29
      rw [haw i (by omega), sub_0, Bool.and_true] at hc29
      refine lv_iload_n hx hb d_Ge_countGoals_32 rfl (lv_at hl 2 rfl) ?_
      refine lv_aload_n hx hb d_Ge_countGoals_33 rfl (lv_at hl 0 rfl) ?_
      refine lv_iload hx hb d_Ge_countGoals_34 (lv_at hl 3 rfl) ?_
      refine clSNI (n := 1) (As := [.int (nI i)]) (rest := [.ref g0, .int (nI (sumN (gsF iv VS NSs (bL ak)) i))]) (wc := []) (wr := [(g0, .inr (4, [.ref h0, .ref hR, .ref gc, .ref gg, .ref gn, .ref gt, .int (nI tk), .int gl])), (h0, .inr (2, [.ref hv, .ref hi, .ref hM, .ref hV, .ref hN, .int (nI P), .int (nI nr)])), (hi, .inl (X.2 0, 6, .inl (ia iv))), (hV, .inr (0, [.ref wV])), (wV, .inl (X.2 1, 64, .inr (.inl fV))), (hN, .inr (0, [.ref wN])), (wN, .inl (X.2 1, 64, .inr (.inl fN))), (hR, .inr (1, [.long ak, .int (nI nk)]))]) hx hb hml hown hg hE hA hP hD hS (k_CR_fieldsOf l X i (by omega)) m_324 m_323 m_1 (nw_7 hE.2.1) (by decide +kernel) [] [0, 1, 2, 3, 4, 5, 6, 7] rfl rfl (by decide) (by decide) (by decide) rfl hl.1 (Nat.le_of_ble_eq_true rfl) rfl d_Ge_countGoals_36 ⟨rfl, rfl, Nat.le_of_ble_eq_true rfl, Nat.le_of_ble_eq_true rfl⟩ (⟨Nat.le_of_ble_eq_true rfl, Nat.le_of_ble_eq_true rfl⟩) (fun r36 u36 H locs hq36 hP hD hS => ?_)
      have hq36 : r36 = nI (fo i 6) := hq36
      subst hq36
      have hP : va_P X.1 classes [(g0, .inr (4, [.ref h0, .ref hR, .ref gc, .ref gg, .ref gn, .ref gt, .int (nI tk), .int gl])), (h0, .inr (2, [.ref hv, .ref hi, .ref hM, .ref hV, .ref hN, .int (nI P), .int (nI nr)])), (hi, .inl (X.2 0, 6, .inl (ia iv))), (hV, .inr (0, [.ref wV])), (wV, .inl (X.2 1, 64, .inr (.inl fV))), (hN, .inr (0, [.ref wN])), (wN, .inl (X.2 1, 64, .inr (.inl fN))), (hR, .inr (1, [.long ak, .int (nI nk)]))] H := hP
      have hD : va_D A [(g0, .inr (4, [.ref h0, .ref hR, .ref gc, .ref gg, .ref gn, .ref gt, .int (nI tk), .int gl])), (h0, .inr (2, [.ref hv, .ref hi, .ref hM, .ref hV, .ref hN, .int (nI P), .int (nI nr)])), (hi, .inl (X.2 0, 6, .inl (ia iv))), (hV, .inr (0, [.ref wV])), (wV, .inl (X.2 1, 64, .inr (.inl fV))), (hN, .inr (0, [.ref wN])), (wN, .inl (X.2 1, 64, .inr (.inl fN))), (hR, .inr (1, [.long ak, .int (nI nk)]))] := hD
      refine clVI (n := 1) (As := [.int (nI (fo i 6))]) (rest := [.int (nI (sumN (gsF iv VS NSs (bL ak)) i))]) (wc := [(g0, .inr (4, [.ref h0, .ref hR, .ref gc, .ref gg, .ref gn, .ref gt, .int (nI tk), .int gl])), (h0, .inr (2, [.ref hv, .ref hi, .ref hM, .ref hV, .ref hN, .int (nI P), .int (nI nr)])), (hi, .inl (X.2 0, 6, .inl (ia iv))), (hV, .inr (0, [.ref wV])), (wV, .inl (X.2 1, 64, .inr (.inl fV))), (hN, .inr (0, [.ref wN])), (wN, .inl (X.2 1, 64, .inr (.inl fN)))]) (wr := [(hR, .inr (1, [.long ak, .int (nI nk)]))]) hx hb hml hown hg hE hA hP hD hS (k_Ge_countGoalsOf l X h0 hv hi hM hV hN P nr vl iv hiv g0 hR gc gg gn gt tk gl wV wN fV fN VS NSs hfV hfN i (by omega)) (gcons m_325 (gcons m_327 (gcons ms_Ge_countGoalsOf (gcons m_7 (gcons m_328 gG))))) (by decide +kernel) [0, 1, 2, 3, 4, 5, 6] [7] rfl rfl (by decide) (by decide) (by decide) 0 rfl rfl rfl hl.1 (Nat.le_of_ble_eq_true rfl) rfl d_Ge_countGoals_39 ⟨rfl, rfl, Nat.le_of_ble_eq_true rfl, Nat.le_of_ble_eq_true rfl⟩ (⟨Nat.le_of_ble_eq_true rfl, Nat.le_of_ble_eq_true rfl⟩) (fun r39 u39 H locs hq39 hP hD hS => ?_)
      have hq39 : r39 = nI (cB (glF iv VS NSs i) (4 ^ cn i 6)) := hq39
      subst hq39
      have hP := hP.sub (ws' := [(g0, .inr (4, [.ref h0, .ref hR, .ref gc, .ref gg, .ref gn, .ref gt, .int (nI tk), .int gl])), (h0, .inr (2, [.ref hv, .ref hi, .ref hM, .ref hV, .ref hN, .int (nI P), .int (nI nr)])), (hi, .inl (X.2 0, 6, .inl (ia iv))), (hV, .inr (0, [.ref wV])), (wV, .inl (X.2 1, 64, .inr (.inl fV))), (hN, .inr (0, [.ref wN])), (wN, .inl (X.2 1, 64, .inr (.inl fN))), (hR, .inr (1, [.long ak, .int (nI nk)]))]) [1, 2, 3, 4, 5, 6, 7, 0] rfl
      have hD := hD.sub (ws' := [(g0, .inr (4, [.ref h0, .ref hR, .ref gc, .ref gg, .ref gn, .ref gt, .int (nI tk), .int gl])), (h0, .inr (2, [.ref hv, .ref hi, .ref hM, .ref hV, .ref hN, .int (nI P), .int (nI nr)])), (hi, .inl (X.2 0, 6, .inl (ia iv))), (hV, .inr (0, [.ref wV])), (wV, .inl (X.2 1, 64, .inr (.inl fV))), (hN, .inr (0, [.ref wN])), (wN, .inl (X.2 1, 64, .inr (.inl fN))), (hR, .inr (1, [.long ak, .int (nI nk)]))]) [1, 2, 3, 4, 5, 6, 7, 0] (by decide) rfl
      refine lv_iadd hx hb d_Ge_countGoals_42 ?_
      refine topI (y := nI (sumN (gsF iv VS NSs (bL ak)) (i + 1))) ((nI_add _ _).trans (gs_t hc29)) ?_
      refine lv_istore_n hx hb d_Ge_countGoals_43 rfl hl (by decide) rfl (fun ls hl => ?_)
      have hl : lv_has ls 5 [(3, .int (nI (sumN (gsF iv VS NSs (bL ak)) (i + 1)))), (0, .ref g0), (1, .long aw), (4, .int (nI i))] := hl
      refine lv_iinc (k := 3) (v := nI (i + 1)) hx hb d_Ge_countGoals_44 hl rfl (nI_1 _) (by decide) rfl (fun ls hl => ?_)
      have hl : lv_has ls 5 [(4, .int (nI (i + 1))), (3, .int (nI (sumN (gsF iv VS NSs (bL ak)) (i + 1)))), (0, .ref g0), (1, .long aw)] := hl
      refine lv_goto (tgt := 14) hx hb d_Ge_countGoals_47 (by decide) ?_
      exact ih14 (i + 1) H locs ls (by (try dsimp only); omega) (⟨by (try dsimp only); omega, by (try dsimp only); omega⟩) hP hD hS (lv_sub hl [2, 3, 1, 0] rfl)
