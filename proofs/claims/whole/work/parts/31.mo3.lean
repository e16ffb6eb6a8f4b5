set_option maxHeartbeats 4000000 in
set_option maxRecDepth 100000 in
theorem k_Mo_take (l : Launch) (X : Cx) (m0 aV aB aRS aRT aO aA aBt aD aT aS aR aE aK aIV aIN aOp aRw aGn : Nat) (P nk nr ns : Nat) (oP : Int32) (tk : Nat) (oA : Int32) (T : TS) (fr on : Bool) (vl iv : Nat → Nat) (hP6 : P ≤ 6) (hvl : ∀ p, p < 6 → 1 ≤ vl p ∧ vl p ≤ 4) (kf : Nat → Int32) (opf : Nat → Bool) (hop0 : opf 0 = false) (rr : Nat) (hr4 : rr < 4096) (kr : Int32) (hkr : kf rr = kr) (rws gds : Nat → Nat) (htk : tk < 528) : CtV l X (TY X) y_Mo_take cw_Mo_take ({ frames := 2, cells := 0, slots := 0, locals := 52 } : Room) [.ref m0, .int (nI rr)] [(m0, .inr (6, [.int (nI P), .ref aV, .ref aB, .int (nI nk), .ref aRS, .ref aRT, .int (nI T.2.2.2.2.2.2), .ref aO, .ref aA, .ref aBt, .ref aD, .ref aT, .int (nI T.2.2.2.2.2.1), .ref aS, .int (nI nr), .ref aR, .int (nI ns), .ref aE, .int (bI fr), .ref aK, .ref aIV, .ref aIN, .int (bI on), .ref aOp, .int oP, .int oA, .int (nI tk), .ref aRw, .ref aGn])), (aV, .inl (X.2 0, 6, .inl (ia (rv P vl)))), (aB, .inl (X.2 2, 24, .inl (ba (bdF iv)))), (aK, .inl (X.2 3, 4096, .inl kf)), (aOp, .inl (X.2 2, 4096, .inl (ba opf))), (aRw, .inl (X.2 4, 528, .inl (ia rws))), (aGn, .inl (X.2 4, 528, .inl (ia gds)))] (S := Nat → Bool) (fun u => opI vl iv kr opf rr (2 ^ P) u) (fun u => [(m0, .inr (6, [.int (nI P), .ref aV, .ref aB, .int (nI nk), .ref aRS, .ref aRT, .int (nI T.2.2.2.2.2.2), .ref aO, .ref aA, .ref aBt, .ref aD, .ref aT, .int (nI T.2.2.2.2.2.1), .ref aS, .int (nI nr), .ref aR, .int (nI ns), .ref aE, .int (bI fr), .ref aK, .ref aIV, .ref aIN, .int (bI on), .ref aOp, .int (oP - nI (cB (plB vl iv kr opf rr) (2 ^ P))), .int (oA - nI (cB (cnB vl iv kr opf rr) (2 ^ P))), .int (nI (tk + 1)), .ref aRw, .ref aGn])), (aV, .inl (X.2 0, 6, .inl (ia (rv P vl)))), (aB, .inl (X.2 2, 24, .inl (ba (bdF iv)))), (aK, .inl (X.2 3, 4096, .inl kf)), (aOp, .inl (X.2 2, 4096, .inl (ba u))), (aRw, .inl (X.2 4, 528, .inl (ia (upN rws tk rr)))), (aGn, .inl (X.2 4, 528, .inl (ia (upN gds tk (cB (cnB vl iv kr opf rr) (2 ^ P))))))]) 0 0 := by
  refine metV (by decide) (Nat.le_of_ble_eq_true rfl) ?_
  intro p e s m below meth c A ls hB hl
  obtain ⟨hx, hb, hr, hml, hown, hlk, hin, hg, hA, hD, hP, hE⟩ := hB
  have hS : va_S A s.heap s.heap [] := va_S.rf
  have hl : lv_has ls 2 [(0, .ref m0), (1, .int (nI rr))] := hl
  have h64 := pw2le hP6
  have hcb := cB_le (cnB vl iv kr opf rr) (2 ^ P)
  refine lv_aload_n hx hb d_Mo_take_0 rfl (lv_at hl 0 rfl) ?_
  refine va_get (D := X.1) (ci := 6) (v := .ref aRw) (C := R_Mo) (T := F_Mo) (N := 29) hx hb hg in_Mo hown hE.1 hP 0 rfl rfl 27 (by decide) (hg _ m_502) (fun _ h9 => h9) rfl d_Mo_take_1 ?_
  refine lv_aload_n hx hb d_Mo_take_4 rfl (lv_at hl 0 rfl) ?_
  refine va_get (D := X.1) (ci := 6) (v := .int (nI tk)) (C := R_Mo) (T := F_Mo) (N := 29) hx hb hg in_Mo hown hE.1 hP 0 rfl rfl 26 (by decide) (hg _ m_501) (fun _ h9 => h9) rfl d_Mo_take_5 ?_
  refine lv_iload_n hx hb d_Mo_take_8 rfl (lv_at hl 1 rfl) ?_
  refine lv_i2s hx hb d_Mo_take_9 rfl ?_
  refine topI (y := nI rr) (i16N hr4) ?_
  refine va_sast hx hb hE.1 hP hD hS 5 4 rfl rfl (vp_in_nI (by omega) (by decide)) d_Mo_take_10 (fun H locs hP hD hS => ?_)
  have hP : va_P X.1 classes [(m0, .inr (6, [.int (nI P), .ref aV, .ref aB, .int (nI nk), .ref aRS, .ref aRT, .int (nI T.2.2.2.2.2.2), .ref aO, .ref aA, .ref aBt, .ref aD, .ref aT, .int (nI T.2.2.2.2.2.1), .ref aS, .int (nI nr), .ref aR, .int (nI ns), .ref aE, .int (bI fr), .ref aK, .ref aIV, .ref aIN, .int (bI on), .ref aOp, .int oP, .int oA, .int (nI tk), .ref aRw, .ref aGn])), (aV, .inl (X.2 0, 6, .inl (ia (rv P vl)))), (aB, .inl (X.2 2, 24, .inl (ba (bdF iv)))), (aK, .inl (X.2 3, 4096, .inl kf)), (aOp, .inl (X.2 2, 4096, .inl (ba opf))), (aRw, .inl (X.2 4, 528, .inl (upd (ia rws) (nI tk).toNatClampNeg (vp_nar .short (nI rr))))), (aGn, .inl (X.2 4, 528, .inl (ia gds)))] H := hP
  have hD : va_D A [(m0, .inr (6, [.int (nI P), .ref aV, .ref aB, .int (nI nk), .ref aRS, .ref aRT, .int (nI T.2.2.2.2.2.2), .ref aO, .ref aA, .ref aBt, .ref aD, .ref aT, .int (nI T.2.2.2.2.2.1), .ref aS, .int (nI nr), .ref aR, .int (nI ns), .ref aE, .int (bI fr), .ref aK, .ref aIV, .ref aIN, .int (bI on), .ref aOp, .int oP, .int oA, .int (nI tk), .ref aRw, .ref aGn])), (aV, .inl (X.2 0, 6, .inl (ia (rv P vl)))), (aB, .inl (X.2 2, 24, .inl (ba (bdF iv)))), (aK, .inl (X.2 3, 4096, .inl kf)), (aOp, .inl (X.2 2, 4096, .inl (ba opf))), (aRw, .inl (X.2 4, 528, .inl (upd (ia rws) (nI tk).toNatClampNeg (vp_nar .short (nI rr))))), (aGn, .inl (X.2 4, 528, .inl (ia gds)))] := hD
  rw [nI_clamp (show tk < 2 ^ 31 by omega)] at hP hD
  have e9 : upd (ia rws) tk (vp_nar .short (nI rr)) = ia (upN rws tk rr) := upd_sh hr4
  rw [e9] at hP hD
  clear e9
  refine lv_aload_n hx hb d_Mo_take_11 rfl (lv_at hl 0 rfl) ?_
  refine va_get (D := X.1) (ci := 6) (v := .ref aGn) (C := R_Mo) (T := F_Mo) (N := 29) hx hb hg in_Mo hown hE.1 hP 0 rfl rfl 28 (by decide) (hg _ m_503) (fun _ h9 => h9) rfl d_Mo_take_12 ?_
  refine lv_aload_n hx hb d_Mo_take_15 rfl (lv_at hl 0 rfl) ?_
  refine va_get (D := X.1) (ci := 6) (v := .int (nI tk)) (C := R_Mo) (T := F_Mo) (N := 29) hx hb hg in_Mo hown hE.1 hP 0 rfl rfl 26 (by decide) (hg _ m_501) (fun _ h9 => h9) rfl d_Mo_take_16 ?_
  refine lv_aload_n hx hb d_Mo_take_19 rfl (lv_at hl 0 rfl) ?_
  refine lv_iload_n hx hb d_Mo_take_20 rfl (lv_at hl 1 rfl) ?_
  refine lv_iconst (v := nI 1) hx hb d_Mo_take_21 (by decide) ?_
  refine clVI (n := 2) (As := [.int (nI rr), .int (nI 1)]) (rest := [.int (nI tk), .ref aGn]) (wc := [(m0, .inr (6, [.int (nI P), .ref aV, .ref aB, .int (nI nk), .ref aRS, .ref aRT, .int (nI T.2.2.2.2.2.2), .ref aO, .ref aA, .ref aBt, .ref aD, .ref aT, .int (nI T.2.2.2.2.2.1), .ref aS, .int (nI nr), .ref aR, .int (nI ns), .ref aE, .int (bI fr), .ref aK, .ref aIV, .ref aIN, .int (bI on), .ref aOp, .int oP, .int oA, .int (nI tk), .ref aRw, .ref aGn])), (aV, .inl (X.2 0, 6, .inl (ia (rv P vl)))), (aB, .inl (X.2 2, 24, .inl (ba (bdF iv)))), (aK, .inl (X.2 3, 4096, .inl kf)), (aOp, .inl (X.2 2, 4096, .inl (ba opf)))]) (wr := [(aRw, .inl (X.2 4, 528, .inl (ia (upN rws tk rr)))), (aGn, .inl (X.2 4, 528, .inl (ia gds)))]) hx hb hml hown hg hE hA hP hD hS (k_Mo_countT l X m0 aV aB aRS aRT aO aA aBt aD aT aS aR aE aK aIV aIN aOp aRw aGn P nk nr ns oP tk oA T fr on vl iv hP6 hvl kf opf hop0 rr hr4 kr hkr) (gcons m_642 (gcons m_644 (gcons ms_Mo_count (gcons m_8 (gcons m_645 gG))))) (by decide +kernel) [0, 1, 2, 3, 4] [5, 6] rfl rfl (by decide) (by decide) (by decide) 0 rfl rfl rfl hl.1 (Nat.le_of_ble_eq_true rfl) rfl d_Mo_take_22 ⟨rfl, rfl, Nat.le_of_ble_eq_true rfl, Nat.le_of_ble_eq_true rfl⟩ (⟨Nat.le_of_ble_eq_true rfl, Nat.le_of_ble_eq_true rfl⟩) (fun r22 u5 H locs hq22 hP hD hS => ?_)
  obtain ⟨rfl, hop9⟩ := hq22
  have hP := hP.sub (ws' := [(m0, .inr (6, [.int (nI P), .ref aV, .ref aB, .int (nI nk), .ref aRS, .ref aRT, .int (nI T.2.2.2.2.2.2), .ref aO, .ref aA, .ref aBt, .ref aD, .ref aT, .int (nI T.2.2.2.2.2.1), .ref aS, .int (nI nr), .ref aR, .int (nI ns), .ref aE, .int (bI fr), .ref aK, .ref aIV, .ref aIN, .int (bI on), .ref aOp, .int (oP - nI (cB (plB vl iv kr opf rr) (2 ^ P))), .int (oA - nI (cB (cnB vl iv kr opf rr) (2 ^ P))), .int (nI tk), .ref aRw, .ref aGn])), (aV, .inl (X.2 0, 6, .inl (ia (rv P vl)))), (aB, .inl (X.2 2, 24, .inl (ba (bdF iv)))), (aK, .inl (X.2 3, 4096, .inl kf)), (aOp, .inl (X.2 2, 4096, .inl (ba u5))), (aRw, .inl (X.2 4, 528, .inl (ia (upN rws tk rr)))), (aGn, .inl (X.2 4, 528, .inl (ia gds)))]) [2, 3, 4, 5, 6, 0, 1] rfl
  have hD := hD.sub (ws' := [(m0, .inr (6, [.int (nI P), .ref aV, .ref aB, .int (nI nk), .ref aRS, .ref aRT, .int (nI T.2.2.2.2.2.2), .ref aO, .ref aA, .ref aBt, .ref aD, .ref aT, .int (nI T.2.2.2.2.2.1), .ref aS, .int (nI nr), .ref aR, .int (nI ns), .ref aE, .int (bI fr), .ref aK, .ref aIV, .ref aIN, .int (bI on), .ref aOp, .int (oP - nI (cB (plB vl iv kr opf rr) (2 ^ P))), .int (oA - nI (cB (cnB vl iv kr opf rr) (2 ^ P))), .int (nI tk), .ref aRw, .ref aGn])), (aV, .inl (X.2 0, 6, .inl (ia (rv P vl)))), (aB, .inl (X.2 2, 24, .inl (ba (bdF iv)))), (aK, .inl (X.2 3, 4096, .inl kf)), (aOp, .inl (X.2 2, 4096, .inl (ba u5))), (aRw, .inl (X.2 4, 528, .inl (ia (upN rws tk rr)))), (aGn, .inl (X.2 4, 528, .inl (ia gds)))]) [2, 3, 4, 5, 6, 0, 1] (by decide) rfl
  refine lv_i2s hx hb d_Mo_take_25 rfl ?_
  refine topI (y := nI (cB (cnB vl iv kr opf rr) (2 ^ P))) (i16N (by omega)) ?_
  refine va_sast hx hb hE.1 hP hD hS 6 4 rfl rfl (vp_in_nI (by omega) (by decide)) d_Mo_take_26 (fun H locs hP hD hS => ?_)
  have hP : va_P X.1 classes [(m0, .inr (6, [.int (nI P), .ref aV, .ref aB, .int (nI nk), .ref aRS, .ref aRT, .int (nI T.2.2.2.2.2.2), .ref aO, .ref aA, .ref aBt, .ref aD, .ref aT, .int (nI T.2.2.2.2.2.1), .ref aS, .int (nI nr), .ref aR, .int (nI ns), .ref aE, .int (bI fr), .ref aK, .ref aIV, .ref aIN, .int (bI on), .ref aOp, .int (oP - nI (cB (plB vl iv kr opf rr) (2 ^ P))), .int (oA - nI (cB (cnB vl iv kr opf rr) (2 ^ P))), .int (nI tk), .ref aRw, .ref aGn])), (aV, .inl (X.2 0, 6, .inl (ia (rv P vl)))), (aB, .inl (X.2 2, 24, .inl (ba (bdF iv)))), (aK, .inl (X.2 3, 4096, .inl kf)), (aOp, .inl (X.2 2, 4096, .inl (ba u5))), (aRw, .inl (X.2 4, 528, .inl (ia (upN rws tk rr)))), (aGn, .inl (X.2 4, 528, .inl (upd (ia gds) (nI tk).toNatClampNeg (vp_nar .short (nI (cB (cnB vl iv kr opf rr) (2 ^ P)))))))] H := hP
  have hD : va_D A [(m0, .inr (6, [.int (nI P), .ref aV, .ref aB, .int (nI nk), .ref aRS, .ref aRT, .int (nI T.2.2.2.2.2.2), .ref aO, .ref aA, .ref aBt, .ref aD, .ref aT, .int (nI T.2.2.2.2.2.1), .ref aS, .int (nI nr), .ref aR, .int (nI ns), .ref aE, .int (bI fr), .ref aK, .ref aIV, .ref aIN, .int (bI on), .ref aOp, .int (oP - nI (cB (plB vl iv kr opf rr) (2 ^ P))), .int (oA - nI (cB (cnB vl iv kr opf rr) (2 ^ P))), .int (nI tk), .ref aRw, .ref aGn])), (aV, .inl (X.2 0, 6, .inl (ia (rv P vl)))), (aB, .inl (X.2 2, 24, .inl (ba (bdF iv)))), (aK, .inl (X.2 3, 4096, .inl kf)), (aOp, .inl (X.2 2, 4096, .inl (ba u5))), (aRw, .inl (X.2 4, 528, .inl (ia (upN rws tk rr)))), (aGn, .inl (X.2 4, 528, .inl (upd (ia gds) (nI tk).toNatClampNeg (vp_nar .short (nI (cB (cnB vl iv kr opf rr) (2 ^ P)))))))] := hD
  rw [nI_clamp (show tk < 2 ^ 31 by omega)] at hP hD
  have e9 : upd (ia gds) tk (vp_nar .short (nI (cB (cnB vl iv kr opf rr) (2 ^ P)))) = ia (upN gds tk (cB (cnB vl iv kr opf rr) (2 ^ P))) := upd_sh (by omega)
  rw [e9] at hP hD
  clear e9
  refine lv_aload_n hx hb d_Mo_take_27 rfl (lv_at hl 0 rfl) ?_
  refine lv_dup hx hb d_Mo_take_28 rfl ?_
  refine va_get (D := X.1) (ci := 6) (v := .int (nI tk)) (C := R_Mo) (T := F_Mo) (N := 29) hx hb hg in_Mo hown hE.1 hP 0 rfl rfl 26 (by decide) (hg _ m_501) (fun _ h9 => h9) rfl d_Mo_take_29 ?_
  refine lv_iconst (v := nI 1) hx hb d_Mo_take_32 (by decide) ?_
  refine lv_iadd hx hb d_Mo_take_33 ?_
  refine topI (nI_add _ _) ?_
  refine va_put (D := X.1) (ci := 6) (v := .int (nI (tk + 1))) (ty := .int) (C := R_Mo) (T := F_Mo) (N := 29) hx hb hg in_Mo t_Mo t_Mo_ok n_Mo hown hE.1 hP hD hS 0 rfl rfl 26 (by decide) (hg _ m_501) (fun _ h9 => h9) rfl (by decide +kernel) rfl rfl (Nat.le_of_ble_eq_true rfl) d_Mo_take_34 (fun H locs hP hD hS => ?_)
  have hP : va_P X.1 classes [(m0, .inr (6, [.int (nI P), .ref aV, .ref aB, .int (nI nk), .ref aRS, .ref aRT, .int (nI T.2.2.2.2.2.2), .ref aO, .ref aA, .ref aBt, .ref aD, .ref aT, .int (nI T.2.2.2.2.2.1), .ref aS, .int (nI nr), .ref aR, .int (nI ns), .ref aE, .int (bI fr), .ref aK, .ref aIV, .ref aIN, .int (bI on), .ref aOp, .int (oP - nI (cB (plB vl iv kr opf rr) (2 ^ P))), .int (oA - nI (cB (cnB vl iv kr opf rr) (2 ^ P))), .int (nI (tk + 1)), .ref aRw, .ref aGn])), (aV, .inl (X.2 0, 6, .inl (ia (rv P vl)))), (aB, .inl (X.2 2, 24, .inl (ba (bdF iv)))), (aK, .inl (X.2 3, 4096, .inl kf)), (aOp, .inl (X.2 2, 4096, .inl (ba u5))), (aRw, .inl (X.2 4, 528, .inl (ia (upN rws tk rr)))), (aGn, .inl (X.2 4, 528, .inl (ia (upN gds tk (cB (cnB vl iv kr opf rr) (2 ^ P))))))] H := hP
  have hD : va_D A [(m0, .inr (6, [.int (nI P), .ref aV, .ref aB, .int (nI nk), .ref aRS, .ref aRT, .int (nI T.2.2.2.2.2.2), .ref aO, .ref aA, .ref aBt, .ref aD, .ref aT, .int (nI T.2.2.2.2.2.1), .ref aS, .int (nI nr), .ref aR, .int (nI ns), .ref aE, .int (bI fr), .ref aK, .ref aIV, .ref aIN, .int (bI on), .ref aOp, .int (oP - nI (cB (plB vl iv kr opf rr) (2 ^ P))), .int (oA - nI (cB (cnB vl iv kr opf rr) (2 ^ P))), .int (nI (tk + 1)), .ref aRw, .ref aGn])), (aV, .inl (X.2 0, 6, .inl (ia (rv P vl)))), (aB, .inl (X.2 2, 24, .inl (ba (bdF iv)))), (aK, .inl (X.2 3, 4096, .inl kf)), (aOp, .inl (X.2 2, 4096, .inl (ba u5))), (aRw, .inl (X.2 4, 528, .inl (ia (upN rws tk rr)))), (aGn, .inl (X.2 4, 528, .inl (ia (upN gds tk (cB (cnB vl iv kr opf rr) (2 ^ P))))))] := hD
  exact retV (u := u5) hx hb hr hlk hP hD hS (hop9) d_Mo_take_37
set_option maxHeartbeats 4000000 in
set_option maxRecDepth 100000 in
theorem k_Mo_gain (l : Launch) (X : Cx) (m0 aV aB aRS aRT aO aA aBt aD aT aS aR aE aK aIV aIN aOp aRw aGn : Nat) (P nk nr ns : Nat) (oP : Int32) (tk : Nat) (oA : Int32) (T : TS) (fr on : Bool) (vl iv : Nat → Nat) (hP6 : P ≤ 6) (hvl : ∀ p, p < 6 → 1 ≤ vl p ∧ vl p ≤ 4) (kf : Nat → Int32) (opf : Nat → Bool) (hop0 : opf 0 = false) (x : Int32) : CtI l X (TY X) y_Mo_gain cw_Mo_gain ({ frames := 2, cells := 0, slots := 0, locals := 52 } : Room) [.ref m0, .int x] [(m0, .inr (6, [.int (nI P), .ref aV, .ref aB, .int (nI nk), .ref aRS, .ref aRT, .int (nI T.2.2.2.2.2.2), .ref aO, .ref aA, .ref aBt, .ref aD, .ref aT, .int (nI T.2.2.2.2.2.1), .ref aS, .int (nI nr), .ref aR, .int (nI ns), .ref aE, .int (bI fr), .ref aK, .ref aIV, .ref aIN, .int (bI on), .ref aOp, .int oP, .int oA, .int (nI tk), .ref aRw, .ref aGn])), (aV, .inl (X.2 0, 6, .inl (ia (rv P vl)))), (aB, .inl (X.2 2, 24, .inl (ba (bdF iv)))), (aK, .inl (X.2 3, 4096, .inl kf)), (aOp, .inl (X.2 2, 4096, .inl (ba opf)))] (S := Unit) (fun r _ => r = gaR on kf (fun r9 => cB (cnB vl iv (kf r9) opf r9) (2 ^ P)) x) (fun _ => [(m0, .inr (6, [.int (nI P), .ref aV, .ref aB, .int (nI nk), .ref aRS, .ref aRT, .int (nI T.2.2.2.2.2.2), .ref aO, .ref aA, .ref aBt, .ref aD, .ref aT, .int (nI T.2.2.2.2.2.1), .ref aS, .int (nI nr), .ref aR, .int (nI ns), .ref aE, .int (bI fr), .ref aK, .ref aIV, .ref aIN, .int (bI on), .ref aOp, .int oP, .int oA, .int (nI tk), .ref aRw, .ref aGn])), (aV, .inl (X.2 0, 6, .inl (ia (rv P vl)))), (aB, .inl (X.2 2, 24, .inl (ba (bdF iv)))), (aK, .inl (X.2 3, 4096, .inl kf)), (aOp, .inl (X.2 2, 4096, .inl (ba opf)))]) 0 0 := by
  refine metI (by decide) (Nat.le_of_ble_eq_true rfl) ?_
  intro p e s m below meth c A ls hB hl
  obtain ⟨hx, hb, hr, hml, hown, hlk, hin, hg, hA, hD, hP, hE⟩ := hB
  have hS : va_S A s.heap s.heap [] := va_S.rf
  have hl : lv_has ls 2 [(0, .ref m0), (1, .int x)] := hl
  refine lv_aload_n hx hb d_Mo_gain_0 rfl (lv_at hl 0 rfl) ?_
  refine va_get (D := X.1) (ci := 6) (v := .int (bI on)) (C := R_Mo) (T := F_Mo) (N := 29) hx hb hg in_Mo hown hE.1 hP 0 rfl rfl 22 (by decide) (hg _ m_497) (fun _ h9 => h9) rfl d_Mo_gain_1 ?_
  refine lv_if_ne (tgt := 9) hx hb d_Mo_gain_4 (by decide) (fun hc4 => ?_) (fun hc4 => ?_)
  · rw [bI_z] at hc4
    refine lv_iload_n hx hb d_Mo_gain_9 rfl (lv_at hl 1 rfl) ?_
    refine lv_if_lt (tgt := 29) hx hb d_Mo_gain_10 (by decide) (fun hc10 => ?_) (fun hc10 => ?_)
    · refine lv_bipush (v := (-2)) hx hb d_Mo_gain_29 (by decide) ?_
      refine lv_goto (tgt := 40) hx hb d_Mo_gain_31 (by decide) ?_
      exact retI (u := ()) hx hb hr hlk hP hD hS (by first | exact gr_a hc4 hc10 | exact gr_b hc4 hc17 | exact gr_c (g := (fun r9 => cB (cnB vl iv (kf r9) opf r9) (2 ^ P))) hc4 hn4 hc26) d_Mo_gain_40
    · refine lv_iload_n hx hb d_Mo_gain_13 rfl (lv_at hl 1 rfl) ?_
      refine lv_sipush (v := nI 4095) hx hb d_Mo_gain_14 (by decide) ?_
      refine lv_icmp_gt (tgt := 29) hx hb d_Mo_gain_17 (by decide) (fun hc17 => ?_) (fun hc17 => ?_)
      · refine lv_bipush (v := (-2)) hx hb d_Mo_gain_29 (by decide) ?_
        refine lv_goto (tgt := 40) hx hb d_Mo_gain_31 (by decide) ?_
        exact retI (u := ()) hx hb hr hlk hP hD hS (by first | exact gr_a hc4 hc10 | exact gr_b hc4 hc17 | exact gr_c (g := (fun r9 => cB (cnB vl iv (kf r9) opf r9) (2 ^ P))) hc4 hn4 hc26) d_Mo_gain_40
      · obtain ⟨n, hn4, rfl⟩ := kn_of2 hc10 hc17
        refine lv_aload_n hx hb d_Mo_gain_20 rfl (lv_at hl 0 rfl) ?_
        refine va_get (D := X.1) (ci := 6) (v := .ref aK) (C := R_Mo) (T := F_Mo) (N := 29) hx hb hg in_Mo hown hE.1 hP 0 rfl rfl 19 (by decide) (hg _ m_494) (fun _ h9 => h9) rfl d_Mo_gain_21 ?_
        refine lv_iload_n hx hb d_Mo_gain_24 rfl (lv_at hl 1 rfl) ?_
        refine va_bald hx hb hE.1 hP 3 3 rfl rfl (vp_in_nI (by omega) (by decide)) d_Mo_gain_25 ?_
        refine topI (y := kf n) (by rw [nI_clamp (by omega)]) ?_
        refine topI (y := kf n) (rfl) ?_
        refine lv_if_gt (tgt := 34) hx hb d_Mo_gain_26 (by decide) (fun hc26 => ?_) (fun hc26 => ?_)
        · refine lv_aload_n hx hb d_Mo_gain_34 rfl (lv_at hl 0 rfl) ?_
          refine lv_iload_n hx hb d_Mo_gain_35 rfl (lv_at hl 1 rfl) ?_
          refine lv_iconst (v := nI 0) hx hb d_Mo_gain_36 (by decide) ?_
          refine clVI (n := 2) (As := [.int (nI n), .int (nI 0)]) (rest := []) (wc := [(m0, .inr (6, [.int (nI P), .ref aV, .ref aB, .int (nI nk), .ref aRS, .ref aRT, .int (nI T.2.2.2.2.2.2), .ref aO, .ref aA, .ref aBt, .ref aD, .ref aT, .int (nI T.2.2.2.2.2.1), .ref aS, .int (nI nr), .ref aR, .int (nI ns), .ref aE, .int (bI fr), .ref aK, .ref aIV, .ref aIN, .int (bI on), .ref aOp, .int oP, .int oA, .int (nI tk), .ref aRw, .ref aGn])), (aV, .inl (X.2 0, 6, .inl (ia (rv P vl)))), (aB, .inl (X.2 2, 24, .inl (ba (bdF iv)))), (aK, .inl (X.2 3, 4096, .inl kf)), (aOp, .inl (X.2 2, 4096, .inl (ba opf)))]) (wr := []) hx hb hml hown hg hE hA hP hD hS (k_Mo_countF l X m0 aV aB aRS aRT aO aA aBt aD aT aS aR aE aK aIV aIN aOp aRw aGn P nk nr ns oP tk oA T fr on vl iv hP6 hvl kf opf hop0 n hn4 (kf n) rfl) (gcons m_642 (gcons m_644 (gcons ms_Mo_count (gcons m_8 (gcons m_645 gG))))) (by decide +kernel) [0, 1, 2, 3, 4] [] rfl rfl (by decide) (by decide) (by decide) 0 rfl rfl rfl hl.1 (Nat.le_of_ble_eq_true rfl) rfl d_Mo_gain_37 ⟨rfl, rfl, Nat.le_of_ble_eq_true rfl, Nat.le_of_ble_eq_true rfl⟩ (⟨Nat.le_of_ble_eq_true rfl, Nat.le_of_ble_eq_true rfl⟩) (fun r37 u37 H locs hq37 hP hD hS => ?_)
          have hq37 : r37 = nI (cB (cnB vl iv (kf n) opf n) (2 ^ P)) := hq37
          subst hq37
          have hP : va_P X.1 classes [(m0, .inr (6, [.int (nI P), .ref aV, .ref aB, .int (nI nk), .ref aRS, .ref aRT, .int (nI T.2.2.2.2.2.2), .ref aO, .ref aA, .ref aBt, .ref aD, .ref aT, .int (nI T.2.2.2.2.2.1), .ref aS, .int (nI nr), .ref aR, .int (nI ns), .ref aE, .int (bI fr), .ref aK, .ref aIV, .ref aIN, .int (bI on), .ref aOp, .int oP, .int oA, .int (nI tk), .ref aRw, .ref aGn])), (aV, .inl (X.2 0, 6, .inl (ia (rv P vl)))), (aB, .inl (X.2 2, 24, .inl (ba (bdF iv)))), (aK, .inl (X.2 3, 4096, .inl kf)), (aOp, .inl (X.2 2, 4096, .inl (ba opf)))] H := hP
          have hD : va_D A [(m0, .inr (6, [.int (nI P), .ref aV, .ref aB, .int (nI nk), .ref aRS, .ref aRT, .int (nI T.2.2.2.2.2.2), .ref aO, .ref aA, .ref aBt, .ref aD, .ref aT, .int (nI T.2.2.2.2.2.1), .ref aS, .int (nI nr), .ref aR, .int (nI ns), .ref aE, .int (bI fr), .ref aK, .ref aIV, .ref aIN, .int (bI on), .ref aOp, .int oP, .int oA, .int (nI tk), .ref aRw, .ref aGn])), (aV, .inl (X.2 0, 6, .inl (ia (rv P vl)))), (aB, .inl (X.2 2, 24, .inl (ba (bdF iv)))), (aK, .inl (X.2 3, 4096, .inl kf)), (aOp, .inl (X.2 2, 4096, .inl (ba opf)))] := hD
          exact retI (u := ()) hx hb hr hlk hP hD hS (gr_1 (g := (fun r9 => cB (cnB vl iv (kf r9) opf r9) (2 ^ P))) hc4 hn4 hc26) d_Mo_gain_40
        · refine lv_bipush (v := (-2)) hx hb d_Mo_gain_29 (by decide) ?_
          refine lv_goto (tgt := 40) hx hb d_Mo_gain_31 (by decide) ?_
          exact retI (u := ()) hx hb hr hlk hP hD hS (by first | exact gr_a hc4 hc10 | exact gr_b hc4 hc17 | exact gr_c (g := (fun r9 => cB (cnB vl iv (kf r9) opf r9) (2 ^ P))) hc4 hn4 hc26) d_Mo_gain_40
  · rw [bI_z] at hc4
    refine lv_iconst (v := (-1)) hx hb d_Mo_gain_7 (by decide) ?_
    exact retI (u := ()) hx hb hr hlk hP hD hS (gr_on hc4) d_Mo_gain_8
set_option maxHeartbeats 4000000 in
set_option maxRecDepth 100000 in
theorem k_Mo_next0 (l : Launch) (X : Cx) (m0 aV aB aRS aRT aO aA aBt aD aT aS aR aE aK aIV aIN aOp aRw aGn : Nat) (P nk nr ns : Nat) (oP : Int32) (tk : Nat) (oA : Int32) (T : TS) (fr on : Bool) (hon : on = false) : CtI l X (TY X) y_Mo_next cw_Mo_next ({ frames := 3, cells := 0, slots := 0, locals := 73 } : Room) [.ref m0] [(m0, .inr (6, [.int (nI P), .ref aV, .ref aB, .int (nI nk), .ref aRS, .ref aRT, .int (nI T.2.2.2.2.2.2), .ref aO, .ref aA, .ref aBt, .ref aD, .ref aT, .int (nI T.2.2.2.2.2.1), .ref aS, .int (nI nr), .ref aR, .int (nI ns), .ref aE, .int (bI fr), .ref aK, .ref aIV, .ref aIN, .int (bI on), .ref aOp, .int oP, .int oA, .int (nI tk), .ref aRw, .ref aGn]))] (S := Unit) (fun r _ => r = -1) (fun _ => [(m0, .inr (6, [.int (nI P), .ref aV, .ref aB, .int (nI nk), .ref aRS, .ref aRT, .int (nI T.2.2.2.2.2.2), .ref aO, .ref aA, .ref aBt, .ref aD, .ref aT, .int (nI T.2.2.2.2.2.1), .ref aS, .int (nI nr), .ref aR, .int (nI ns), .ref aE, .int (bI fr), .ref aK, .ref aIV, .ref aIN, .int (bI on), .ref aOp, .int oP, .int oA, .int (nI tk), .ref aRw, .ref aGn]))]) 0 0 := by
  refine metI (by decide) (Nat.le_of_ble_eq_true rfl) ?_
  intro p e s m below meth c A ls hB hl
  obtain ⟨hx, hb, hr, hml, hown, hlk, hin, hg, hA, hD, hP, hE⟩ := hB
  have hS : va_S A s.heap s.heap [] := va_S.rf
  have hl : lv_has ls 6 [(0, .ref m0)] := hl
  refine lv_aload_n hx hb d_Mo_next_0 rfl (lv_at hl 0 rfl) ?_
  refine va_get (D := X.1) (ci := 6) (v := .int (bI on)) (C := R_Mo) (T := F_Mo) (N := 29) hx hb hg in_Mo hown hE.1 hP 0 rfl rfl 22 (by decide) (hg _ m_497) (fun _ h9 => h9) rfl d_Mo_next_1 ?_
  refine lv_if_ne (tgt := 9) hx hb d_Mo_next_4 (by decide) (fun hc4 => ?_) (fun hc4 => ?_)
  · exfalso; rw [bI_z] at hc4; exact hc4 hon
  · rw [bI_z] at hc4
    refine lv_iconst (v := (-1)) hx hb d_Mo_next_7 (by decide) ?_
    exact retI (u := ()) hx hb hr hlk hP hD hS (rfl) d_Mo_next_8
set_option maxHeartbeats 4000000 in
set_option maxRecDepth 100000 in
theorem k_Mo_next1 (l : Launch) (X : Cx) (m0 aV aB aRS aRT aO aA aBt aD aT aS aR aE aK aIV aIN aOp aRw aGn : Nat) (P nk nr ns : Nat) (oP : Int32) (tk : Nat) (oA : Int32) (T : TS) (fr on : Bool) (hon : on = true) (hoA : oA = 0) : CtI l X (TY X) y_Mo_next cw_Mo_next ({ frames := 3, cells := 0, slots := 0, locals := 73 } : Room) [.ref m0] [(m0, .inr (6, [.int (nI P), .ref aV, .ref aB, .int (nI nk), .ref aRS, .ref aRT, .int (nI T.2.2.2.2.2.2), .ref aO, .ref aA, .ref aBt, .ref aD, .ref aT, .int (nI T.2.2.2.2.2.1), .ref aS, .int (nI nr), .ref aR, .int (nI ns), .ref aE, .int (bI fr), .ref aK, .ref aIV, .ref aIN, .int (bI on), .ref aOp, .int oP, .int oA, .int (nI tk), .ref aRw, .ref aGn]))] (S := Unit) (fun r _ => r = -2) (fun _ => [(m0, .inr (6, [.int (nI P), .ref aV, .ref aB, .int (nI nk), .ref aRS, .ref aRT, .int (nI T.2.2.2.2.2.2), .ref aO, .ref aA, .ref aBt, .ref aD, .ref aT, .int (nI T.2.2.2.2.2.1), .ref aS, .int (nI nr), .ref aR, .int (nI ns), .ref aE, .int (bI fr), .ref aK, .ref aIV, .ref aIN, .int (bI on), .ref aOp, .int oP, .int oA, .int (nI tk), .ref aRw, .ref aGn]))]) 0 0 := by
  refine metI (by decide) (Nat.le_of_ble_eq_true rfl) ?_
  intro p e s m below meth c A ls hB hl
  obtain ⟨hx, hb, hr, hml, hown, hlk, hin, hg, hA, hD, hP, hE⟩ := hB
  have hS : va_S A s.heap s.heap [] := va_S.rf
  have hl : lv_has ls 6 [(0, .ref m0)] := hl
  refine lv_aload_n hx hb d_Mo_next_0 rfl (lv_at hl 0 rfl) ?_
  refine va_get (D := X.1) (ci := 6) (v := .int (bI on)) (C := R_Mo) (T := F_Mo) (N := 29) hx hb hg in_Mo hown hE.1 hP 0 rfl rfl 22 (by decide) (hg _ m_497) (fun _ h9 => h9) rfl d_Mo_next_1 ?_
  refine lv_if_ne (tgt := 9) hx hb d_Mo_next_4 (by decide) (fun hc4 => ?_) (fun hc4 => ?_)
  · rw [bI_z] at hc4
    refine lv_aload_n hx hb d_Mo_next_9 rfl (lv_at hl 0 rfl) ?_
    refine va_get (D := X.1) (ci := 6) (v := .int oA) (C := R_Mo) (T := F_Mo) (N := 29) hx hb hg in_Mo hown hE.1 hP 0 rfl rfl 25 (by decide) (hg _ m_500) (fun _ h9 => h9) rfl d_Mo_next_10 ?_
    refine lv_if_ne (tgt := 19) hx hb d_Mo_next_13 (by decide) (fun hc13 => ?_) (fun hc13 => ?_)
    · exfalso; exact hc13 hoA
    · refine lv_bipush (v := (-2)) hx hb d_Mo_next_16 (by decide) ?_
      exact retI (u := ()) hx hb hr hlk hP hD hS (rfl) d_Mo_next_18
  · exfalso; rw [bI_z, hon] at hc4; cases hc4
set_option maxHeartbeats 4000000 in
set_option maxRecDepth 100000 in
theorem k_Mo_nextG2 (l : Launch) (X : Cx) (m0 aV aB aRS aRT aO aA aBt aD aT aS aR aE aK aIV aIN aOp aRw aGn : Nat) (P nk nr ns : Nat) (oP : Int32) (tk : Nat) (oA : Int32) (T : TS) (fr on : Bool) (vl iv : Nat → Nat) (hP6 : P ≤ 6) (hvl : ∀ p, p < 6 → 1 ≤ vl p ∧ vl p ≤ 4) (kf : Nat → Int32) (opf : Nat → Bool) (hop0 : opf 0 = false) (hon : on = true) (hoA : ¬ oA = 0) (hoP : 0 < oP) (hex9 : ∃ s, s < 4096 ∧ (fun r9 => decide (kf r9 = nI 2)) s = true) (rws gds : Nat → Nat) (htk : tk < 528) : CtI l X (TY X) y_Mo_next cw_Mo_next ({ frames := 3, cells := 0, slots := 0, locals := 73 } : Room) [.ref m0] [(m0, .inr (6, [.int (nI P), .ref aV, .ref aB, .int (nI nk), .ref aRS, .ref aRT, .int (nI T.2.2.2.2.2.2), .ref aO, .ref aA, .ref aBt, .ref aD, .ref aT, .int (nI T.2.2.2.2.2.1), .ref aS, .int (nI nr), .ref aR, .int (nI ns), .ref aE, .int (bI fr), .ref aK, .ref aIV, .ref aIN, .int (bI on), .ref aOp, .int oP, .int oA, .int (nI tk), .ref aRw, .ref aGn])), (aV, .inl (X.2 0, 6, .inl (ia (rv P vl)))), (aB, .inl (X.2 2, 24, .inl (ba (bdF iv)))), (aK, .inl (X.2 3, 4096, .inl kf)), (aOp, .inl (X.2 2, 4096, .inl (ba opf))), (aRw, .inl (X.2 4, 528, .inl (ia rws))), (aGn, .inl (X.2 4, 528, .inl (ia gds)))] (S := Nat × (Nat → Bool)) (fun r u => r = nI u.1 ∧ bsQ (fun r9 => decide (kf r9 = nI 2)) (fun r9 => cB (cnB vl iv (kf r9) opf r9) (2 ^ P)) 4096 (some u.1) ∧ opI vl iv (kf u.1) opf u.1 (2 ^ P) u.2) (fun u => [(m0, .inr (6, [.int (nI P), .ref aV, .ref aB, .int (nI nk), .ref aRS, .ref aRT, .int (nI T.2.2.2.2.2.2), .ref aO, .ref aA, .ref aBt, .ref aD, .ref aT, .int (nI T.2.2.2.2.2.1), .ref aS, .int (nI nr), .ref aR, .int (nI ns), .ref aE, .int (bI fr), .ref aK, .ref aIV, .ref aIN, .int (bI on), .ref aOp, .int (oP - nI (cB (plB vl iv (kf u.1) opf u.1) (2 ^ P))), .int (oA - nI (cB (cnB vl iv (kf u.1) opf u.1) (2 ^ P))), .int (nI (tk + 1)), .ref aRw, .ref aGn])), (aV, .inl (X.2 0, 6, .inl (ia (rv P vl)))), (aB, .inl (X.2 2, 24, .inl (ba (bdF iv)))), (aK, .inl (X.2 3, 4096, .inl kf)), (aOp, .inl (X.2 2, 4096, .inl (ba u.2))), (aRw, .inl (X.2 4, 528, .inl (ia (upN rws tk u.1)))), (aGn, .inl (X.2 4, 528, .inl (ia (upN gds tk (cB (cnB vl iv (kf u.1) opf u.1) (2 ^ P))))))]) 0 0 := by
  refine metI (by decide) (Nat.le_of_ble_eq_true rfl) ?_
  intro p e s m below meth c A ls hB hl
  obtain ⟨hx, hb, hr, hml, hown, hlk, hin, hg, hA, hD, hP, hE⟩ := hB
  have hS : va_S A s.heap s.heap [] := va_S.rf
  have hl : lv_has ls 6 [(0, .ref m0)] := hl
  have h64 := pw2le hP6
  have hg9 : ∀ s, (fun r9 => cB (cnB vl iv (kf r9) opf r9) (2 ^ P)) s < 2 ^ 31 := fun s9 => Nat.lt_of_le_of_lt (cB_le _ _) (by omega)
  refine lv_aload_n hx hb d_Mo_next_0 rfl (lv_at hl 0 rfl) ?_
  refine va_get (D := X.1) (ci := 6) (v := .int (bI on)) (C := R_Mo) (T := F_Mo) (N := 29) hx hb hg in_Mo hown hE.1 hP 0 rfl rfl 22 (by decide) (hg _ m_497) (fun _ h9 => h9) rfl d_Mo_next_1 ?_
  refine lv_if_ne (tgt := 9) hx hb d_Mo_next_4 (by decide) (fun hc4 => ?_) (fun hc4 => ?_)
  · rw [bI_z] at hc4
    refine lv_aload_n hx hb d_Mo_next_9 rfl (lv_at hl 0 rfl) ?_
    refine va_get (D := X.1) (ci := 6) (v := .int oA) (C := R_Mo) (T := F_Mo) (N := 29) hx hb hg in_Mo hown hE.1 hP 0 rfl rfl 25 (by decide) (hg _ m_500) (fun _ h9 => h9) rfl d_Mo_next_10 ?_
    refine lv_if_ne (tgt := 19) hx hb d_Mo_next_13 (by decide) (fun hc13 => ?_) (fun hc13 => ?_)
    · refine lv_aload_n hx hb d_Mo_next_19 rfl (lv_at hl 0 rfl) ?_
      refine va_get (D := X.1) (ci := 6) (v := .int oP) (C := R_Mo) (T := F_Mo) (N := 29) hx hb hg in_Mo hown hE.1 hP 0 rfl rfl 24 (by decide) (hg _ m_499) (fun _ h9 => h9) rfl d_Mo_next_20 ?_
      refine lv_if_le (tgt := 30) hx hb d_Mo_next_23 (by decide) (fun hc23 => ?_) (fun hc23 => ?_)
      · exfalso; exact absurd hoP (nle_lt hc23)
      · refine lv_iconst (v := nI 2) hx hb d_Mo_next_26 (by decide) ?_
        refine lv_goto (tgt := 31) hx hb d_Mo_next_27 (by decide) ?_
        refine lv_istore_n hx hb d_Mo_next_31 rfl hl (by decide) rfl (fun ls hl => ?_)
        have hl : lv_has ls 6 [(1, .int (nI 2)), (0, .ref m0)] := hl
        refine lv_iconst (v := (-1)) hx hb d_Mo_next_32 (by decide) ?_
        refine topI (y := oI none) (rfl) ?_
        refine lv_istore_n hx hb d_Mo_next_33 rfl hl (by decide) rfl (fun ls hl => ?_)
        have hl : lv_has ls 6 [(2, .int (oI none)), (1, .int (nI 2)), (0, .ref m0)] := hl
        refine lv_iconst (v := (-1)) hx hb d_Mo_next_34 (by decide) ?_
        refine topI (y := mI (fun r9 => cB (cnB vl iv (kf r9) opf r9) (2 ^ P)) none) (rfl) ?_
        refine lv_istore_n hx hb d_Mo_next_35 rfl hl (by decide) rfl (fun ls hl => ?_)
        have hl : lv_has ls 6 [(3, .int (mI (fun r9 => cB (cnB vl iv (kf r9) opf r9) (2 ^ P)) none)), (2, .int (oI none)), (1, .int (nI 2)), (0, .ref m0)] := hl
        refine lv_iconst (v := nI 0) hx hb d_Mo_next_36 (by decide) ?_
        refine lv_istore hx hb d_Mo_next_37 hl (by decide) rfl (fun ls hl => ?_)
        have hl : lv_has ls 6 [(4, .int (nI 0)), (3, .int (mI (fun r9 => cB (cnB vl iv (kf r9) opf r9) (2 ^ P)) none)), (2, .int (oI none)), (1, .int (nI 2)), (0, .ref m0)] := hl
        refine wLoop (nL := 6) (σ := (Nat) × (Option Nat)) (fun x9 => (fun (k : Nat) (b : Option Nat) => 4096 - k) x9.1 x9.2) (fun x9 => (fun (k : Nat) (b : Option Nat) => k ≤ 4096 ∧ bsQ (fun r9 => decide (kf r9 = nI 2)) (fun r9 => cB (cnB vl iv (kf r9) opf r9) (2 ^ P)) k b) x9.1 x9.2) (fun x9 => (fun (k : Nat) (b : Option Nat) => [(m0, .inr (6, [.int (nI P), .ref aV, .ref aB, .int (nI nk), .ref aRS, .ref aRT, .int (nI T.2.2.2.2.2.2), .ref aO, .ref aA, .ref aBt, .ref aD, .ref aT, .int (nI T.2.2.2.2.2.1), .ref aS, .int (nI nr), .ref aR, .int (nI ns), .ref aE, .int (bI fr), .ref aK, .ref aIV, .ref aIN, .int (bI on), .ref aOp, .int oP, .int oA, .int (nI tk), .ref aRw, .ref aGn])), (aV, .inl (X.2 0, 6, .inl (ia (rv P vl)))), (aB, .inl (X.2 2, 24, .inl (ba (bdF iv)))), (aK, .inl (X.2 3, 4096, .inl kf)), (aOp, .inl (X.2 2, 4096, .inl (ba opf))), (aRw, .inl (X.2 4, 528, .inl (ia rws))), (aGn, .inl (X.2 4, 528, .inl (ia gds)))]) x9.1 x9.2) (fun x9 => (fun (k : Nat) (b : Option Nat) => [(0, .ref m0), (1, .int (nI 2)), (2, .int (oI b)), (3, .int (mI (fun r9 => cB (cnB vl iv (kf r9) opf r9) (2 ^ P)) b)), (4, .int (nI k))]) x9.1 x9.2) ?_ (0, none) (⟨Nat.zero_le _, bq_0⟩) hP hD hS (lv_sub hl [4, 3, 2, 1, 0] rfl)
        rintro ⟨k, b⟩ H locs ls hJ hP hD hS hl ih39
        have hJ : k ≤ 4096 ∧ bsQ (fun r9 => decide (kf r9 = nI 2)) (fun r9 => cB (cnB vl iv (kf r9) opf r9) (2 ^ P)) k b := hJ
        obtain ⟨hk4, hbq⟩ := hJ
        have hP : va_P X.1 classes [(m0, .inr (6, [.int (nI P), .ref aV, .ref aB, .int (nI nk), .ref aRS, .ref aRT, .int (nI T.2.2.2.2.2.2), .ref aO, .ref aA, .ref aBt, .ref aD, .ref aT, .int (nI T.2.2.2.2.2.1), .ref aS, .int (nI nr), .ref aR, .int (nI ns), .ref aE, .int (bI fr), .ref aK, .ref aIV, .ref aIN, .int (bI on), .ref aOp, .int oP, .int oA, .int (nI tk), .ref aRw, .ref aGn])), (aV, .inl (X.2 0, 6, .inl (ia (rv P vl)))), (aB, .inl (X.2 2, 24, .inl (ba (bdF iv)))), (aK, .inl (X.2 3, 4096, .inl kf)), (aOp, .inl (X.2 2, 4096, .inl (ba opf))), (aRw, .inl (X.2 4, 528, .inl (ia rws))), (aGn, .inl (X.2 4, 528, .inl (ia gds)))] H := hP
        have hD : va_D A [(m0, .inr (6, [.int (nI P), .ref aV, .ref aB, .int (nI nk), .ref aRS, .ref aRT, .int (nI T.2.2.2.2.2.2), .ref aO, .ref aA, .ref aBt, .ref aD, .ref aT, .int (nI T.2.2.2.2.2.1), .ref aS, .int (nI nr), .ref aR, .int (nI ns), .ref aE, .int (bI fr), .ref aK, .ref aIV, .ref aIN, .int (bI on), .ref aOp, .int oP, .int oA, .int (nI tk), .ref aRw, .ref aGn])), (aV, .inl (X.2 0, 6, .inl (ia (rv P vl)))), (aB, .inl (X.2 2, 24, .inl (ba (bdF iv)))), (aK, .inl (X.2 3, 4096, .inl kf)), (aOp, .inl (X.2 2, 4096, .inl (ba opf))), (aRw, .inl (X.2 4, 528, .inl (ia rws))), (aGn, .inl (X.2 4, 528, .inl (ia gds)))] := hD
        have hl : lv_has ls 6 [(0, .ref m0), (1, .int (nI 2)), (2, .int (oI b)), (3, .int (mI (fun r9 => cB (cnB vl iv (kf r9) opf r9) (2 ^ P)) b)), (4, .int (nI k))] := hl
        refine lv_iload hx hb d_Mo_next_39 (lv_at hl 4 rfl) ?_
        refine lv_sipush (v := nI 4096) hx hb d_Mo_next_41 (by decide) ?_
        refine lv_icmp_ge (tgt := 85) hx hb d_Mo_next_44 (by decide) (fun hc44 => ?_) (fun hc44 => ?_)
        · rw [nI_leI (by omega) (by omega)] at hc44
          obtain rfl : k = 4096 := by omega
          obtain ⟨n, hbn, hn4, hRn⟩ := bq_some hbq hex9
          subst hbn
          refine lv_aload_n hx hb d_Mo_next_85 rfl (lv_at hl 0 rfl) ?_
          refine lv_iload_n hx hb d_Mo_next_86 rfl (lv_at hl 2 rfl) ?_
          refine clVV (n := 1) (As := [.int (nI n)]) (rest := []) (wc := [(m0, .inr (6, [.int (nI P), .ref aV, .ref aB, .int (nI nk), .ref aRS, .ref aRT, .int (nI T.2.2.2.2.2.2), .ref aO, .ref aA, .ref aBt, .ref aD, .ref aT, .int (nI T.2.2.2.2.2.1), .ref aS, .int (nI nr), .ref aR, .int (nI ns), .ref aE, .int (bI fr), .ref aK, .ref aIV, .ref aIN, .int (bI on), .ref aOp, .int oP, .int oA, .int (nI tk), .ref aRw, .ref aGn])), (aV, .inl (X.2 0, 6, .inl (ia (rv P vl)))), (aB, .inl (X.2 2, 24, .inl (ba (bdF iv)))), (aK, .inl (X.2 3, 4096, .inl kf)), (aOp, .inl (X.2 2, 4096, .inl (ba opf))), (aRw, .inl (X.2 4, 528, .inl (ia rws))), (aGn, .inl (X.2 4, 528, .inl (ia gds)))]) (wr := []) hx hb hml hown hg hE hA hP hD hS (k_Mo_take l X m0 aV aB aRS aRT aO aA aBt aD aT aS aR aE aK aIV aIN aOp aRw aGn P nk nr ns oP tk oA T fr on vl iv hP6 hvl kf opf hop0 n hn4 (kf n) rfl rws gds htk) (gcons m_638 (gcons m_640 (gcons ms_Mo_take (gcons m_8 (gcons m_641 gG))))) (by decide +kernel) [0, 1, 2, 3, 4, 5, 6] [] rfl rfl (by decide) (by decide) (by decide) 0 rfl rfl rfl hl.1 (Nat.le_of_ble_eq_true rfl) rfl d_Mo_next_87 ⟨rfl, rfl, Nat.le_of_ble_eq_true rfl, Nat.le_of_ble_eq_true rfl⟩ (⟨Nat.le_of_ble_eq_true rfl, Nat.le_of_ble_eq_true rfl⟩) (fun u5 H locs hop9 hP hD hS => ?_)
          have hP : va_P X.1 classes [(m0, .inr (6, [.int (nI P), .ref aV, .ref aB, .int (nI nk), .ref aRS, .ref aRT, .int (nI T.2.2.2.2.2.2), .ref aO, .ref aA, .ref aBt, .ref aD, .ref aT, .int (nI T.2.2.2.2.2.1), .ref aS, .int (nI nr), .ref aR, .int (nI ns), .ref aE, .int (bI fr), .ref aK, .ref aIV, .ref aIN, .int (bI on), .ref aOp, .int (oP - nI (cB (plB vl iv (kf n) opf n) (2 ^ P))), .int (oA - nI (cB (cnB vl iv (kf n) opf n) (2 ^ P))), .int (nI (tk + 1)), .ref aRw, .ref aGn])), (aV, .inl (X.2 0, 6, .inl (ia (rv P vl)))), (aB, .inl (X.2 2, 24, .inl (ba (bdF iv)))), (aK, .inl (X.2 3, 4096, .inl kf)), (aOp, .inl (X.2 2, 4096, .inl (ba u5))), (aRw, .inl (X.2 4, 528, .inl (ia (upN rws tk n)))), (aGn, .inl (X.2 4, 528, .inl (ia (upN gds tk (cB (cnB vl iv (kf n) opf n) (2 ^ P))))))] H := hP
          have hD : va_D A [(m0, .inr (6, [.int (nI P), .ref aV, .ref aB, .int (nI nk), .ref aRS, .ref aRT, .int (nI T.2.2.2.2.2.2), .ref aO, .ref aA, .ref aBt, .ref aD, .ref aT, .int (nI T.2.2.2.2.2.1), .ref aS, .int (nI nr), .ref aR, .int (nI ns), .ref aE, .int (bI fr), .ref aK, .ref aIV, .ref aIN, .int (bI on), .ref aOp, .int (oP - nI (cB (plB vl iv (kf n) opf n) (2 ^ P))), .int (oA - nI (cB (cnB vl iv (kf n) opf n) (2 ^ P))), .int (nI (tk + 1)), .ref aRw, .ref aGn])), (aV, .inl (X.2 0, 6, .inl (ia (rv P vl)))), (aB, .inl (X.2 2, 24, .inl (ba (bdF iv)))), (aK, .inl (X.2 3, 4096, .inl kf)), (aOp, .inl (X.2 2, 4096, .inl (ba u5))), (aRw, .inl (X.2 4, 528, .inl (ia (upN rws tk n)))), (aGn, .inl (X.2 4, 528, .inl (ia (upN gds tk (cB (cnB vl iv (kf n) opf n) (2 ^ P))))))] := hD
          refine lv_iload_n hx hb d_Mo_next_90 rfl (lv_at hl 2 rfl) ?_
          exact retI (u := (n, u5)) hx hb hr hlk hP hD hS (⟨rfl, hbq, hop9⟩) d_Mo_next_91
        · rw [nI_leI (by omega) (by omega)] at hc44
          refine lv_aload_n hx hb d_Mo_next_47 rfl (lv_at hl 0 rfl) ?_
          refine va_get (D := X.1) (ci := 6) (v := .ref aK) (C := R_Mo) (T := F_Mo) (N := 29) hx hb hg in_Mo hown hE.1 hP 0 rfl rfl 19 (by decide) (hg _ m_494) (fun _ h9 => h9) rfl d_Mo_next_48 ?_
          refine lv_iload hx hb d_Mo_next_51 (lv_at hl 4 rfl) ?_
          refine va_bald hx hb hE.1 hP 3 3 rfl rfl (vp_in_nI (by omega) (by decide)) d_Mo_next_53 ?_
          refine topI (y := kf k) (by rw [nI_clamp (by omega)]) ?_
          refine topI (y := kf k) (rfl) ?_
          refine lv_iload_n hx hb d_Mo_next_54 rfl (lv_at hl 1 rfl) ?_
          refine lv_icmp_ne (tgt := 79) hx hb d_Mo_next_55 (by decide) (fun hc55 => ?_) (fun hc55 => ?_)
          · refine lv_iinc (k := 4) (v := nI (k + 1)) hx hb d_Mo_next_79 hl rfl (nI_1 _) (by decide) rfl (fun ls hl => ?_)
            have hl : lv_has ls 6 [(4, .int (nI (k + 1))), (0, .ref m0), (1, .int (nI 2)), (2, .int (oI b)), (3, .int (mI (fun r9 => cB (cnB vl iv (kf r9) opf r9) (2 ^ P)) b))] := hl
            refine lv_goto (tgt := 39) hx hb d_Mo_next_82 (by decide) ?_
            exact ih39 (k + 1, b) H locs ls (by (try dsimp only); omega) (by first | exact ⟨by (try dsimp only); omega, bq_no hbq (decide_eq_false hc55)⟩ | exact ⟨by (try dsimp only); omega, bq_le hg9 hbq hc70⟩ | exact ⟨by (try dsimp only); omega, bq_new hg9 hbq (decide_eq_true hc55) hc70⟩) hP hD hS (lv_sub hl [1, 2, 3, 4, 0] rfl)
          · refine lv_aload_n hx hb d_Mo_next_58 rfl (lv_at hl 0 rfl) ?_
            refine lv_iload hx hb d_Mo_next_59 (lv_at hl 4 rfl) ?_
            refine lv_iconst (v := nI 0) hx hb d_Mo_next_61 (by decide) ?_
            refine clVI (n := 2) (As := [.int (nI k), .int (nI 0)]) (rest := []) (wc := [(m0, .inr (6, [.int (nI P), .ref aV, .ref aB, .int (nI nk), .ref aRS, .ref aRT, .int (nI T.2.2.2.2.2.2), .ref aO, .ref aA, .ref aBt, .ref aD, .ref aT, .int (nI T.2.2.2.2.2.1), .ref aS, .int (nI nr), .ref aR, .int (nI ns), .ref aE, .int (bI fr), .ref aK, .ref aIV, .ref aIN, .int (bI on), .ref aOp, .int oP, .int oA, .int (nI tk), .ref aRw, .ref aGn])), (aV, .inl (X.2 0, 6, .inl (ia (rv P vl)))), (aB, .inl (X.2 2, 24, .inl (ba (bdF iv)))), (aK, .inl (X.2 3, 4096, .inl kf)), (aOp, .inl (X.2 2, 4096, .inl (ba opf)))]) (wr := [(aRw, .inl (X.2 4, 528, .inl (ia rws))), (aGn, .inl (X.2 4, 528, .inl (ia gds)))]) hx hb hml hown hg hE hA hP hD hS (k_Mo_countF l X m0 aV aB aRS aRT aO aA aBt aD aT aS aR aE aK aIV aIN aOp aRw aGn P nk nr ns oP tk oA T fr on vl iv hP6 hvl kf opf hop0 k (by omega) (kf k) rfl) (gcons m_642 (gcons m_644 (gcons ms_Mo_count (gcons m_8 (gcons m_645 gG))))) (by decide +kernel) [0, 1, 2, 3, 4] [5, 6] rfl rfl (by decide) (by decide) (by decide) 0 rfl rfl rfl hl.1 (Nat.le_of_ble_eq_true rfl) rfl d_Mo_next_62 ⟨rfl, rfl, Nat.le_of_ble_eq_true rfl, Nat.le_of_ble_eq_true rfl⟩ (⟨Nat.le_of_ble_eq_true rfl, Nat.le_of_ble_eq_true rfl⟩) (fun r62 u62 H locs hq62 hP hD hS => ?_)
            have hq62 : r62 = nI (cB (cnB vl iv (kf k) opf k) (2 ^ P)) := hq62
            subst hq62
            have hP := hP.sub (ws' := [(m0, .inr (6, [.int (nI P), .ref aV, .ref aB, .int (nI nk), .ref aRS, .ref aRT, .int (nI T.2.2.2.2.2.2), .ref aO, .ref aA, .ref aBt, .ref aD, .ref aT, .int (nI T.2.2.2.2.2.1), .ref aS, .int (nI nr), .ref aR, .int (nI ns), .ref aE, .int (bI fr), .ref aK, .ref aIV, .ref aIN, .int (bI on), .ref aOp, .int oP, .int oA, .int (nI tk), .ref aRw, .ref aGn])), (aV, .inl (X.2 0, 6, .inl (ia (rv P vl)))), (aB, .inl (X.2 2, 24, .inl (ba (bdF iv)))), (aK, .inl (X.2 3, 4096, .inl kf)), (aOp, .inl (X.2 2, 4096, .inl (ba opf))), (aRw, .inl (X.2 4, 528, .inl (ia rws))), (aGn, .inl (X.2 4, 528, .inl (ia gds)))]) [2, 3, 4, 5, 6, 0, 1] rfl
            have hD := hD.sub (ws' := [(m0, .inr (6, [.int (nI P), .ref aV, .ref aB, .int (nI nk), .ref aRS, .ref aRT, .int (nI T.2.2.2.2.2.2), .ref aO, .ref aA, .ref aBt, .ref aD, .ref aT, .int (nI T.2.2.2.2.2.1), .ref aS, .int (nI nr), .ref aR, .int (nI ns), .ref aE, .int (bI fr), .ref aK, .ref aIV, .ref aIN, .int (bI on), .ref aOp, .int oP, .int oA, .int (nI tk), .ref aRw, .ref aGn])), (aV, .inl (X.2 0, 6, .inl (ia (rv P vl)))), (aB, .inl (X.2 2, 24, .inl (ba (bdF iv)))), (aK, .inl (X.2 3, 4096, .inl kf)), (aOp, .inl (X.2 2, 4096, .inl (ba opf))), (aRw, .inl (X.2 4, 528, .inl (ia rws))), (aGn, .inl (X.2 4, 528, .inl (ia gds)))]) [2, 3, 4, 5, 6, 0, 1] (by decide) rfl
            refine lv_istore hx hb d_Mo_next_65 hl (by decide) rfl (fun ls hl => ?_)
            have hl : lv_has ls 6 [(5, .int (nI (cB (cnB vl iv (kf k) opf k) (2 ^ P)))), (0, .ref m0), (1, .int (nI 2)), (2, .int (oI b)), (3, .int (mI (fun r9 => cB (cnB vl iv (kf r9) opf r9) (2 ^ P)) b)), (4, .int (nI k))] := hl
            refine lv_iload hx hb d_Mo_next_67 (lv_at hl 0 rfl) ?_
            refine lv_iload_n hx hb d_Mo_next_69 rfl (lv_at hl 4 rfl) ?_
            refine lv_icmp_le (tgt := 79) hx hb d_Mo_next_70 (by decide) (fun hc70 => ?_) (fun hc70 => ?_)
            · refine lv_iinc (k := 5) (v := nI (k + 1)) hx hb d_Mo_next_79 hl rfl (nI_1 _) (by decide) rfl (fun ls hl => ?_)
              have hl : lv_has ls 6 [(4, .int (nI (k + 1))), (5, .int (nI (cB (cnB vl iv (kf k) opf k) (2 ^ P)))), (0, .ref m0), (1, .int (nI 2)), (2, .int (oI b)), (3, .int (mI (fun r9 => cB (cnB vl iv (kf r9) opf r9) (2 ^ P)) b))] := hl
              refine lv_goto (tgt := 39) hx hb d_Mo_next_82 (by decide) ?_
              exact ih39 (k + 1, b) H locs ls (by (try dsimp only); omega) (by first | exact ⟨by (try dsimp only); omega, bq_no hbq (decide_eq_false hc55)⟩ | exact ⟨by (try dsimp only); omega, bq_le hg9 hbq hc70⟩ | exact ⟨by (try dsimp only); omega, bq_new hg9 hbq (decide_eq_true hc55) hc70⟩) hP hD hS (lv_sub hl [2, 3, 4, 5, 0] rfl)
            · refine lv_iload hx hb d_Mo_next_73 (lv_at hl 0 rfl) ?_
              refine lv_istore_n hx hb d_Mo_next_75 rfl hl (by decide) rfl (fun ls hl => ?_)
              have hl : lv_has ls 6 [(3, .int (nI (cB (cnB vl iv (kf k) opf k) (2 ^ P)))), (5, .int (nI (cB (cnB vl iv (kf k) opf k) (2 ^ P)))), (0, .ref m0), (1, .int (nI 2)), (2, .int (oI b)), (4, .int (nI k))] := hl
              refine lv_iload hx hb d_Mo_next_76 (lv_at hl 5 rfl) ?_
              refine lv_istore_n hx hb d_Mo_next_78 rfl hl (by decide) rfl (fun ls hl => ?_)
              have hl : lv_has ls 6 [(2, .int (nI k)), (3, .int (nI (cB (cnB vl iv (kf k) opf k) (2 ^ P)))), (5, .int (nI (cB (cnB vl iv (kf k) opf k) (2 ^ P)))), (0, .ref m0), (1, .int (nI 2)), (4, .int (nI k))] := hl
              refine lv_iinc (k := 5) (v := nI (k + 1)) hx hb d_Mo_next_79 hl rfl (nI_1 _) (by decide) rfl (fun ls hl => ?_)
              have hl : lv_has ls 6 [(4, .int (nI (k + 1))), (2, .int (nI k)), (3, .int (nI (cB (cnB vl iv (kf k) opf k) (2 ^ P)))), (5, .int (nI (cB (cnB vl iv (kf k) opf k) (2 ^ P)))), (0, .ref m0), (1, .int (nI 2))] := hl
              refine lv_goto (tgt := 39) hx hb d_Mo_next_82 (by decide) ?_
              exact ih39 (k + 1, some k) H locs ls (by (try dsimp only); omega) (by first | exact ⟨by (try dsimp only); omega, bq_no hbq (decide_eq_false hc55)⟩ | exact ⟨by (try dsimp only); omega, bq_le hg9 hbq hc70⟩ | exact ⟨by (try dsimp only); omega, bq_new hg9 hbq (decide_eq_true hc55) hc70⟩) hP hD hS (lv_sub hl [4, 5, 1, 2, 0] rfl)
    · exfalso; exact hoA hc13
  · exfalso; rw [bI_z, hon] at hc4; cases hc4
set_option maxHeartbeats 4000000 in
set_option maxRecDepth 100000 in
theorem k_Mo_nextG1 (l : Launch) (X : Cx) (m0 aV aB aRS aRT aO aA aBt aD aT aS aR aE aK aIV aIN aOp aRw aGn : Nat) (P nk nr ns : Nat) (oP : Int32) (tk : Nat) (oA : Int32) (T : TS) (fr on : Bool) (vl iv : Nat → Nat) (hP6 : P ≤ 6) (hvl : ∀ p, p < 6 → 1 ≤ vl p ∧ vl p ≤ 4) (kf : Nat → Int32) (opf : Nat → Bool) (hop0 : opf 0 = false) (hon : on = true) (hoA : ¬ oA = 0) (hoP : ¬ 0 < oP) (hex9 : ∃ s, s < 4096 ∧ (fun r9 => decide (kf r9 = nI 1)) s = true) (rws gds : Nat → Nat) (htk : tk < 528) : CtI l X (TY X) y_Mo_next cw_Mo_next ({ frames := 3, cells := 0, slots := 0, locals := 73 } : Room) [.ref m0] [(m0, .inr (6, [.int (nI P), .ref aV, .ref aB, .int (nI nk), .ref aRS, .ref aRT, .int (nI T.2.2.2.2.2.2), .ref aO, .ref aA, .ref aBt, .ref aD, .ref aT, .int (nI T.2.2.2.2.2.1), .ref aS, .int (nI nr), .ref aR, .int (nI ns), .ref aE, .int (bI fr), .ref aK, .ref aIV, .ref aIN, .int (bI on), .ref aOp, .int oP, .int oA, .int (nI tk), .ref aRw, .ref aGn])), (aV, .inl (X.2 0, 6, .inl (ia (rv P vl)))), (aB, .inl (X.2 2, 24, .inl (ba (bdF iv)))), (aK, .inl (X.2 3, 4096, .inl kf)), (aOp, .inl (X.2 2, 4096, .inl (ba opf))), (aRw, .inl (X.2 4, 528, .inl (ia rws))), (aGn, .inl (X.2 4, 528, .inl (ia gds)))] (S := Nat × (Nat → Bool)) (fun r u => r = nI u.1 ∧ bsQ (fun r9 => decide (kf r9 = nI 1)) (fun r9 => cB (cnB vl iv (kf r9) opf r9) (2 ^ P)) 4096 (some u.1) ∧ opI vl iv (kf u.1) opf u.1 (2 ^ P) u.2) (fun u => [(m0, .inr (6, [.int (nI P), .ref aV, .ref aB, .int (nI nk), .ref aRS, .ref aRT, .int (nI T.2.2.2.2.2.2), .ref aO, .ref aA, .ref aBt, .ref aD, .ref aT, .int (nI T.2.2.2.2.2.1), .ref aS, .int (nI nr), .ref aR, .int (nI ns), .ref aE, .int (bI fr), .ref aK, .ref aIV, .ref aIN, .int (bI on), .ref aOp, .int (oP - nI (cB (plB vl iv (kf u.1) opf u.1) (2 ^ P))), .int (oA - nI (cB (cnB vl iv (kf u.1) opf u.1) (2 ^ P))), .int (nI (tk + 1)), .ref aRw, .ref aGn])), (aV, .inl (X.2 0, 6, .inl (ia (rv P vl)))), (aB, .inl (X.2 2, 24, .inl (ba (bdF iv)))), (aK, .inl (X.2 3, 4096, .inl kf)), (aOp, .inl (X.2 2, 4096, .inl (ba u.2))), (aRw, .inl (X.2 4, 528, .inl (ia (upN rws tk u.1)))), (aGn, .inl (X.2 4, 528, .inl (ia (upN gds tk (cB (cnB vl iv (kf u.1) opf u.1) (2 ^ P))))))]) 0 0 := by
  refine metI (by decide) (Nat.le_of_ble_eq_true rfl) ?_
  intro p e s m below meth c A ls hB hl
  obtain ⟨hx, hb, hr, hml, hown, hlk, hin, hg, hA, hD, hP, hE⟩ := hB
  have hS : va_S A s.heap s.heap [] := va_S.rf
  have hl : lv_has ls 6 [(0, .ref m0)] := hl
  have h64 := pw2le hP6
  have hg9 : ∀ s, (fun r9 => cB (cnB vl iv (kf r9) opf r9) (2 ^ P)) s < 2 ^ 31 := fun s9 => Nat.lt_of_le_of_lt (cB_le _ _) (by omega)
  refine lv_aload_n hx hb d_Mo_next_0 rfl (lv_at hl 0 rfl) ?_
  refine va_get (D := X.1) (ci := 6) (v := .int (bI on)) (C := R_Mo) (T := F_Mo) (N := 29) hx hb hg in_Mo hown hE.1 hP 0 rfl rfl 22 (by decide) (hg _ m_497) (fun _ h9 => h9) rfl d_Mo_next_1 ?_
  refine lv_if_ne (tgt := 9) hx hb d_Mo_next_4 (by decide) (fun hc4 => ?_) (fun hc4 => ?_)
  · rw [bI_z] at hc4
    refine lv_aload_n hx hb d_Mo_next_9 rfl (lv_at hl 0 rfl) ?_
    refine va_get (D := X.1) (ci := 6) (v := .int oA) (C := R_Mo) (T := F_Mo) (N := 29) hx hb hg in_Mo hown hE.1 hP 0 rfl rfl 25 (by decide) (hg _ m_500) (fun _ h9 => h9) rfl d_Mo_next_10 ?_
    refine lv_if_ne (tgt := 19) hx hb d_Mo_next_13 (by decide) (fun hc13 => ?_) (fun hc13 => ?_)
    · refine lv_aload_n hx hb d_Mo_next_19 rfl (lv_at hl 0 rfl) ?_
      refine va_get (D := X.1) (ci := 6) (v := .int oP) (C := R_Mo) (T := F_Mo) (N := 29) hx hb hg in_Mo hown hE.1 hP 0 rfl rfl 24 (by decide) (hg _ m_499) (fun _ h9 => h9) rfl d_Mo_next_20 ?_
      refine lv_if_le (tgt := 30) hx hb d_Mo_next_23 (by decide) (fun hc23 => ?_) (fun hc23 => ?_)
      · refine lv_iconst (v := nI 1) hx hb d_Mo_next_30 (by decide) ?_
        refine lv_istore_n hx hb d_Mo_next_31 rfl hl (by decide) rfl (fun ls hl => ?_)
        have hl : lv_has ls 6 [(1, .int (nI 1)), (0, .ref m0)] := hl
        refine lv_iconst (v := (-1)) hx hb d_Mo_next_32 (by decide) ?_
        refine topI (y := oI none) (rfl) ?_
        refine lv_istore_n hx hb d_Mo_next_33 rfl hl (by decide) rfl (fun ls hl => ?_)
        have hl : lv_has ls 6 [(2, .int (oI none)), (1, .int (nI 1)), (0, .ref m0)] := hl
        refine lv_iconst (v := (-1)) hx hb d_Mo_next_34 (by decide) ?_
        refine topI (y := mI (fun r9 => cB (cnB vl iv (kf r9) opf r9) (2 ^ P)) none) (rfl) ?_
        refine lv_istore_n hx hb d_Mo_next_35 rfl hl (by decide) rfl (fun ls hl => ?_)
        have hl : lv_has ls 6 [(3, .int (mI (fun r9 => cB (cnB vl iv (kf r9) opf r9) (2 ^ P)) none)), (2, .int (oI none)), (1, .int (nI 1)), (0, .ref m0)] := hl
        refine lv_iconst (v := nI 0) hx hb d_Mo_next_36 (by decide) ?_
        refine lv_istore hx hb d_Mo_next_37 hl (by decide) rfl (fun ls hl => ?_)
        have hl : lv_has ls 6 [(4, .int (nI 0)), (3, .int (mI (fun r9 => cB (cnB vl iv (kf r9) opf r9) (2 ^ P)) none)), (2, .int (oI none)), (1, .int (nI 1)), (0, .ref m0)] := hl
        refine wLoop (nL := 6) (σ := (Nat) × (Option Nat)) (fun x9 => (fun (k : Nat) (b : Option Nat) => 4096 - k) x9.1 x9.2) (fun x9 => (fun (k : Nat) (b : Option Nat) => k ≤ 4096 ∧ bsQ (fun r9 => decide (kf r9 = nI 1)) (fun r9 => cB (cnB vl iv (kf r9) opf r9) (2 ^ P)) k b) x9.1 x9.2) (fun x9 => (fun (k : Nat) (b : Option Nat) => [(m0, .inr (6, [.int (nI P), .ref aV, .ref aB, .int (nI nk), .ref aRS, .ref aRT, .int (nI T.2.2.2.2.2.2), .ref aO, .ref aA, .ref aBt, .ref aD, .ref aT, .int (nI T.2.2.2.2.2.1), .ref aS, .int (nI nr), .ref aR, .int (nI ns), .ref aE, .int (bI fr), .ref aK, .ref aIV, .ref aIN, .int (bI on), .ref aOp, .int oP, .int oA, .int (nI tk), .ref aRw, .ref aGn])), (aV, .inl (X.2 0, 6, .inl (ia (rv P vl)))), (aB, .inl (X.2 2, 24, .inl (ba (bdF iv)))), (aK, .inl (X.2 3, 4096, .inl kf)), (aOp, .inl (X.2 2, 4096, .inl (ba opf))), (aRw, .inl (X.2 4, 528, .inl (ia rws))), (aGn, .inl (X.2 4, 528, .inl (ia gds)))]) x9.1 x9.2) (fun x9 => (fun (k : Nat) (b : Option Nat) => [(0, .ref m0), (1, .int (nI 1)), (2, .int (oI b)), (3, .int (mI (fun r9 => cB (cnB vl iv (kf r9) opf r9) (2 ^ P)) b)), (4, .int (nI k))]) x9.1 x9.2) ?_ (0, none) (⟨Nat.zero_le _, bq_0⟩) hP hD hS (lv_sub hl [4, 3, 2, 1, 0] rfl)
        rintro ⟨k, b⟩ H locs ls hJ hP hD hS hl ih39
        have hJ : k ≤ 4096 ∧ bsQ (fun r9 => decide (kf r9 = nI 1)) (fun r9 => cB (cnB vl iv (kf r9) opf r9) (2 ^ P)) k b := hJ
        obtain ⟨hk4, hbq⟩ := hJ
        have hP : va_P X.1 classes [(m0, .inr (6, [.int (nI P), .ref aV, .ref aB, .int (nI nk), .ref aRS, .ref aRT, .int (nI T.2.2.2.2.2.2), .ref aO, .ref aA, .ref aBt, .ref aD, .ref aT, .int (nI T.2.2.2.2.2.1), .ref aS, .int (nI nr), .ref aR, .int (nI ns), .ref aE, .int (bI fr), .ref aK, .ref aIV, .ref aIN, .int (bI on), .ref aOp, .int oP, .int oA, .int (nI tk), .ref aRw, .ref aGn])), (aV, .inl (X.2 0, 6, .inl (ia (rv P vl)))), (aB, .inl (X.2 2, 24, .inl (ba (bdF iv)))), (aK, .inl (X.2 3, 4096, .inl kf)), (aOp, .inl (X.2 2, 4096, .inl (ba opf))), (aRw, .inl (X.2 4, 528, .inl (ia rws))), (aGn, .inl (X.2 4, 528, .inl (ia gds)))] H := hP
        have hD : va_D A [(m0, .inr (6, [.int (nI P), .ref aV, .ref aB, .int (nI nk), .ref aRS, .ref aRT, .int (nI T.2.2.2.2.2.2), .ref aO, .ref aA, .ref aBt, .ref aD, .ref aT, .int (nI T.2.2.2.2.2.1), .ref aS, .int (nI nr), .ref aR, .int (nI ns), .ref aE, .int (bI fr), .ref aK, .ref aIV, .ref aIN, .int (bI on), .ref aOp, .int oP, .int oA, .int (nI tk), .ref aRw, .ref aGn])), (aV, .inl (X.2 0, 6, .inl (ia (rv P vl)))), (aB, .inl (X.2 2, 24, .inl (ba (bdF iv)))), (aK, .inl (X.2 3, 4096, .inl kf)), (aOp, .inl (X.2 2, 4096, .inl (ba opf))), (aRw, .inl (X.2 4, 528, .inl (ia rws))), (aGn, .inl (X.2 4, 528, .inl (ia gds)))] := hD
        have hl : lv_has ls 6 [(0, .ref m0), (1, .int (nI 1)), (2, .int (oI b)), (3, .int (mI (fun r9 => cB (cnB vl iv (kf r9) opf r9) (2 ^ P)) b)), (4, .int (nI k))] := hl
        refine lv_iload hx hb d_Mo_next_39 (lv_at hl 4 rfl) ?_
        refine lv_sipush (v := nI 4096) hx hb d_Mo_next_41 (by decide) ?_
        refine lv_icmp_ge (tgt := 85) hx hb d_Mo_next_44 (by decide) (fun hc44 => ?_) (fun hc44 => ?_)
        · rw [nI_leI (by omega) (by omega)] at hc44
          obtain rfl : k = 4096 := by omega
          obtain ⟨n, hbn, hn4, hRn⟩ := bq_some hbq hex9
          subst hbn
          refine lv_aload_n hx hb d_Mo_next_85 rfl (lv_at hl 0 rfl) ?_
          refine lv_iload_n hx hb d_Mo_next_86 rfl (lv_at hl 2 rfl) ?_
          refine clVV (n := 1) (As := [.int (nI n)]) (rest := []) (wc := [(m0, .inr (6, [.int (nI P), .ref aV, .ref aB, .int (nI nk), .ref aRS, .ref aRT, .int (nI T.2.2.2.2.2.2), .ref aO, .ref aA, .ref aBt, .ref aD, .ref aT, .int (nI T.2.2.2.2.2.1), .ref aS, .int (nI nr), .ref aR, .int (nI ns), .ref aE, .int (bI fr), .ref aK, .ref aIV, .ref aIN, .int (bI on), .ref aOp, .int oP, .int oA, .int (nI tk), .ref aRw, .ref aGn])), (aV, .inl (X.2 0, 6, .inl (ia (rv P vl)))), (aB, .inl (X.2 2, 24, .inl (ba (bdF iv)))), (aK, .inl (X.2 3, 4096, .inl kf)), (aOp, .inl (X.2 2, 4096, .inl (ba opf))), (aRw, .inl (X.2 4, 528, .inl (ia rws))), (aGn, .inl (X.2 4, 528, .inl (ia gds)))]) (wr := []) hx hb hml hown hg hE hA hP hD hS (k_Mo_take l X m0 aV aB aRS aRT aO aA aBt aD aT aS aR aE aK aIV aIN aOp aRw aGn P nk nr ns oP tk oA T fr on vl iv hP6 hvl kf opf hop0 n hn4 (kf n) rfl rws gds htk) (gcons m_638 (gcons m_640 (gcons ms_Mo_take (gcons m_8 (gcons m_641 gG))))) (by decide +kernel) [0, 1, 2, 3, 4, 5, 6] [] rfl rfl (by decide) (by decide) (by decide) 0 rfl rfl rfl hl.1 (Nat.le_of_ble_eq_true rfl) rfl d_Mo_next_87 ⟨rfl, rfl, Nat.le_of_ble_eq_true rfl, Nat.le_of_ble_eq_true rfl⟩ (⟨Nat.le_of_ble_eq_true rfl, Nat.le_of_ble_eq_true rfl⟩) (fun u5 H locs hop9 hP hD hS => ?_)
          have hP : va_P X.1 classes [(m0, .inr (6, [.int (nI P), .ref aV, .ref aB, .int (nI nk), .ref aRS, .ref aRT, .int (nI T.2.2.2.2.2.2), .ref aO, .ref aA, .ref aBt, .ref aD, .ref aT, .int (nI T.2.2.2.2.2.1), .ref aS, .int (nI nr), .ref aR, .int (nI ns), .ref aE, .int (bI fr), .ref aK, .ref aIV, .ref aIN, .int (bI on), .ref aOp, .int (oP - nI (cB (plB vl iv (kf n) opf n) (2 ^ P))), .int (oA - nI (cB (cnB vl iv (kf n) opf n) (2 ^ P))), .int (nI (tk + 1)), .ref aRw, .ref aGn])), (aV, .inl (X.2 0, 6, .inl (ia (rv P vl)))), (aB, .inl (X.2 2, 24, .inl (ba (bdF iv)))), (aK, .inl (X.2 3, 4096, .inl kf)), (aOp, .inl (X.2 2, 4096, .inl (ba u5))), (aRw, .inl (X.2 4, 528, .inl (ia (upN rws tk n)))), (aGn, .inl (X.2 4, 528, .inl (ia (upN gds tk (cB (cnB vl iv (kf n) opf n) (2 ^ P))))))] H := hP
          have hD : va_D A [(m0, .inr (6, [.int (nI P), .ref aV, .ref aB, .int (nI nk), .ref aRS, .ref aRT, .int (nI T.2.2.2.2.2.2), .ref aO, .ref aA, .ref aBt, .ref aD, .ref aT, .int (nI T.2.2.2.2.2.1), .ref aS, .int (nI nr), .ref aR, .int (nI ns), .ref aE, .int (bI fr), .ref aK, .ref aIV, .ref aIN, .int (bI on), .ref aOp, .int (oP - nI (cB (plB vl iv (kf n) opf n) (2 ^ P))), .int (oA - nI (cB (cnB vl iv (kf n) opf n) (2 ^ P))), .int (nI (tk + 1)), .ref aRw, .ref aGn])), (aV, .inl (X.2 0, 6, .inl (ia (rv P vl)))), (aB, .inl (X.2 2, 24, .inl (ba (bdF iv)))), (aK, .inl (X.2 3, 4096, .inl kf)), (aOp, .inl (X.2 2, 4096, .inl (ba u5))), (aRw, .inl (X.2 4, 528, .inl (ia (upN rws tk n)))), (aGn, .inl (X.2 4, 528, .inl (ia (upN gds tk (cB (cnB vl iv (kf n) opf n) (2 ^ P))))))] := hD
          refine lv_iload_n hx hb d_Mo_next_90 rfl (lv_at hl 2 rfl) ?_
          exact retI (u := (n, u5)) hx hb hr hlk hP hD hS (⟨rfl, hbq, hop9⟩) d_Mo_next_91
        · rw [nI_leI (by omega) (by omega)] at hc44
          refine lv_aload_n hx hb d_Mo_next_47 rfl (lv_at hl 0 rfl) ?_
          refine va_get (D := X.1) (ci := 6) (v := .ref aK) (C := R_Mo) (T := F_Mo) (N := 29) hx hb hg in_Mo hown hE.1 hP 0 rfl rfl 19 (by decide) (hg _ m_494) (fun _ h9 => h9) rfl d_Mo_next_48 ?_
          refine lv_iload hx hb d_Mo_next_51 (lv_at hl 4 rfl) ?_
          refine va_bald hx hb hE.1 hP 3 3 rfl rfl (vp_in_nI (by omega) (by decide)) d_Mo_next_53 ?_
          refine topI (y := kf k) (by rw [nI_clamp (by omega)]) ?_
          refine topI (y := kf k) (rfl) ?_
          refine lv_iload_n hx hb d_Mo_next_54 rfl (lv_at hl 1 rfl) ?_
          refine lv_icmp_ne (tgt := 79) hx hb d_Mo_next_55 (by decide) (fun hc55 => ?_) (fun hc55 => ?_)
          · refine lv_iinc (k := 4) (v := nI (k + 1)) hx hb d_Mo_next_79 hl rfl (nI_1 _) (by decide) rfl (fun ls hl => ?_)
            have hl : lv_has ls 6 [(4, .int (nI (k + 1))), (0, .ref m0), (1, .int (nI 1)), (2, .int (oI b)), (3, .int (mI (fun r9 => cB (cnB vl iv (kf r9) opf r9) (2 ^ P)) b))] := hl
            refine lv_goto (tgt := 39) hx hb d_Mo_next_82 (by decide) ?_
            exact ih39 (k + 1, b) H locs ls (by (try dsimp only); omega) (by first | exact ⟨by (try dsimp only); omega, bq_no hbq (decide_eq_false hc55)⟩ | exact ⟨by (try dsimp only); omega, bq_le hg9 hbq hc70⟩ | exact ⟨by (try dsimp only); omega, bq_new hg9 hbq (decide_eq_true hc55) hc70⟩) hP hD hS (lv_sub hl [1, 2, 3, 4, 0] rfl)
          · refine lv_aload_n hx hb d_Mo_next_58 rfl (lv_at hl 0 rfl) ?_
            refine lv_iload hx hb d_Mo_next_59 (lv_at hl 4 rfl) ?_
            refine lv_iconst (v := nI 0) hx hb d_Mo_next_61 (by decide) ?_
            refine clVI (n := 2) (As := [.int (nI k), .int (nI 0)]) (rest := []) (wc := [(m0, .inr (6, [.int (nI P), .ref aV, .ref aB, .int (nI nk), .ref aRS, .ref aRT, .int (nI T.2.2.2.2.2.2), .ref aO, .ref aA, .ref aBt, .ref aD, .ref aT, .int (nI T.2.2.2.2.2.1), .ref aS, .int (nI nr), .ref aR, .int (nI ns), .ref aE, .int (bI fr), .ref aK, .ref aIV, .ref aIN, .int (bI on), .ref aOp, .int oP, .int oA, .int (nI tk), .ref aRw, .ref aGn])), (aV, .inl (X.2 0, 6, .inl (ia (rv P vl)))), (aB, .inl (X.2 2, 24, .inl (ba (bdF iv)))), (aK, .inl (X.2 3, 4096, .inl kf)), (aOp, .inl (X.2 2, 4096, .inl (ba opf)))]) (wr := [(aRw, .inl (X.2 4, 528, .inl (ia rws))), (aGn, .inl (X.2 4, 528, .inl (ia gds)))]) hx hb hml hown hg hE hA hP hD hS (k_Mo_countF l X m0 aV aB aRS aRT aO aA aBt aD aT aS aR aE aK aIV aIN aOp aRw aGn P nk nr ns oP tk oA T fr on vl iv hP6 hvl kf opf hop0 k (by omega) (kf k) rfl) (gcons m_642 (gcons m_644 (gcons ms_Mo_count (gcons m_8 (gcons m_645 gG))))) (by decide +kernel) [0, 1, 2, 3, 4] [5, 6] rfl rfl (by decide) (by decide) (by decide) 0 rfl rfl rfl hl.1 (Nat.le_of_ble_eq_true rfl) rfl d_Mo_next_62 ⟨rfl, rfl, Nat.le_of_ble_eq_true rfl, Nat.le_of_ble_eq_true rfl⟩ (⟨Nat.le_of_ble_eq_true rfl, Nat.le_of_ble_eq_true rfl⟩) (fun r62 u62 H locs hq62 hP hD hS => ?_)
            have hq62 : r62 = nI (cB (cnB vl iv (kf k) opf k) (2 ^ P)) := hq62
            subst hq62
            have hP := hP.sub (ws' := [(m0, .inr (6, [.int (nI P), .ref aV, .ref aB, .int (nI nk), .ref aRS, .ref aRT, .int (nI T.2.2.2.2.2.2), .ref aO, .ref aA, .ref aBt, .ref aD, .ref aT, .int (nI T.2.2.2.2.2.1), .ref aS, .int (nI nr), .ref aR, .int (nI ns), .ref aE, .int (bI fr), .ref aK, .ref aIV, .ref aIN, .int (bI on), .ref aOp, .int oP, .int oA, .int (nI tk), .ref aRw, .ref aGn])), (aV, .inl (X.2 0, 6, .inl (ia (rv P vl)))), (aB, .inl (X.2 2, 24, .inl (ba (bdF iv)))), (aK, .inl (X.2 3, 4096, .inl kf)), (aOp, .inl (X.2 2, 4096, .inl (ba opf))), (aRw, .inl (X.2 4, 528, .inl (ia rws))), (aGn, .inl (X.2 4, 528, .inl (ia gds)))]) [2, 3, 4, 5, 6, 0, 1] rfl
            have hD := hD.sub (ws' := [(m0, .inr (6, [.int (nI P), .ref aV, .ref aB, .int (nI nk), .ref aRS, .ref aRT, .int (nI T.2.2.2.2.2.2), .ref aO, .ref aA, .ref aBt, .ref aD, .ref aT, .int (nI T.2.2.2.2.2.1), .ref aS, .int (nI nr), .ref aR, .int (nI ns), .ref aE, .int (bI fr), .ref aK, .ref aIV, .ref aIN, .int (bI on), .ref aOp, .int oP, .int oA, .int (nI tk), .ref aRw, .ref aGn])), (aV, .inl (X.2 0, 6, .inl (ia (rv P vl)))), (aB, .inl (X.2 2, 24, .inl (ba (bdF iv)))), (aK, .inl (X.2 3, 4096, .inl kf)), (aOp, .inl (X.2 2, 4096, .inl (ba opf))), (aRw, .inl (X.2 4, 528, .inl (ia rws))), (aGn, .inl (X.2 4, 528, .inl (ia gds)))]) [2, 3, 4, 5, 6, 0, 1] (by decide) rfl
            refine lv_istore hx hb d_Mo_next_65 hl (by decide) rfl (fun ls hl => ?_)
            have hl : lv_has ls 6 [(5, .int (nI (cB (cnB vl iv (kf k) opf k) (2 ^ P)))), (0, .ref m0), (1, .int (nI 1)), (2, .int (oI b)), (3, .int (mI (fun r9 => cB (cnB vl iv (kf r9) opf r9) (2 ^ P)) b)), (4, .int (nI k))] := hl
            refine lv_iload hx hb d_Mo_next_67 (lv_at hl 0 rfl) ?_
            refine lv_iload_n hx hb d_Mo_next_69 rfl (lv_at hl 4 rfl) ?_
            refine lv_icmp_le (tgt := 79) hx hb d_Mo_next_70 (by decide) (fun hc70 => ?_) (fun hc70 => ?_)
            · refine lv_iinc (k := 5) (v := nI (k + 1)) hx hb d_Mo_next_79 hl rfl (nI_1 _) (by decide) rfl (fun ls hl => ?_)
              have hl : lv_has ls 6 [(4, .int (nI (k + 1))), (5, .int (nI (cB (cnB vl iv (kf k) opf k) (2 ^ P)))), (0, .ref m0), (1, .int (nI 1)), (2, .int (oI b)), (3, .int (mI (fun r9 => cB (cnB vl iv (kf r9) opf r9) (2 ^ P)) b))] := hl
              refine lv_goto (tgt := 39) hx hb d_Mo_next_82 (by decide) ?_
              exact ih39 (k + 1, b) H locs ls (by (try dsimp only); omega) (by first | exact ⟨by (try dsimp only); omega, bq_no hbq (decide_eq_false hc55)⟩ | exact ⟨by (try dsimp only); omega, bq_le hg9 hbq hc70⟩ | exact ⟨by (try dsimp only); omega, bq_new hg9 hbq (decide_eq_true hc55) hc70⟩) hP hD hS (lv_sub hl [2, 3, 4, 5, 0] rfl)
            · refine lv_iload hx hb d_Mo_next_73 (lv_at hl 0 rfl) ?_
              refine lv_istore_n hx hb d_Mo_next_75 rfl hl (by decide) rfl (fun ls hl => ?_)
              have hl : lv_has ls 6 [(3, .int (nI (cB (cnB vl iv (kf k) opf k) (2 ^ P)))), (5, .int (nI (cB (cnB vl iv (kf k) opf k) (2 ^ P)))), (0, .ref m0), (1, .int (nI 1)), (2, .int (oI b)), (4, .int (nI k))] := hl
              refine lv_iload hx hb d_Mo_next_76 (lv_at hl 5 rfl) ?_
              refine lv_istore_n hx hb d_Mo_next_78 rfl hl (by decide) rfl (fun ls hl => ?_)
              have hl : lv_has ls 6 [(2, .int (nI k)), (3, .int (nI (cB (cnB vl iv (kf k) opf k) (2 ^ P)))), (5, .int (nI (cB (cnB vl iv (kf k) opf k) (2 ^ P)))), (0, .ref m0), (1, .int (nI 1)), (4, .int (nI k))] := hl
              refine lv_iinc (k := 5) (v := nI (k + 1)) hx hb d_Mo_next_79 hl rfl (nI_1 _) (by decide) rfl (fun ls hl => ?_)
              have hl : lv_has ls 6 [(4, .int (nI (k + 1))), (2, .int (nI k)), (3, .int (nI (cB (cnB vl iv (kf k) opf k) (2 ^ P)))), (5, .int (nI (cB (cnB vl iv (kf k) opf k) (2 ^ P)))), (0, .ref m0), (1, .int (nI 1))] := hl
              refine lv_goto (tgt := 39) hx hb d_Mo_next_82 (by decide) ?_
              exact ih39 (k + 1, some k) H locs ls (by (try dsimp only); omega) (by first | exact ⟨by (try dsimp only); omega, bq_no hbq (decide_eq_false hc55)⟩ | exact ⟨by (try dsimp only); omega, bq_le hg9 hbq hc70⟩ | exact ⟨by (try dsimp only); omega, bq_new hg9 hbq (decide_eq_true hc55) hc70⟩) hP hD hS (lv_sub hl [4, 5, 1, 2, 0] rfl)
      · exfalso; exact hoP (nle_gt hc23)
    · exfalso; exact hoA hc13
  · exfalso; rw [bI_z, hon] at hc4; cases hc4
set_option maxHeartbeats 4000000 in
set_option maxRecDepth 100000 in
theorem k_Mo_least (l : Launch) (X : Cx) (m0 aV aB aRS aRT aO aA aBt aD aT aS aR aE aK aIV aIN aOp aRw aGn : Nat) (P nk nr ns : Nat) (oP : Int32) (tk : Nat) (oA : Int32) (T : TS) (fr on : Bool) (vf : Nat → Bool) (n t : Nat) (hn : n < 64) (ht : t < 64) (hc3 : cn n 6 ≤ 3) : CtI l X (TY X) y_Mo_least cw_Mo_least ({ frames := 0, cells := 0, slots := 0, locals := 0 } : Room) [.ref m0, .int (nI (64 * n + t))] [(m0, .inr (6, [.int (nI P), .ref aV, .ref aB, .int (nI nk), .ref aRS, .ref aRT, .int (nI T.2.2.2.2.2.2), .ref aO, .ref aA, .ref aBt, .ref aD, .ref aT, .int (nI T.2.2.2.2.2.1), .ref aS, .int (nI nr), .ref aR, .int (nI ns), .ref aE, .int (bI fr), .ref aK, .ref aIV, .ref aIN, .int (bI on), .ref aOp, .int oP, .int oA, .int (nI tk), .ref aRw, .ref aGn])), (aIV, .inl (X.2 2, 4096, .inl (ba vf)))] (S := Unit) (fun r _ => r = bI (lsB vf n t 6)) (fun _ => [(m0, .inr (6, [.int (nI P), .ref aV, .ref aB, .int (nI nk), .ref aRS, .ref aRT, .int (nI T.2.2.2.2.2.2), .ref aO, .ref aA, .ref aBt, .ref aD, .ref aT, .int (nI T.2.2.2.2.2.1), .ref aS, .int (nI nr), .ref aR, .int (nI ns), .ref aE, .int (bI fr), .ref aK, .ref aIV, .ref aIN, .int (bI on), .ref aOp, .int oP, .int oA, .int (nI tk), .ref aRw, .ref aGn])), (aIV, .inl (X.2 2, 4096, .inl (ba vf)))]) 0 0 := by
  refine metI (by decide) (Nat.le_of_ble_eq_true rfl) ?_
  intro p e s m below meth c A ls hB hl
  obtain ⟨hx, hb, hr, hml, hown, hlk, hin, hg, hA, hD, hP, hE⟩ := hB
  have hS : va_S A s.heap s.heap [] := va_S.rf
  have hl : lv_has ls 8 [(0, .ref m0), (1, .int (nI (64 * n + t)))] := hl
  refine lv_iload_n hx hb d_Mo_least_0 rfl (lv_at hl 1 rfl) ?_
  refine lv_bipush (v := nI 64) hx hb d_Mo_least_1 (by decide) ?_
  refine lv_idiv hx hb d_Mo_least_3 (by decide) ?_
  refine topI (y := nI n) ((pk_div (by omega) (by decide) (by decide)).trans (congrArg nI (by omega))) ?_
  refine lv_istore_n hx hb d_Mo_least_4 rfl hl (by decide) rfl (fun ls hl => ?_)
  have hl : lv_has ls 8 [(2, .int (nI n)), (0, .ref m0), (1, .int (nI (64 * n + t)))] := hl
  refine lv_iconst (v := nI 1) hx hb d_Mo_least_5 (by decide) ?_
  refine topI (y := bI (lsB vf n t 0)) (rfl) ?_
  refine lv_istore_n hx hb d_Mo_least_6 rfl hl (by decide) rfl (fun ls hl => ?_)
  have hl : lv_has ls 8 [(3, .int (bI (lsB vf n t 0))), (2, .int (nI n)), (0, .ref m0), (1, .int (nI (64 * n + t)))] := hl
  refine lv_iconst (v := nI 0) hx hb d_Mo_least_7 (by decide) ?_
  refine lv_istore hx hb d_Mo_least_8 hl (by decide) rfl (fun ls hl => ?_)
  have hl : lv_has ls 8 [(4, .int (nI 0)), (3, .int (bI (lsB vf n t 0))), (2, .int (nI n)), (0, .ref m0), (1, .int (nI (64 * n + t)))] := hl
  refine lv_iconst (v := nI 0) hx hb d_Mo_least_10 (by decide) ?_
  refine lv_istore hx hb d_Mo_least_11 hl (by decide) rfl (fun ls hl => ?_)
  have hl : lv_has ls 8 [(5, .int (nI 0)), (4, .int (nI 0)), (3, .int (bI (lsB vf n t 0))), (2, .int (nI n)), (0, .ref m0), (1, .int (nI (64 * n + t)))] := hl
  refine wLoop (nL := 8) (σ := (Nat)) (fun i => 6 - i) (fun i => i ≤ 6) (fun i => [(m0, .inr (6, [.int (nI P), .ref aV, .ref aB, .int (nI nk), .ref aRS, .ref aRT, .int (nI T.2.2.2.2.2.2), .ref aO, .ref aA, .ref aBt, .ref aD, .ref aT, .int (nI T.2.2.2.2.2.1), .ref aS, .int (nI nr), .ref aR, .int (nI ns), .ref aE, .int (bI fr), .ref aK, .ref aIV, .ref aIN, .int (bI on), .ref aOp, .int oP, .int oA, .int (nI tk), .ref aRw, .ref aGn])), (aIV, .inl (X.2 2, 4096, .inl (ba vf)))]) (fun i => [(0, .ref m0), (1, .int (nI (64 * n + t))), (2, .int (nI n)), (3, .int (bI (lsB vf n t i))), (4, .int (nI (2 * cn n i))), (5, .int (nI i))]) ?_ 0 (by omega) hP hD hS (lv_sub hl [4, 5, 3, 2, 1, 0] rfl)
  rintro i H locs ls hJ hP hD hS hl ih13
  have hJ : i ≤ 6 := hJ
  have hcn := cn_le n i
  have hP : va_P X.1 classes [(m0, .inr (6, [.int (nI P), .ref aV, .ref aB, .int (nI nk), .ref aRS, .ref aRT, .int (nI T.2.2.2.2.2.2), .ref aO, .ref aA, .ref aBt, .ref aD, .ref aT, .int (nI T.2.2.2.2.2.1), .ref aS, .int (nI nr), .ref aR, .int (nI ns), .ref aE, .int (bI fr), .ref aK, .ref aIV, .ref aIN, .int (bI on), .ref aOp, .int oP, .int oA, .int (nI tk), .ref aRw, .ref aGn])), (aIV, .inl (X.2 2, 4096, .inl (ba vf)))] H := hP
  have hD : va_D A [(m0, .inr (6, [.int (nI P), .ref aV, .ref aB, .int (nI nk), .ref aRS, .ref aRT, .int (nI T.2.2.2.2.2.2), .ref aO, .ref aA, .ref aBt, .ref aD, .ref aT, .int (nI T.2.2.2.2.2.1), .ref aS, .int (nI nr), .ref aR, .int (nI ns), .ref aE, .int (bI fr), .ref aK, .ref aIV, .ref aIN, .int (bI on), .ref aOp, .int oP, .int oA, .int (nI tk), .ref aRw, .ref aGn])), (aIV, .inl (X.2 2, 4096, .inl (ba vf)))] := hD
  have hl : lv_has ls 8 [(0, .ref m0), (1, .int (nI (64 * n + t))), (2, .int (nI n)), (3, .int (bI (lsB vf n t i))), (4, .int (nI (2 * cn n i))), (5, .int (nI i))] := hl
  refine lv_iload hx hb d_Mo_least_13 (lv_at hl 5 rfl) ?_
  refine lv_bipush (v := nI 6) hx hb d_Mo_least_15 (by decide) ?_
  refine lv_icmp_ge (tgt := 104) hx hb d_Mo_least_17 (by decide) (fun hc17 => ?_) (fun hc17 => ?_)
  · rw [nI_leI (by omega) (by omega)] at hc17
    obtain rfl : i = 6 := by omega
    refine lv_iload_n hx hb d_Mo_least_104 rfl (lv_at hl 3 rfl) ?_
    exact retZ (u := ()) hx hb hr hlk (bI_01 _) hP hD hS (rfl) d_Mo_least_105
  · rw [nI_leI (by omega) (by omega)] at hc17
    refine lv_iload_n hx hb d_Mo_least_20 rfl (lv_at hl 2 rfl) ?_
    refine lv_iload hx hb d_Mo_least_21 (lv_at hl 5 rfl) ?_
    refine lv_ishr hx hb d_Mo_least_23 ?_
    refine topI (shrN (by omega) (by omega)) ?_
    refine lv_iconst (v := nI 1) hx hb d_Mo_least_24 (by decide) ?_
    refine lv_iand hx hb d_Mo_least_25 ?_
    refine topI (nx_and _ _) ?_
    refine lv_iconst (v := nI 1) hx hb d_Mo_least_26 (by decide) ?_
    refine lv_icmp_ne (tgt := 98) hx hb d_Mo_least_27 (by decide) (fun hc27 => ?_) (fun hc27 => ?_)
    · rw [tb_1] at hc27
      have hl : lv_has ls 8 [(0, .ref m0), (1, .int (nI (64 * n + t))), (2, .int (nI n)), (3, .int (bI (lsB vf n t (i + 1)))), (4, .int (nI (2 * cn n (i + 1)))), (5, .int (nI i))] := by rw [ls_f (ts_nt hc27), cn_f (ts_nt hc27)]; exact hl
      refine lv_iinc (k := 5) (v := nI (i + 1)) hx hb d_Mo_least_98 hl rfl (nI_1 _) (by decide) rfl (fun ls hl => ?_)
      have hl : lv_has ls 8 [(5, .int (nI (i + 1))), (0, .ref m0), (1, .int (nI (64 * n + t))), (2, .int (nI n)), (3, .int (bI (lsB vf n t (i + 1)))), (4, .int (nI (2 * cn n (i + 1))))] := hl
      refine lv_goto (tgt := 13) hx hb d_Mo_least_101 (by decide) ?_
      exact ih13 (i + 1) H locs ls (by (try dsimp only); omega) (by (try dsimp only); omega) hP hD hS (lv_sub hl [1, 2, 3, 4, 5, 0] rfl)
    · rw [tb_1] at hc27
      have hk3 := cn_in hc3 (by omega) hc27
      have hrl := rmD_lt ht hk3
      have hrm := rm_lt hn i
      have h2k : 2 ^ (2 * cn n i) ≤ 2 ^ 4 := Nat.pow_le_pow_right (by decide) (by omega)
      have h2p : 0 < 2 ^ (2 * cn n i) := Nat.pow_pos (by decide)
      refine lv_iload_n hx hb d_Mo_least_30 rfl (lv_at hl 1 rfl) ?_
      refine lv_bipush (v := nI 64) hx hb d_Mo_least_31 (by decide) ?_
      refine lv_irem hx hb d_Mo_least_33 (by decide) ?_
      refine topI (y := nI t) ((pk_rem (by omega) (by decide) (by decide)).trans (congrArg nI (by omega))) ?_
      refine lv_iconst (v := nI 1) hx hb d_Mo_least_34 (by decide) ?_
      refine lv_iload hx hb d_Mo_least_35 (lv_at hl 4 rfl) ?_
      refine lv_ishl hx hb d_Mo_least_37 ?_
      refine topI (shlN (by omega) (by omega)) ?_
      refine lv_iconst (v := nI 1) hx hb d_Mo_least_38 (by decide) ?_
      refine lv_isub hx hb d_Mo_least_39 ?_
      refine topI (pk_sub (by omega)) ?_
      refine lv_iand hx hb d_Mo_least_40 ?_
      refine topI (y := nI (t % 4 ^ cn n i)) (an_lo) ?_
      refine lv_istore hx hb d_Mo_least_41 hl (by decide) rfl (fun ls hl => ?_)
      have hl : lv_has ls 8 [(6, .int (nI (t % 4 ^ cn n i))), (0, .ref m0), (1, .int (nI (64 * n + t))), (2, .int (nI n)), (3, .int (bI (lsB vf n t i))), (4, .int (nI (2 * cn n i))), (5, .int (nI i))] := hl
      refine lv_iload_n hx hb d_Mo_least_43 rfl (lv_at hl 2 rfl) ?_
      refine lv_bipush (v := nI 64) hx hb d_Mo_least_44 (by decide) ?_
      refine lv_irem hx hb d_Mo_least_46 (by decide) ?_
      refine topI (y := nI t) ((pk_rem (by omega) (by decide) (by decide)).trans (congrArg nI (by omega))) ?_
      refine lv_iload hx hb d_Mo_least_47 (lv_at hl 5 rfl) ?_
      refine lv_iconst (v := nI 2) hx hb d_Mo_least_49 (by decide) ?_
      refine lv_iadd hx hb d_Mo_least_50 ?_
      refine topI (nI_add _ _) ?_
      refine lv_ishr hx hb d_Mo_least_51 ?_
      refine topI (y := nI (t / 4 ^ (cn n i + 1))) (by rw [shrN (by omega) (by omega), show 2 * cn n i + 2 = 2 * (cn n i + 1) by omega, p24]) ?_
      refine lv_istore hx hb d_Mo_least_52 hl (by decide) rfl (fun ls hl => ?_)
      have hl : lv_has ls 8 [(7, .int (nI (t / 4 ^ (cn n i + 1)))), (6, .int (nI (t % 4 ^ cn n i))), (0, .ref m0), (1, .int (nI (64 * n + t))), (2, .int (nI n)), (3, .int (bI (lsB vf n t i))), (4, .int (nI (2 * cn n i))), (5, .int (nI i))] := hl
      refine lv_iload_n hx hb d_Mo_least_54 rfl (lv_at hl 5 rfl) ?_
      refine lv_if_eq (tgt := 90) hx hb d_Mo_least_55 (by decide) (fun hc55 => ?_) (fun hc55 => ?_)
      · rw [bI_z] at hc55
        refine lv_iconst (v := nI 0) hx hb d_Mo_least_90 (by decide) ?_
        refine topI (y := bI (lsB vf n t (i + 1))) (by first | (rw [ls_0 hc55]; rfl) | (rw [ls_1 hc27 hc83]; rfl)) ?_
        refine lv_istore_n hx hb d_Mo_least_91 rfl hl (by decide) rfl (fun ls hl => ?_)
        have hl : lv_has ls 8 [(3, .int (bI (lsB vf n t (i + 1)))), (7, .int (nI (t / 4 ^ (cn n i + 1)))), (6, .int (nI (t % 4 ^ cn n i))), (0, .ref m0), (1, .int (nI (64 * n + t))), (2, .int (nI n)), (4, .int (nI (2 * cn n i))), (5, .int (nI i))] := hl
        refine lv_iload hx hb d_Mo_least_92 (lv_at hl 6 rfl) ?_
        refine lv_iconst (v := nI 2) hx hb d_Mo_least_94 (by decide) ?_
        refine lv_iadd hx hb d_Mo_least_95 ?_
        refine topI (y := nI (2 * cn n (i + 1))) (by rw [nI_add, cn_s2 hc27]) ?_
        refine lv_istore hx hb d_Mo_least_96 hl (by decide) rfl (fun ls hl => ?_)
        have hl : lv_has ls 8 [(4, .int (nI (2 * cn n (i + 1)))), (3, .int (bI (lsB vf n t (i + 1)))), (7, .int (nI (t / 4 ^ (cn n i + 1)))), (6, .int (nI (t % 4 ^ cn n i))), (0, .ref m0), (1, .int (nI (64 * n + t))), (2, .int (nI n)), (5, .int (nI i))] := hl
        refine lv_iinc (k := 7) (v := nI (i + 1)) hx hb d_Mo_least_98 hl rfl (nI_1 _) (by decide) rfl (fun ls hl => ?_)
        have hl : lv_has ls 8 [(5, .int (nI (i + 1))), (4, .int (nI (2 * cn n (i + 1)))), (3, .int (bI (lsB vf n t (i + 1)))), (7, .int (nI (t / 4 ^ (cn n i + 1)))), (6, .int (nI (t % 4 ^ cn n i))), (0, .ref m0), (1, .int (nI (64 * n + t))), (2, .int (nI n))] := hl
        refine lv_goto (tgt := 13) hx hb d_Mo_least_101 (by decide) ?_
        exact ih13 (i + 1) H locs ls (by (try dsimp only); omega) (by (try dsimp only); omega) hP hD hS (lv_sub hl [5, 6, 7, 2, 1, 0] rfl)
      · rw [bI_z] at hc55
        refine lv_aload_n hx hb d_Mo_least_58 rfl (lv_at hl 2 rfl) ?_
        refine va_get (D := X.1) (ci := 6) (v := .ref aIV) (C := R_Mo) (T := F_Mo) (N := 29) hx hb hg in_Mo hown hE.1 hP 0 rfl rfl 20 (by decide) (hg _ m_495) (fun _ h9 => h9) rfl d_Mo_least_59 ?_
        refine lv_bipush (v := nI 64) hx hb d_Mo_least_62 (by decide) ?_
        refine lv_iload_n hx hb d_Mo_least_64 rfl (lv_at hl 4 rfl) ?_
        refine lv_iconst (v := nI 1) hx hb d_Mo_least_65 (by decide) ?_
        refine lv_iload hx hb d_Mo_least_66 (lv_at hl 7 rfl) ?_
        refine lv_ishl hx hb d_Mo_least_68 ?_
        refine topI (shlN (by omega) (pw1 (by omega))) ?_
        refine lv_iconst (v := (-1)) hx hb d_Mo_least_69 (by decide) ?_
        refine lv_ixor hx hb d_Mo_least_70 ?_
        refine lv_iand hx hb d_Mo_least_71 ?_
        refine topI (y := nI (rmS n i)) (rm_n n hn i (by omega)) ?_
        refine lv_imul hx hb d_Mo_least_72 ?_
        refine topI (pk_mul _ _) ?_
        refine lv_iload hx hb d_Mo_least_73 (lv_at hl 0 rfl) ?_
        refine lv_iload hx hb d_Mo_least_75 (lv_at hl 6 rfl) ?_
        refine lv_ishl hx hb d_Mo_least_77 ?_
        refine topI (shlN (by omega) (by have hq9 : t / 4 ^ (cn n i + 1) ≤ t := Nat.div_le_self _ _; exact Nat.lt_of_le_of_lt (Nat.mul_le_mul (show _ ≤ 63 by omega) h2k) (by decide))) ?_
        refine lv_iload hx hb d_Mo_least_78 (lv_at hl 1 rfl) ?_
        refine lv_ior hx hb d_Mo_least_80 ?_
        refine topI (y := nI (rmD t (cn n i))) (by rw [nx_or, rm_or]) ?_
        refine lv_iadd hx hb d_Mo_least_81 ?_
        refine topI (nI_add _ _) ?_
        refine va_zald hx hb hE.1 hP 1 2 rfl rfl (vp_in_nI (by omega) (by decide)) d_Mo_least_82 ?_
        refine topI (y := (ba vf) ((64 * (rmS n i)) + (rmD t (cn n i)))) (by rw [nI_clamp (by omega)]) ?_
        refine topI (y := bI (vf (64 * rmS n i + rmD t (cn n i)))) (rfl) ?_
        refine lv_if_eq (tgt := 90) hx hb d_Mo_least_83 (by decide) (fun hc83 => ?_) (fun hc83 => ?_)
        · rw [bI_z] at hc83
          refine lv_iconst (v := nI 0) hx hb d_Mo_least_90 (by decide) ?_
          refine topI (y := bI (lsB vf n t (i + 1))) (by first | (rw [ls_0 hc55]; rfl) | (rw [ls_1 hc27 hc83]; rfl)) ?_
          refine lv_istore_n hx hb d_Mo_least_91 rfl hl (by decide) rfl (fun ls hl => ?_)
          have hl : lv_has ls 8 [(3, .int (bI (lsB vf n t (i + 1)))), (7, .int (nI (t / 4 ^ (cn n i + 1)))), (6, .int (nI (t % 4 ^ cn n i))), (0, .ref m0), (1, .int (nI (64 * n + t))), (2, .int (nI n)), (4, .int (nI (2 * cn n i))), (5, .int (nI i))] := hl
          refine lv_iload hx hb d_Mo_least_92 (lv_at hl 6 rfl) ?_
          refine lv_iconst (v := nI 2) hx hb d_Mo_least_94 (by decide) ?_
          refine lv_iadd hx hb d_Mo_least_95 ?_
          refine topI (y := nI (2 * cn n (i + 1))) (by rw [nI_add, cn_s2 hc27]) ?_
          refine lv_istore hx hb d_Mo_least_96 hl (by decide) rfl (fun ls hl => ?_)
          have hl : lv_has ls 8 [(4, .int (nI (2 * cn n (i + 1)))), (3, .int (bI (lsB vf n t (i + 1)))), (7, .int (nI (t / 4 ^ (cn n i + 1)))), (6, .int (nI (t % 4 ^ cn n i))), (0, .ref m0), (1, .int (nI (64 * n + t))), (2, .int (nI n)), (5, .int (nI i))] := hl
          refine lv_iinc (k := 7) (v := nI (i + 1)) hx hb d_Mo_least_98 hl rfl (nI_1 _) (by decide) rfl (fun ls hl => ?_)
          have hl : lv_has ls 8 [(5, .int (nI (i + 1))), (4, .int (nI (2 * cn n (i + 1)))), (3, .int (bI (lsB vf n t (i + 1)))), (7, .int (nI (t / 4 ^ (cn n i + 1)))), (6, .int (nI (t % 4 ^ cn n i))), (0, .ref m0), (1, .int (nI (64 * n + t))), (2, .int (nI n))] := hl
          refine lv_goto (tgt := 13) hx hb d_Mo_least_101 (by decide) ?_
          exact ih13 (i + 1) H locs ls (by (try dsimp only); omega) (by (try dsimp only); omega) hP hD hS (lv_sub hl [5, 6, 7, 2, 1, 0] rfl)
        · rw [bI_z] at hc83
          refine lv_iconst (v := nI 1) hx hb d_Mo_least_86 (by decide) ?_
          refine topI (y := bI (lsB vf n t (i + 1))) (by rw [ls_t hc55 hc83]; rfl) ?_
          refine lv_goto (tgt := 91) hx hb d_Mo_least_87 (by decide) ?_
          refine lv_istore_n hx hb d_Mo_least_91 rfl hl (by decide) rfl (fun ls hl => ?_)
          have hl : lv_has ls 8 [(3, .int (bI (lsB vf n t (i + 1)))), (7, .int (nI (t / 4 ^ (cn n i + 1)))), (6, .int (nI (t % 4 ^ cn n i))), (0, .ref m0), (1, .int (nI (64 * n + t))), (2, .int (nI n)), (4, .int (nI (2 * cn n i))), (5, .int (nI i))] := hl
          refine lv_iload hx hb d_Mo_least_92 (lv_at hl 6 rfl) ?_
          refine lv_iconst (v := nI 2) hx hb d_Mo_least_94 (by decide) ?_
          refine lv_iadd hx hb d_Mo_least_95 ?_
          refine topI (y := nI (2 * cn n (i + 1))) (by rw [nI_add, cn_s2 hc27]) ?_
          refine lv_istore hx hb d_Mo_least_96 hl (by decide) rfl (fun ls hl => ?_)
          have hl : lv_has ls 8 [(4, .int (nI (2 * cn n (i + 1)))), (3, .int (bI (lsB vf n t (i + 1)))), (7, .int (nI (t / 4 ^ (cn n i + 1)))), (6, .int (nI (t % 4 ^ cn n i))), (0, .ref m0), (1, .int (nI (64 * n + t))), (2, .int (nI n)), (5, .int (nI i))] := hl
          refine lv_iinc (k := 7) (v := nI (i + 1)) hx hb d_Mo_least_98 hl rfl (nI_1 _) (by decide) rfl (fun ls hl => ?_)
          have hl : lv_has ls 8 [(5, .int (nI (i + 1))), (4, .int (nI (2 * cn n (i + 1)))), (3, .int (bI (lsB vf n t (i + 1)))), (7, .int (nI (t / 4 ^ (cn n i + 1)))), (6, .int (nI (t % 4 ^ cn n i))), (0, .ref m0), (1, .int (nI (64 * n + t))), (2, .int (nI n))] := hl
          refine lv_goto (tgt := 13) hx hb d_Mo_least_101 (by decide) ?_
          exact ih13 (i + 1) H locs ls (by (try dsimp only); omega) (by (try dsimp only); omega) hP hD hS (lv_sub hl [5, 6, 7, 2, 1, 0] rfl)
