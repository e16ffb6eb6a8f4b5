set_option maxHeartbeats 4000000 in
set_option maxRecDepth 100000 in
theorem k_Mo_push (l : Launch) (X : Cx) (m0 aV aB aRS aRT aO aA aBt aD aT aS aR aE aK aIV aIN aOp aRw aGn : Nat) (P nk nr ns : Nat) (oP : Int32) (tk : Nat) (oA : Int32) (T : TS) (fr on : Bool) (tc op a b d : Nat) (htc : tc < 8) (hnt : T.2.2.2.2.2.2 < 520) (hop : op < 128) (ha9 : a < 4096) (hb9 : b < 4096) (hd9 : d < 128) : CtI l X (TY X) y_Mo_push cw_Mo_push ({ frames := 0, cells := 0, slots := 0, locals := 0 } : Room) [.ref m0, .int (nI op), .int (nI a), .int (nI b), .int (nI d)] [(m0, .inr (6, [.int (nI P), .ref aV, .ref aB, .int (nI nk), .ref aRS, .ref aRT, .int (nI T.2.2.2.2.2.2), .ref aO, .ref aA, .ref aBt, .ref aD, .ref aT, .int (nI tc), .ref aS, .int (nI nr), .ref aR, .int (nI ns), .ref aE, .int (bI fr), .ref aK, .ref aIV, .ref aIN, .int (bI on), .ref aOp, .int oP, .int oA, .int (nI tk), .ref aRw, .ref aGn])), (aO, .inl (X.2 3, 520, .inl (ia T.1))), (aA, .inl (X.2 4, 520, .inl (ia T.2.1))), (aBt, .inl (X.2 4, 520, .inl (ia T.2.2.1))), (aD, .inl (X.2 3, 520, .inl (ia T.2.2.2.1))), (aS, .inl (X.2 0, 8, .inl (ia T.2.2.2.2.1)))] (S := Unit) (fun r _ => r = nI 1) (fun _ => [(m0, .inr (6, [.int (nI P), .ref aV, .ref aB, .int (nI nk), .ref aRS, .ref aRT, .int (nI (T.2.2.2.2.2.2 + 1)), .ref aO, .ref aA, .ref aBt, .ref aD, .ref aT, .int (nI (tc + 1)), .ref aS, .int (nI nr), .ref aR, .int (nI ns), .ref aE, .int (bI fr), .ref aK, .ref aIV, .ref aIN, .int (bI on), .ref aOp, .int oP, .int oA, .int (nI tk), .ref aRw, .ref aGn])), (aO, .inl (X.2 3, 520, .inl (ia (upN T.1 T.2.2.2.2.2.2 op)))), (aA, .inl (X.2 4, 520, .inl (ia (upN T.2.1 T.2.2.2.2.2.2 a)))), (aBt, .inl (X.2 4, 520, .inl (ia (upN T.2.2.1 T.2.2.2.2.2.2 b)))), (aD, .inl (X.2 3, 520, .inl (ia (upN T.2.2.2.1 T.2.2.2.2.2.2 d)))), (aS, .inl (X.2 0, 8, .inl (ia (upN T.2.2.2.2.1 tc T.2.2.2.2.2.2))))]) 0 0 := by
  refine metI (by decide) (Nat.le_of_ble_eq_true rfl) ?_
  intro p e s m below meth c A ls hB hl
  obtain ⟨hx, hb, hr, hml, hown, hlk, hin, hg, hA, hD, hP, hE⟩ := hB
  have hS : va_S A s.heap s.heap [] := va_S.rf
  have hl : lv_has ls 5 [(0, .ref m0), (1, .int (nI op)), (2, .int (nI a)), (3, .int (nI b)), (4, .int (nI d))] := hl
  refine lv_aload_n hx hb d_Mo_push_0 rfl (lv_at hl 0 rfl) ?_
  refine va_get (D := X.1) (ci := 6) (v := .ref aO) (C := R_Mo) (T := F_Mo) (N := 29) hx hb hg in_Mo hown hE.1 hP 0 rfl rfl 7 (by decide) (hg _ m_482) (fun _ h9 => h9) rfl d_Mo_push_1 ?_
  refine lv_aload_n hx hb d_Mo_push_4 rfl (lv_at hl 0 rfl) ?_
  refine va_get (D := X.1) (ci := 6) (v := .int (nI T.2.2.2.2.2.2)) (C := R_Mo) (T := F_Mo) (N := 29) hx hb hg in_Mo hown hE.1 hP 0 rfl rfl 6 (by decide) (hg _ m_481) (fun _ h9 => h9) rfl d_Mo_push_5 ?_
  refine lv_iload_n hx hb d_Mo_push_8 rfl (lv_at hl 1 rfl) ?_
  refine lv_i2b hx hb d_Mo_push_9 rfl ?_
  refine topI (y := nI op) (i8N op hop) ?_
  refine va_bast hx hb hE.1 hP hD hS 1 3 rfl rfl (vp_in_nI (by omega) (by decide)) d_Mo_push_10 (fun H locs hP hD hS => ?_)
  have hP : va_P X.1 classes [(m0, .inr (6, [.int (nI P), .ref aV, .ref aB, .int (nI nk), .ref aRS, .ref aRT, .int (nI T.2.2.2.2.2.2), .ref aO, .ref aA, .ref aBt, .ref aD, .ref aT, .int (nI tc), .ref aS, .int (nI nr), .ref aR, .int (nI ns), .ref aE, .int (bI fr), .ref aK, .ref aIV, .ref aIN, .int (bI on), .ref aOp, .int oP, .int oA, .int (nI tk), .ref aRw, .ref aGn])), (aO, .inl (X.2 3, 520, .inl (upd (ia T.1) (nI T.2.2.2.2.2.2).toNatClampNeg (vp_nar .byte (nI op))))), (aA, .inl (X.2 4, 520, .inl (ia T.2.1))), (aBt, .inl (X.2 4, 520, .inl (ia T.2.2.1))), (aD, .inl (X.2 3, 520, .inl (ia T.2.2.2.1))), (aS, .inl (X.2 0, 8, .inl (ia T.2.2.2.2.1)))] H := hP
  have hD : va_D A [(m0, .inr (6, [.int (nI P), .ref aV, .ref aB, .int (nI nk), .ref aRS, .ref aRT, .int (nI T.2.2.2.2.2.2), .ref aO, .ref aA, .ref aBt, .ref aD, .ref aT, .int (nI tc), .ref aS, .int (nI nr), .ref aR, .int (nI ns), .ref aE, .int (bI fr), .ref aK, .ref aIV, .ref aIN, .int (bI on), .ref aOp, .int oP, .int oA, .int (nI tk), .ref aRw, .ref aGn])), (aO, .inl (X.2 3, 520, .inl (upd (ia T.1) (nI T.2.2.2.2.2.2).toNatClampNeg (vp_nar .byte (nI op))))), (aA, .inl (X.2 4, 520, .inl (ia T.2.1))), (aBt, .inl (X.2 4, 520, .inl (ia T.2.2.1))), (aD, .inl (X.2 3, 520, .inl (ia T.2.2.2.1))), (aS, .inl (X.2 0, 8, .inl (ia T.2.2.2.2.1)))] := hD
  rw [nI_clamp (show T.2.2.2.2.2.2 < 2 ^ 31 by omega)] at hP hD
  have e9 : upd (ia T.1) T.2.2.2.2.2.2 (vp_nar .byte (nI op)) = ia (upN T.1 T.2.2.2.2.2.2 op) := upd_by hop
  rw [e9] at hP hD
  clear e9
  refine lv_aload_n hx hb d_Mo_push_11 rfl (lv_at hl 0 rfl) ?_
  refine va_get (D := X.1) (ci := 6) (v := .ref aA) (C := R_Mo) (T := F_Mo) (N := 29) hx hb hg in_Mo hown hE.1 hP 0 rfl rfl 8 (by decide) (hg _ m_483) (fun _ h9 => h9) rfl d_Mo_push_12 ?_
  refine lv_aload_n hx hb d_Mo_push_15 rfl (lv_at hl 0 rfl) ?_
  refine va_get (D := X.1) (ci := 6) (v := .int (nI T.2.2.2.2.2.2)) (C := R_Mo) (T := F_Mo) (N := 29) hx hb hg in_Mo hown hE.1 hP 0 rfl rfl 6 (by decide) (hg _ m_481) (fun _ h9 => h9) rfl d_Mo_push_16 ?_
  refine lv_iload_n hx hb d_Mo_push_19 rfl (lv_at hl 2 rfl) ?_
  refine lv_i2s hx hb d_Mo_push_20 rfl ?_
  refine topI (y := nI a) (i16N ha9) ?_
  refine va_sast hx hb hE.1 hP hD hS 2 4 rfl rfl (vp_in_nI (by omega) (by decide)) d_Mo_push_21 (fun H locs hP hD hS => ?_)
  have hP : va_P X.1 classes [(m0, .inr (6, [.int (nI P), .ref aV, .ref aB, .int (nI nk), .ref aRS, .ref aRT, .int (nI T.2.2.2.2.2.2), .ref aO, .ref aA, .ref aBt, .ref aD, .ref aT, .int (nI tc), .ref aS, .int (nI nr), .ref aR, .int (nI ns), .ref aE, .int (bI fr), .ref aK, .ref aIV, .ref aIN, .int (bI on), .ref aOp, .int oP, .int oA, .int (nI tk), .ref aRw, .ref aGn])), (aO, .inl (X.2 3, 520, .inl (ia (upN T.1 T.2.2.2.2.2.2 op)))), (aA, .inl (X.2 4, 520, .inl (upd (ia T.2.1) (nI T.2.2.2.2.2.2).toNatClampNeg (vp_nar .short (nI a))))), (aBt, .inl (X.2 4, 520, .inl (ia T.2.2.1))), (aD, .inl (X.2 3, 520, .inl (ia T.2.2.2.1))), (aS, .inl (X.2 0, 8, .inl (ia T.2.2.2.2.1)))] H := hP
  have hD : va_D A [(m0, .inr (6, [.int (nI P), .ref aV, .ref aB, .int (nI nk), .ref aRS, .ref aRT, .int (nI T.2.2.2.2.2.2), .ref aO, .ref aA, .ref aBt, .ref aD, .ref aT, .int (nI tc), .ref aS, .int (nI nr), .ref aR, .int (nI ns), .ref aE, .int (bI fr), .ref aK, .ref aIV, .ref aIN, .int (bI on), .ref aOp, .int oP, .int oA, .int (nI tk), .ref aRw, .ref aGn])), (aO, .inl (X.2 3, 520, .inl (ia (upN T.1 T.2.2.2.2.2.2 op)))), (aA, .inl (X.2 4, 520, .inl (upd (ia T.2.1) (nI T.2.2.2.2.2.2).toNatClampNeg (vp_nar .short (nI a))))), (aBt, .inl (X.2 4, 520, .inl (ia T.2.2.1))), (aD, .inl (X.2 3, 520, .inl (ia T.2.2.2.1))), (aS, .inl (X.2 0, 8, .inl (ia T.2.2.2.2.1)))] := hD
  rw [nI_clamp (show T.2.2.2.2.2.2 < 2 ^ 31 by omega)] at hP hD
  have e9 : upd (ia T.2.1) T.2.2.2.2.2.2 (vp_nar .short (nI a)) = ia (upN T.2.1 T.2.2.2.2.2.2 a) := upd_sh ha9
  rw [e9] at hP hD
  clear e9
  refine lv_aload_n hx hb d_Mo_push_22 rfl (lv_at hl 0 rfl) ?_
  refine va_get (D := X.1) (ci := 6) (v := .ref aBt) (C := R_Mo) (T := F_Mo) (N := 29) hx hb hg in_Mo hown hE.1 hP 0 rfl rfl 9 (by decide) (hg _ m_484) (fun _ h9 => h9) rfl d_Mo_push_23 ?_
  refine lv_aload_n hx hb d_Mo_push_26 rfl (lv_at hl 0 rfl) ?_
  refine va_get (D := X.1) (ci := 6) (v := .int (nI T.2.2.2.2.2.2)) (C := R_Mo) (T := F_Mo) (N := 29) hx hb hg in_Mo hown hE.1 hP 0 rfl rfl 6 (by decide) (hg _ m_481) (fun _ h9 => h9) rfl d_Mo_push_27 ?_
  refine lv_iload_n hx hb d_Mo_push_30 rfl (lv_at hl 3 rfl) ?_
  refine lv_i2s hx hb d_Mo_push_31 rfl ?_
  refine topI (y := nI b) (i16N hb9) ?_
  refine va_sast hx hb hE.1 hP hD hS 3 4 rfl rfl (vp_in_nI (by omega) (by decide)) d_Mo_push_32 (fun H locs hP hD hS => ?_)
  have hP : va_P X.1 classes [(m0, .inr (6, [.int (nI P), .ref aV, .ref aB, .int (nI nk), .ref aRS, .ref aRT, .int (nI T.2.2.2.2.2.2), .ref aO, .ref aA, .ref aBt, .ref aD, .ref aT, .int (nI tc), .ref aS, .int (nI nr), .ref aR, .int (nI ns), .ref aE, .int (bI fr), .ref aK, .ref aIV, .ref aIN, .int (bI on), .ref aOp, .int oP, .int oA, .int (nI tk), .ref aRw, .ref aGn])), (aO, .inl (X.2 3, 520, .inl (ia (upN T.1 T.2.2.2.2.2.2 op)))), (aA, .inl (X.2 4, 520, .inl (ia (upN T.2.1 T.2.2.2.2.2.2 a)))), (aBt, .inl (X.2 4, 520, .inl (upd (ia T.2.2.1) (nI T.2.2.2.2.2.2).toNatClampNeg (vp_nar .short (nI b))))), (aD, .inl (X.2 3, 520, .inl (ia T.2.2.2.1))), (aS, .inl (X.2 0, 8, .inl (ia T.2.2.2.2.1)))] H := hP
  have hD : va_D A [(m0, .inr (6, [.int (nI P), .ref aV, .ref aB, .int (nI nk), .ref aRS, .ref aRT, .int (nI T.2.2.2.2.2.2), .ref aO, .ref aA, .ref aBt, .ref aD, .ref aT, .int (nI tc), .ref aS, .int (nI nr), .ref aR, .int (nI ns), .ref aE, .int (bI fr), .ref aK, .ref aIV, .ref aIN, .int (bI on), .ref aOp, .int oP, .int oA, .int (nI tk), .ref aRw, .ref aGn])), (aO, .inl (X.2 3, 520, .inl (ia (upN T.1 T.2.2.2.2.2.2 op)))), (aA, .inl (X.2 4, 520, .inl (ia (upN T.2.1 T.2.2.2.2.2.2 a)))), (aBt, .inl (X.2 4, 520, .inl (upd (ia T.2.2.1) (nI T.2.2.2.2.2.2).toNatClampNeg (vp_nar .short (nI b))))), (aD, .inl (X.2 3, 520, .inl (ia T.2.2.2.1))), (aS, .inl (X.2 0, 8, .inl (ia T.2.2.2.2.1)))] := hD
  rw [nI_clamp (show T.2.2.2.2.2.2 < 2 ^ 31 by omega)] at hP hD
  have e9 : upd (ia T.2.2.1) T.2.2.2.2.2.2 (vp_nar .short (nI b)) = ia (upN T.2.2.1 T.2.2.2.2.2.2 b) := upd_sh hb9
  rw [e9] at hP hD
  clear e9
  refine lv_aload_n hx hb d_Mo_push_33 rfl (lv_at hl 0 rfl) ?_
  refine va_get (D := X.1) (ci := 6) (v := .ref aD) (C := R_Mo) (T := F_Mo) (N := 29) hx hb hg in_Mo hown hE.1 hP 0 rfl rfl 10 (by decide) (hg _ m_485) (fun _ h9 => h9) rfl d_Mo_push_34 ?_
  refine lv_aload_n hx hb d_Mo_push_37 rfl (lv_at hl 0 rfl) ?_
  refine va_get (D := X.1) (ci := 6) (v := .int (nI T.2.2.2.2.2.2)) (C := R_Mo) (T := F_Mo) (N := 29) hx hb hg in_Mo hown hE.1 hP 0 rfl rfl 6 (by decide) (hg _ m_481) (fun _ h9 => h9) rfl d_Mo_push_38 ?_
  refine lv_iload hx hb d_Mo_push_41 (lv_at hl 4 rfl) ?_
  refine lv_i2b hx hb d_Mo_push_43 rfl ?_
  refine topI (y := nI d) (i8N d hd9) ?_
  refine va_bast hx hb hE.1 hP hD hS 4 3 rfl rfl (vp_in_nI (by omega) (by decide)) d_Mo_push_44 (fun H locs hP hD hS => ?_)
  have hP : va_P X.1 classes [(m0, .inr (6, [.int (nI P), .ref aV, .ref aB, .int (nI nk), .ref aRS, .ref aRT, .int (nI T.2.2.2.2.2.2), .ref aO, .ref aA, .ref aBt, .ref aD, .ref aT, .int (nI tc), .ref aS, .int (nI nr), .ref aR, .int (nI ns), .ref aE, .int (bI fr), .ref aK, .ref aIV, .ref aIN, .int (bI on), .ref aOp, .int oP, .int oA, .int (nI tk), .ref aRw, .ref aGn])), (aO, .inl (X.2 3, 520, .inl (ia (upN T.1 T.2.2.2.2.2.2 op)))), (aA, .inl (X.2 4, 520, .inl (ia (upN T.2.1 T.2.2.2.2.2.2 a)))), (aBt, .inl (X.2 4, 520, .inl (ia (upN T.2.2.1 T.2.2.2.2.2.2 b)))), (aD, .inl (X.2 3, 520, .inl (upd (ia T.2.2.2.1) (nI T.2.2.2.2.2.2).toNatClampNeg (vp_nar .byte (nI d))))), (aS, .inl (X.2 0, 8, .inl (ia T.2.2.2.2.1)))] H := hP
  have hD : va_D A [(m0, .inr (6, [.int (nI P), .ref aV, .ref aB, .int (nI nk), .ref aRS, .ref aRT, .int (nI T.2.2.2.2.2.2), .ref aO, .ref aA, .ref aBt, .ref aD, .ref aT, .int (nI tc), .ref aS, .int (nI nr), .ref aR, .int (nI ns), .ref aE, .int (bI fr), .ref aK, .ref aIV, .ref aIN, .int (bI on), .ref aOp, .int oP, .int oA, .int (nI tk), .ref aRw, .ref aGn])), (aO, .inl (X.2 3, 520, .inl (ia (upN T.1 T.2.2.2.2.2.2 op)))), (aA, .inl (X.2 4, 520, .inl (ia (upN T.2.1 T.2.2.2.2.2.2 a)))), (aBt, .inl (X.2 4, 520, .inl (ia (upN T.2.2.1 T.2.2.2.2.2.2 b)))), (aD, .inl (X.2 3, 520, .inl (upd (ia T.2.2.2.1) (nI T.2.2.2.2.2.2).toNatClampNeg (vp_nar .byte (nI d))))), (aS, .inl (X.2 0, 8, .inl (ia T.2.2.2.2.1)))] := hD
  rw [nI_clamp (show T.2.2.2.2.2.2 < 2 ^ 31 by omega)] at hP hD
  have e9 : upd (ia T.2.2.2.1) T.2.2.2.2.2.2 (vp_nar .byte (nI d)) = ia (upN T.2.2.2.1 T.2.2.2.2.2.2 d) := upd_by hd9
  rw [e9] at hP hD
  clear e9
  refine lv_aload_n hx hb d_Mo_push_45 rfl (lv_at hl 0 rfl) ?_
  refine va_get (D := X.1) (ci := 6) (v := .ref aS) (C := R_Mo) (T := F_Mo) (N := 29) hx hb hg in_Mo hown hE.1 hP 0 rfl rfl 13 (by decide) (hg _ m_488) (fun _ h9 => h9) rfl d_Mo_push_46 ?_
  refine lv_aload_n hx hb d_Mo_push_49 rfl (lv_at hl 0 rfl) ?_
  refine va_get (D := X.1) (ci := 6) (v := .int (nI tc)) (C := R_Mo) (T := F_Mo) (N := 29) hx hb hg in_Mo hown hE.1 hP 0 rfl rfl 12 (by decide) (hg _ m_487) (fun _ h9 => h9) rfl d_Mo_push_50 ?_
  refine lv_aload_n hx hb d_Mo_push_53 rfl (lv_at hl 0 rfl) ?_
  refine va_get (D := X.1) (ci := 6) (v := .int (nI T.2.2.2.2.2.2)) (C := R_Mo) (T := F_Mo) (N := 29) hx hb hg in_Mo hown hE.1 hP 0 rfl rfl 6 (by decide) (hg _ m_481) (fun _ h9 => h9) rfl d_Mo_push_54 ?_
  refine va_iast hx hb hE.1 hP hD hS 5 0 rfl rfl (vp_in_nI (by omega) (by decide)) d_Mo_push_57 (fun H locs hP hD hS => ?_)
  have hP : va_P X.1 classes [(m0, .inr (6, [.int (nI P), .ref aV, .ref aB, .int (nI nk), .ref aRS, .ref aRT, .int (nI T.2.2.2.2.2.2), .ref aO, .ref aA, .ref aBt, .ref aD, .ref aT, .int (nI tc), .ref aS, .int (nI nr), .ref aR, .int (nI ns), .ref aE, .int (bI fr), .ref aK, .ref aIV, .ref aIN, .int (bI on), .ref aOp, .int oP, .int oA, .int (nI tk), .ref aRw, .ref aGn])), (aO, .inl (X.2 3, 520, .inl (ia (upN T.1 T.2.2.2.2.2.2 op)))), (aA, .inl (X.2 4, 520, .inl (ia (upN T.2.1 T.2.2.2.2.2.2 a)))), (aBt, .inl (X.2 4, 520, .inl (ia (upN T.2.2.1 T.2.2.2.2.2.2 b)))), (aD, .inl (X.2 3, 520, .inl (ia (upN T.2.2.2.1 T.2.2.2.2.2.2 d)))), (aS, .inl (X.2 0, 8, .inl (upd (ia T.2.2.2.2.1) (nI tc).toNatClampNeg (nI T.2.2.2.2.2.2))))] H := hP
  have hD : va_D A [(m0, .inr (6, [.int (nI P), .ref aV, .ref aB, .int (nI nk), .ref aRS, .ref aRT, .int (nI T.2.2.2.2.2.2), .ref aO, .ref aA, .ref aBt, .ref aD, .ref aT, .int (nI tc), .ref aS, .int (nI nr), .ref aR, .int (nI ns), .ref aE, .int (bI fr), .ref aK, .ref aIV, .ref aIN, .int (bI on), .ref aOp, .int oP, .int oA, .int (nI tk), .ref aRw, .ref aGn])), (aO, .inl (X.2 3, 520, .inl (ia (upN T.1 T.2.2.2.2.2.2 op)))), (aA, .inl (X.2 4, 520, .inl (ia (upN T.2.1 T.2.2.2.2.2.2 a)))), (aBt, .inl (X.2 4, 520, .inl (ia (upN T.2.2.1 T.2.2.2.2.2.2 b)))), (aD, .inl (X.2 3, 520, .inl (ia (upN T.2.2.2.1 T.2.2.2.2.2.2 d)))), (aS, .inl (X.2 0, 8, .inl (upd (ia T.2.2.2.2.1) (nI tc).toNatClampNeg (nI T.2.2.2.2.2.2))))] := hD
  rw [nI_clamp (show tc < 2 ^ 31 by omega)] at hP hD
  have e9 : upd (ia T.2.2.2.2.1) tc (nI T.2.2.2.2.2.2) = ia (upN T.2.2.2.2.1 tc T.2.2.2.2.2.2) := upd_ia _ _ _
  rw [e9] at hP hD
  clear e9
  refine lv_aload_n hx hb d_Mo_push_58 rfl (lv_at hl 0 rfl) ?_
  refine lv_dup hx hb d_Mo_push_59 rfl ?_
  refine va_get (D := X.1) (ci := 6) (v := .int (nI tc)) (C := R_Mo) (T := F_Mo) (N := 29) hx hb hg in_Mo hown hE.1 hP 0 rfl rfl 12 (by decide) (hg _ m_487) (fun _ h9 => h9) rfl d_Mo_push_60 ?_
  refine lv_iconst (v := nI 1) hx hb d_Mo_push_63 (by decide) ?_
  refine lv_iadd hx hb d_Mo_push_64 ?_
  refine topI (nI_add _ _) ?_
  refine va_put (D := X.1) (ci := 6) (v := .int (nI (tc + 1))) (ty := .int) (C := R_Mo) (T := F_Mo) (N := 29) hx hb hg in_Mo t_Mo t_Mo_ok n_Mo hown hE.1 hP hD hS 0 rfl rfl 12 (by decide) (hg _ m_487) (fun _ h9 => h9) rfl (by decide +kernel) rfl rfl (Nat.le_of_ble_eq_true rfl) d_Mo_push_65 (fun H locs hP hD hS => ?_)
  have hP : va_P X.1 classes [(m0, .inr (6, [.int (nI P), .ref aV, .ref aB, .int (nI nk), .ref aRS, .ref aRT, .int (nI T.2.2.2.2.2.2), .ref aO, .ref aA, .ref aBt, .ref aD, .ref aT, .int (nI (tc + 1)), .ref aS, .int (nI nr), .ref aR, .int (nI ns), .ref aE, .int (bI fr), .ref aK, .ref aIV, .ref aIN, .int (bI on), .ref aOp, .int oP, .int oA, .int (nI tk), .ref aRw, .ref aGn])), (aO, .inl (X.2 3, 520, .inl (ia (upN T.1 T.2.2.2.2.2.2 op)))), (aA, .inl (X.2 4, 520, .inl (ia (upN T.2.1 T.2.2.2.2.2.2 a)))), (aBt, .inl (X.2 4, 520, .inl (ia (upN T.2.2.1 T.2.2.2.2.2.2 b)))), (aD, .inl (X.2 3, 520, .inl (ia (upN T.2.2.2.1 T.2.2.2.2.2.2 d)))), (aS, .inl (X.2 0, 8, .inl (ia (upN T.2.2.2.2.1 tc T.2.2.2.2.2.2))))] H := hP
  have hD : va_D A [(m0, .inr (6, [.int (nI P), .ref aV, .ref aB, .int (nI nk), .ref aRS, .ref aRT, .int (nI T.2.2.2.2.2.2), .ref aO, .ref aA, .ref aBt, .ref aD, .ref aT, .int (nI (tc + 1)), .ref aS, .int (nI nr), .ref aR, .int (nI ns), .ref aE, .int (bI fr), .ref aK, .ref aIV, .ref aIN, .int (bI on), .ref aOp, .int oP, .int oA, .int (nI tk), .ref aRw, .ref aGn])), (aO, .inl (X.2 3, 520, .inl (ia (upN T.1 T.2.2.2.2.2.2 op)))), (aA, .inl (X.2 4, 520, .inl (ia (upN T.2.1 T.2.2.2.2.2.2 a)))), (aBt, .inl (X.2 4, 520, .inl (ia (upN T.2.2.1 T.2.2.2.2.2.2 b)))), (aD, .inl (X.2 3, 520, .inl (ia (upN T.2.2.2.1 T.2.2.2.2.2.2 d)))), (aS, .inl (X.2 0, 8, .inl (ia (upN T.2.2.2.2.1 tc T.2.2.2.2.2.2))))] := hD
  refine lv_aload_n hx hb d_Mo_push_68 rfl (lv_at hl 0 rfl) ?_
  refine lv_dup hx hb d_Mo_push_69 rfl ?_
  refine va_get (D := X.1) (ci := 6) (v := .int (nI T.2.2.2.2.2.2)) (C := R_Mo) (T := F_Mo) (N := 29) hx hb hg in_Mo hown hE.1 hP 0 rfl rfl 6 (by decide) (hg _ m_481) (fun _ h9 => h9) rfl d_Mo_push_70 ?_
  refine lv_iconst (v := nI 1) hx hb d_Mo_push_73 (by decide) ?_
  refine lv_iadd hx hb d_Mo_push_74 ?_
  refine topI (nI_add _ _) ?_
  refine va_put (D := X.1) (ci := 6) (v := .int (nI (T.2.2.2.2.2.2 + 1))) (ty := .int) (C := R_Mo) (T := F_Mo) (N := 29) hx hb hg in_Mo t_Mo t_Mo_ok n_Mo hown hE.1 hP hD hS 0 rfl rfl 6 (by decide) (hg _ m_481) (fun _ h9 => h9) rfl (by decide +kernel) rfl rfl (Nat.le_of_ble_eq_true rfl) d_Mo_push_75 (fun H locs hP hD hS => ?_)
  have hP : va_P X.1 classes [(m0, .inr (6, [.int (nI P), .ref aV, .ref aB, .int (nI nk), .ref aRS, .ref aRT, .int (nI (T.2.2.2.2.2.2 + 1)), .ref aO, .ref aA, .ref aBt, .ref aD, .ref aT, .int (nI (tc + 1)), .ref aS, .int (nI nr), .ref aR, .int (nI ns), .ref aE, .int (bI fr), .ref aK, .ref aIV, .ref aIN, .int (bI on), .ref aOp, .int oP, .int oA, .int (nI tk), .ref aRw, .ref aGn])), (aO, .inl (X.2 3, 520, .inl (ia (upN T.1 T.2.2.2.2.2.2 op)))), (aA, .inl (X.2 4, 520, .inl (ia (upN T.2.1 T.2.2.2.2.2.2 a)))), (aBt, .inl (X.2 4, 520, .inl (ia (upN T.2.2.1 T.2.2.2.2.2.2 b)))), (aD, .inl (X.2 3, 520, .inl (ia (upN T.2.2.2.1 T.2.2.2.2.2.2 d)))), (aS, .inl (X.2 0, 8, .inl (ia (upN T.2.2.2.2.1 tc T.2.2.2.2.2.2))))] H := hP
  have hD : va_D A [(m0, .inr (6, [.int (nI P), .ref aV, .ref aB, .int (nI nk), .ref aRS, .ref aRT, .int (nI (T.2.2.2.2.2.2 + 1)), .ref aO, .ref aA, .ref aBt, .ref aD, .ref aT, .int (nI (tc + 1)), .ref aS, .int (nI nr), .ref aR, .int (nI ns), .ref aE, .int (bI fr), .ref aK, .ref aIV, .ref aIN, .int (bI on), .ref aOp, .int oP, .int oA, .int (nI tk), .ref aRw, .ref aGn])), (aO, .inl (X.2 3, 520, .inl (ia (upN T.1 T.2.2.2.2.2.2 op)))), (aA, .inl (X.2 4, 520, .inl (ia (upN T.2.1 T.2.2.2.2.2.2 a)))), (aBt, .inl (X.2 4, 520, .inl (ia (upN T.2.2.1 T.2.2.2.2.2.2 b)))), (aD, .inl (X.2 3, 520, .inl (ia (upN T.2.2.2.1 T.2.2.2.2.2.2 d)))), (aS, .inl (X.2 0, 8, .inl (ia (upN T.2.2.2.2.1 tc T.2.2.2.2.2.2))))] := hD
  refine lv_iconst (v := nI 1) hx hb d_Mo_push_78 (by decide) ?_
  exact retZ (u := ()) hx hb hr hlk (by decide) hP hD hS (rfl) d_Mo_push_79
set_option maxHeartbeats 4000000 in
set_option maxRecDepth 100000 in
theorem k_Mo_is (l : Launch) (X : Cx) (m0 aV aB aRS aRT aO aA aBt aD aT aS aR aE aK aIV aIN aOp aRw aGn : Nat) (P nk nr ns : Nat) (oP : Int32) (tk : Nat) (oA : Int32) (T : TS) (fr on : Bool) (vl : Nat → Nat) (hP6 : P ≤ 6) (hvl : ∀ p, p < 6 → 1 ≤ vl p ∧ vl p ≤ 4) (htc : T.2.2.2.2.2.1 ≤ 8) (hnt : T.2.2.2.2.2.2 < 520) (hTK : ∀ j, j < T.2.2.2.2.2.1 → T.2.2.2.2.1 j < T.2.2.2.2.2.2) (hTD : ∀ j, T.2.2.2.1 j < 100) (x y : Int32) : CtI l X (TY X) y_Mo_is cw_Mo_is ({ frames := 1, cells := 0, slots := 0, locals := 24 } : Room) [.ref m0, .int x, .int y] [(m0, .inr (6, [.int (nI P), .ref aV, .ref aB, .int (nI nk), .ref aRS, .ref aRT, .int (nI T.2.2.2.2.2.2), .ref aO, .ref aA, .ref aBt, .ref aD, .ref aT, .int (nI T.2.2.2.2.2.1), .ref aS, .int (nI nr), .ref aR, .int (nI ns), .ref aE, .int (bI fr), .ref aK, .ref aIV, .ref aIN, .int (bI on), .ref aOp, .int oP, .int oA, .int (nI tk), .ref aRw, .ref aGn])), (aV, .inl (X.2 0, 6, .inl (ia (rv P vl)))), (aO, .inl (X.2 3, 520, .inl (ia T.1))), (aA, .inl (X.2 4, 520, .inl (ia T.2.1))), (aBt, .inl (X.2 4, 520, .inl (ia T.2.2.1))), (aD, .inl (X.2 3, 520, .inl (ia T.2.2.2.1))), (aS, .inl (X.2 0, 8, .inl (ia T.2.2.2.2.1)))] (S := TS) (fun r u => r = bI (isO on P vl T.2.2.2.2.2.1 x y) ∧ u = tsI (isO on P vl T.2.2.2.2.2.1 x y) x.toNatClampNeg y.toNatClampNeg T) (fun u => [(m0, .inr (6, [.int (nI P), .ref aV, .ref aB, .int (nI nk), .ref aRS, .ref aRT, .int (nI u.2.2.2.2.2.2), .ref aO, .ref aA, .ref aBt, .ref aD, .ref aT, .int (nI u.2.2.2.2.2.1), .ref aS, .int (nI nr), .ref aR, .int (nI ns), .ref aE, .int (bI fr), .ref aK, .ref aIV, .ref aIN, .int (bI on), .ref aOp, .int oP, .int oA, .int (nI tk), .ref aRw, .ref aGn])), (aV, .inl (X.2 0, 6, .inl (ia (rv P vl)))), (aO, .inl (X.2 3, 520, .inl (ia u.1))), (aA, .inl (X.2 4, 520, .inl (ia u.2.1))), (aBt, .inl (X.2 4, 520, .inl (ia u.2.2.1))), (aD, .inl (X.2 3, 520, .inl (ia u.2.2.2.1))), (aS, .inl (X.2 0, 8, .inl (ia u.2.2.2.2.1)))]) 0 0 := by
  refine metI (by decide) (Nat.le_of_ble_eq_true rfl) ?_
  intro p e s m below meth c A ls hB hl
  obtain ⟨hx, hb, hr, hml, hown, hlk, hin, hg, hA, hD, hP, hE⟩ := hB
  have hS : va_S A s.heap s.heap [] := va_S.rf
  have hl : lv_has ls 3 [(0, .ref m0), (1, .int x), (2, .int y)] := hl
  refine lv_aload_n hx hb d_Mo_is_0 rfl (lv_at hl 0 rfl) ?_
  refine va_get (D := X.1) (ci := 6) (v := .int (bI on)) (C := R_Mo) (T := F_Mo) (N := 29) hx hb hg in_Mo hown hE.1 hP 0 rfl rfl 22 (by decide) (hg _ m_497) (fun _ h9 => h9) rfl d_Mo_is_1 ?_
  refine lv_if_ne (tgt := 40) hx hb d_Mo_is_4 (by decide) (fun hc4 => ?_) (fun hc4 => ?_)
  · rw [bI_z] at hc4
    refine lv_iconst (v := nI 0) hx hb d_Mo_is_40 (by decide) ?_
    exact retZ (u := T) hx hb hr hlk (by decide) hP hD hS (by first | exact ⟨by rw [is_on hc4]; rfl, by rw [is_on hc4]; rfl⟩ | exact ⟨by rw [is_in hc4 (no_f hc13), h8]; rfl, by rw [is_in hc4 (no_f hc13), h8]; rfl⟩ | exact ⟨by rw [is_hv (no_t hc13)]; rfl, by rw [is_hv (no_t hc13)]; rfl⟩) d_Mo_is_41
  · rw [bI_z] at hc4
    refine lv_aload_n hx hb d_Mo_is_7 rfl (lv_at hl 0 rfl) ?_
    refine lv_iload_n hx hb d_Mo_is_8 rfl (lv_at hl 1 rfl) ?_
    refine lv_iload_n hx hb d_Mo_is_9 rfl (lv_at hl 2 rfl) ?_
    refine clVI (n := 2) (As := [.int x, .int y]) (rest := []) (wc := [(m0, .inr (6, [.int (nI P), .ref aV, .ref aB, .int (nI nk), .ref aRS, .ref aRT, .int (nI T.2.2.2.2.2.2), .ref aO, .ref aA, .ref aBt, .ref aD, .ref aT, .int (nI T.2.2.2.2.2.1), .ref aS, .int (nI nr), .ref aR, .int (nI ns), .ref aE, .int (bI fr), .ref aK, .ref aIV, .ref aIN, .int (bI on), .ref aOp, .int oP, .int oA, .int (nI tk), .ref aRw, .ref aGn])), (aV, .inl (X.2 0, 6, .inl (ia (rv P vl))))]) (wr := [(aO, .inl (X.2 3, 520, .inl (ia T.1))), (aA, .inl (X.2 4, 520, .inl (ia T.2.1))), (aBt, .inl (X.2 4, 520, .inl (ia T.2.2.1))), (aD, .inl (X.2 3, 520, .inl (ia T.2.2.2.1))), (aS, .inl (X.2 0, 8, .inl (ia T.2.2.2.2.1)))]) hx hb hml hown hg hE hA hP hD hS (k_Mo_noValue l X m0 aV aB aRS aRT aO aA aBt aD aT aS aR aE aK aIV aIN aOp aRw aGn P nk nr ns oP tk oA T fr on vl hP6 x y) (gcons m_574 (gcons m_576 (gcons ms_Mo_noValue (gcons m_8 (gcons m_577 gG))))) (by decide +kernel) [0, 1] [2, 3, 4, 5, 6] rfl rfl (by decide) (by decide) (by decide) 0 rfl rfl rfl hl.1 (Nat.le_of_ble_eq_true rfl) rfl d_Mo_is_10 ⟨rfl, rfl, Nat.le_of_ble_eq_true rfl, Nat.le_of_ble_eq_true rfl⟩ (⟨Nat.le_of_ble_eq_true rfl, Nat.le_of_ble_eq_true rfl⟩) (fun r10 u10 H locs hq10 hP hD hS => ?_)
    have hq10 : r10 = bI (noB P vl x y) := hq10
    subst hq10
    have hP := hP.sub (ws' := [(m0, .inr (6, [.int (nI P), .ref aV, .ref aB, .int (nI nk), .ref aRS, .ref aRT, .int (nI T.2.2.2.2.2.2), .ref aO, .ref aA, .ref aBt, .ref aD, .ref aT, .int (nI T.2.2.2.2.2.1), .ref aS, .int (nI nr), .ref aR, .int (nI ns), .ref aE, .int (bI fr), .ref aK, .ref aIV, .ref aIN, .int (bI on), .ref aOp, .int oP, .int oA, .int (nI tk), .ref aRw, .ref aGn])), (aV, .inl (X.2 0, 6, .inl (ia (rv P vl)))), (aO, .inl (X.2 3, 520, .inl (ia T.1))), (aA, .inl (X.2 4, 520, .inl (ia T.2.1))), (aBt, .inl (X.2 4, 520, .inl (ia T.2.2.1))), (aD, .inl (X.2 3, 520, .inl (ia T.2.2.2.1))), (aS, .inl (X.2 0, 8, .inl (ia T.2.2.2.2.1)))]) [5, 6, 0, 1, 2, 3, 4] rfl
    have hD := hD.sub (ws' := [(m0, .inr (6, [.int (nI P), .ref aV, .ref aB, .int (nI nk), .ref aRS, .ref aRT, .int (nI T.2.2.2.2.2.2), .ref aO, .ref aA, .ref aBt, .ref aD, .ref aT, .int (nI T.2.2.2.2.2.1), .ref aS, .int (nI nr), .ref aR, .int (nI ns), .ref aE, .int (bI fr), .ref aK, .ref aIV, .ref aIN, .int (bI on), .ref aOp, .int oP, .int oA, .int (nI tk), .ref aRw, .ref aGn])), (aV, .inl (X.2 0, 6, .inl (ia (rv P vl)))), (aO, .inl (X.2 3, 520, .inl (ia T.1))), (aA, .inl (X.2 4, 520, .inl (ia T.2.1))), (aBt, .inl (X.2 4, 520, .inl (ia T.2.2.1))), (aD, .inl (X.2 3, 520, .inl (ia T.2.2.2.1))), (aS, .inl (X.2 0, 8, .inl (ia T.2.2.2.2.1)))]) [5, 6, 0, 1, 2, 3, 4] (by decide) rfl
    refine lv_if_ne (tgt := 40) hx hb d_Mo_is_13 (by decide) (fun hc13 => ?_) (fun hc13 => ?_)
    · rw [bI_z] at hc13
      refine lv_iconst (v := nI 0) hx hb d_Mo_is_40 (by decide) ?_
      exact retZ (u := T) hx hb hr hlk (by decide) hP hD hS (by first | exact ⟨by rw [is_on hc4]; rfl, by rw [is_on hc4]; rfl⟩ | exact ⟨by rw [is_in hc4 (no_f hc13), h8]; rfl, by rw [is_in hc4 (no_f hc13), h8]; rfl⟩ | exact ⟨by rw [is_hv (no_t hc13)]; rfl, by rw [is_hv (no_t hc13)]; rfl⟩) d_Mo_is_41
    · rw [bI_z] at hc13
      refine lv_aload_n hx hb d_Mo_is_16 rfl (lv_at hl 0 rfl) ?_
      refine va_get (D := X.1) (ci := 6) (v := .int (nI T.2.2.2.2.2.1)) (C := R_Mo) (T := F_Mo) (N := 29) hx hb hg in_Mo hown hE.1 hP 0 rfl rfl 12 (by decide) (hg _ m_487) (fun _ h9 => h9) rfl d_Mo_is_17 ?_
      refine lv_bipush (v := nI 8) hx hb d_Mo_is_20 (by decide) ?_
      refine lv_icmp_ge (tgt := 40) hx hb d_Mo_is_22 (by decide) (fun hc22 => ?_) (fun hc22 => ?_)
      · rw [nI_leI (by omega) (by omega)] at hc22
        have h8 : T.2.2.2.2.2.1 = 8 := by omega
        refine lv_iconst (v := nI 0) hx hb d_Mo_is_40 (by decide) ?_
        exact retZ (u := T) hx hb hr hlk (by decide) hP hD hS (by first | exact ⟨by rw [is_on hc4]; rfl, by rw [is_on hc4]; rfl⟩ | exact ⟨by rw [is_in hc4 (no_f hc13), h8]; rfl, by rw [is_in hc4 (no_f hc13), h8]; rfl⟩ | exact ⟨by rw [is_hv (no_t hc13)]; rfl, by rw [is_hv (no_t hc13)]; rfl⟩) d_Mo_is_41
      · rw [nI_leI (by omega) (by omega)] at hc22
        refine lv_aload_n hx hb d_Mo_is_25 rfl (lv_at hl 0 rfl) ?_
        have hio := is_in (tc := T.2.2.2.2.2.1) hc4 (no_f hc13)
        obtain ⟨q, v, hqP, hvv, hv4, rfl, rfl⟩ := hv_of hP6 hvl (no_f hc13)
        rw [beq_false_of_ne (show ¬ T.2.2.2.2.2.1 = 8 by omega)] at hio
        refine lv_iconst (v := nI 4) hx hb d_Mo_is_26 (by decide) ?_
        refine lv_iload_n hx hb d_Mo_is_27 rfl (lv_at hl 1 rfl) ?_
        refine lv_iload_n hx hb d_Mo_is_28 rfl (lv_at hl 2 rfl) ?_
        refine lv_iconst (v := nI 1) hx hb d_Mo_is_29 (by decide) ?_
        refine clVI (n := 4) (As := [.int (nI 4), .int (nI q), .int (nI v), .int (nI 1)]) (rest := []) (wc := [(m0, .inr (6, [.int (nI P), .ref aV, .ref aB, .int (nI nk), .ref aRS, .ref aRT, .int (nI T.2.2.2.2.2.2), .ref aO, .ref aA, .ref aBt, .ref aD, .ref aT, .int (nI T.2.2.2.2.2.1), .ref aS, .int (nI nr), .ref aR, .int (nI ns), .ref aE, .int (bI fr), .ref aK, .ref aIV, .ref aIN, .int (bI on), .ref aOp, .int oP, .int oA, .int (nI tk), .ref aRw, .ref aGn])), (aO, .inl (X.2 3, 520, .inl (ia T.1))), (aA, .inl (X.2 4, 520, .inl (ia T.2.1))), (aBt, .inl (X.2 4, 520, .inl (ia T.2.2.1))), (aD, .inl (X.2 3, 520, .inl (ia T.2.2.2.1))), (aS, .inl (X.2 0, 8, .inl (ia T.2.2.2.2.1)))]) (wr := [(aV, .inl (X.2 0, 6, .inl (ia (rv P vl))))]) hx hb hml hown hg hE hA hP hD hS (k_Mo_push l X m0 aV aB aRS aRT aO aA aBt aD aT aS aR aE aK aIV aIN aOp aRw aGn P nk nr ns oP tk oA T fr on T.2.2.2.2.2.1 4 q v 1 (by omega) hnt (by decide) (by omega) (by omega) (by decide)) (gcons m_590 (gcons m_592 (gcons ms_Mo_push (gcons m_8 (gcons m_593 gG))))) (by decide +kernel) [0, 2, 3, 4, 5, 6] [1] rfl rfl (by decide) (by decide) (by decide) 0 rfl rfl rfl hl.1 (Nat.le_of_ble_eq_true rfl) rfl d_Mo_is_30 ⟨rfl, rfl, Nat.le_of_ble_eq_true rfl, Nat.le_of_ble_eq_true rfl⟩ (⟨Nat.le_of_ble_eq_true rfl, Nat.le_of_ble_eq_true rfl⟩) (fun r30 u30 H locs hq30 hP hD hS => ?_)
        have hq30 : r30 = nI 1 := hq30
        subst hq30
        have hP := hP.sub (ws' := [(m0, .inr (6, [.int (nI P), .ref aV, .ref aB, .int (nI nk), .ref aRS, .ref aRT, .int (nI (T.2.2.2.2.2.2 + 1)), .ref aO, .ref aA, .ref aBt, .ref aD, .ref aT, .int (nI (T.2.2.2.2.2.1 + 1)), .ref aS, .int (nI nr), .ref aR, .int (nI ns), .ref aE, .int (bI fr), .ref aK, .ref aIV, .ref aIN, .int (bI on), .ref aOp, .int oP, .int oA, .int (nI tk), .ref aRw, .ref aGn])), (aV, .inl (X.2 0, 6, .inl (ia (rv P vl)))), (aO, .inl (X.2 3, 520, .inl (ia (upN T.1 T.2.2.2.2.2.2 4)))), (aA, .inl (X.2 4, 520, .inl (ia (upN T.2.1 T.2.2.2.2.2.2 q)))), (aBt, .inl (X.2 4, 520, .inl (ia (upN T.2.2.1 T.2.2.2.2.2.2 v)))), (aD, .inl (X.2 3, 520, .inl (ia (upN T.2.2.2.1 T.2.2.2.2.2.2 1)))), (aS, .inl (X.2 0, 8, .inl (ia (upN T.2.2.2.2.1 T.2.2.2.2.2.1 T.2.2.2.2.2.2))))]) [1, 0, 2, 3, 4, 5, 6] rfl
        have hD := hD.sub (ws' := [(m0, .inr (6, [.int (nI P), .ref aV, .ref aB, .int (nI nk), .ref aRS, .ref aRT, .int (nI (T.2.2.2.2.2.2 + 1)), .ref aO, .ref aA, .ref aBt, .ref aD, .ref aT, .int (nI (T.2.2.2.2.2.1 + 1)), .ref aS, .int (nI nr), .ref aR, .int (nI ns), .ref aE, .int (bI fr), .ref aK, .ref aIV, .ref aIN, .int (bI on), .ref aOp, .int oP, .int oA, .int (nI tk), .ref aRw, .ref aGn])), (aV, .inl (X.2 0, 6, .inl (ia (rv P vl)))), (aO, .inl (X.2 3, 520, .inl (ia (upN T.1 T.2.2.2.2.2.2 4)))), (aA, .inl (X.2 4, 520, .inl (ia (upN T.2.1 T.2.2.2.2.2.2 q)))), (aBt, .inl (X.2 4, 520, .inl (ia (upN T.2.2.1 T.2.2.2.2.2.2 v)))), (aD, .inl (X.2 3, 520, .inl (ia (upN T.2.2.2.1 T.2.2.2.2.2.2 1)))), (aS, .inl (X.2 0, 8, .inl (ia (upN T.2.2.2.2.1 T.2.2.2.2.2.1 T.2.2.2.2.2.2))))]) [1, 0, 2, 3, 4, 5, 6] (by decide) rfl
        refine lv_if_eq (tgt := 40) hx hb d_Mo_is_33 (by decide) (fun hc33 => ?_) (fun hc33 => ?_)
        · exfalso; rw [n_z (by omega)] at hc33; omega
        · rw [n_z (by omega)] at hc33
          refine lv_iconst (v := nI 1) hx hb d_Mo_is_36 (by decide) ?_
          refine lv_goto (tgt := 41) hx hb d_Mo_is_37 (by decide) ?_
          exact retZ (u := psh 4 q v 1 T T.2.2.2.2.2.1) hx hb hr hlk (by decide) hP hD hS (⟨by rw [hio]; rfl, by rw [hio, nI_clamp (by omega), nI_clamp (by omega)]; rfl⟩) d_Mo_is_41
set_option maxHeartbeats 4000000 in
set_option maxRecDepth 100000 in
theorem k_Mo_not (l : Launch) (X : Cx) (m0 aV aB aRS aRT aO aA aBt aD aT aS aR aE aK aIV aIN aOp aRw aGn : Nat) (P nk nr ns : Nat) (oP : Int32) (tk : Nat) (oA : Int32) (T : TS) (fr on : Bool) (htc : T.2.2.2.2.2.1 ≤ 8) (hnt : T.2.2.2.2.2.2 < 520) (hTK : ∀ j, j < T.2.2.2.2.2.1 → T.2.2.2.2.1 j < T.2.2.2.2.2.2) (hTD : ∀ j, T.2.2.2.1 j < 100) : CtI l X (TY X) y_Mo_not cw_Mo_not ({ frames := 1, cells := 0, slots := 0, locals := 24 } : Room) [.ref m0] [(m0, .inr (6, [.int (nI P), .ref aV, .ref aB, .int (nI nk), .ref aRS, .ref aRT, .int (nI T.2.2.2.2.2.2), .ref aO, .ref aA, .ref aBt, .ref aD, .ref aT, .int (nI T.2.2.2.2.2.1), .ref aS, .int (nI nr), .ref aR, .int (nI ns), .ref aE, .int (bI fr), .ref aK, .ref aIV, .ref aIN, .int (bI on), .ref aOp, .int oP, .int oA, .int (nI tk), .ref aRw, .ref aGn])), (aO, .inl (X.2 3, 520, .inl (ia T.1))), (aA, .inl (X.2 4, 520, .inl (ia T.2.1))), (aBt, .inl (X.2 4, 520, .inl (ia T.2.2.1))), (aD, .inl (X.2 3, 520, .inl (ia T.2.2.2.1))), (aS, .inl (X.2 0, 8, .inl (ia T.2.2.2.2.1)))] (S := TS) (fun r u => r = bI (!on && ngB T.2.2.2.2.2.1 (dpT T)) ∧ u = tsN (!on && ngB T.2.2.2.2.2.1 (dpT T)) T) (fun u => [(m0, .inr (6, [.int (nI P), .ref aV, .ref aB, .int (nI nk), .ref aRS, .ref aRT, .int (nI u.2.2.2.2.2.2), .ref aO, .ref aA, .ref aBt, .ref aD, .ref aT, .int (nI u.2.2.2.2.2.1), .ref aS, .int (nI nr), .ref aR, .int (nI ns), .ref aE, .int (bI fr), .ref aK, .ref aIV, .ref aIN, .int (bI on), .ref aOp, .int oP, .int oA, .int (nI tk), .ref aRw, .ref aGn])), (aO, .inl (X.2 3, 520, .inl (ia u.1))), (aA, .inl (X.2 4, 520, .inl (ia u.2.1))), (aBt, .inl (X.2 4, 520, .inl (ia u.2.2.1))), (aD, .inl (X.2 3, 520, .inl (ia u.2.2.2.1))), (aS, .inl (X.2 0, 8, .inl (ia u.2.2.2.2.1)))]) 0 0 := by
  refine metI (by decide) (Nat.le_of_ble_eq_true rfl) ?_
  intro p e s m below meth c A ls hB hl
  obtain ⟨hx, hb, hr, hml, hown, hlk, hin, hg, hA, hD, hP, hE⟩ := hB
  have hS : va_S A s.heap s.heap [] := va_S.rf
  have hl : lv_has ls 2 [(0, .ref m0)] := hl
  refine lv_aload_n hx hb d_Mo_not_0 rfl (lv_at hl 0 rfl) ?_
  refine va_get (D := X.1) (ci := 6) (v := .int (bI on)) (C := R_Mo) (T := F_Mo) (N := 29) hx hb hg in_Mo hown hE.1 hP 0 rfl rfl 22 (by decide) (hg _ m_497) (fun _ h9 => h9) rfl d_Mo_not_1 ?_
  refine lv_if_ne (tgt := 35) hx hb d_Mo_not_4 (by decide) (fun hc4 => ?_) (fun hc4 => ?_)
  · rw [bI_z] at hc4
    refine lv_iconst (v := nI 0) hx hb d_Mo_not_35 (by decide) ?_
    exact retZ (u := T) hx hb hr hlk (by decide) hP hD hS (by first | exact ⟨by rw [ts_nf hc4]; rfl, by rw [ts_nf hc4]; rfl⟩ | exact ⟨by rw [ngB_f0 hc11, Bool.and_false]; rfl, by rw [ngB_f0 hc11, Bool.and_false]; rfl⟩ | exact ⟨by rw [ngB_f8 hc32, Bool.and_false]; rfl, by rw [ngB_f8 hc32, Bool.and_false]; rfl⟩) d_Mo_not_36
  · rw [bI_z] at hc4
    refine lv_aload_n hx hb d_Mo_not_7 rfl (lv_at hl 0 rfl) ?_
    refine va_get (D := X.1) (ci := 6) (v := .int (nI T.2.2.2.2.2.1)) (C := R_Mo) (T := F_Mo) (N := 29) hx hb hg in_Mo hown hE.1 hP 0 rfl rfl 12 (by decide) (hg _ m_487) (fun _ h9 => h9) rfl d_Mo_not_8 ?_
    refine lv_if_eq (tgt := 35) hx hb d_Mo_not_11 (by decide) (fun hc11 => ?_) (fun hc11 => ?_)
    · rw [n_z (by omega)] at hc11
      refine lv_iconst (v := nI 0) hx hb d_Mo_not_35 (by decide) ?_
      exact retZ (u := T) hx hb hr hlk (by decide) hP hD hS (by first | exact ⟨by rw [ts_nf hc4]; rfl, by rw [ts_nf hc4]; rfl⟩ | exact ⟨by rw [ngB_f0 hc11, Bool.and_false]; rfl, by rw [ngB_f0 hc11, Bool.and_false]; rfl⟩ | exact ⟨by rw [ngB_f8 hc32, Bool.and_false]; rfl, by rw [ngB_f8 hc32, Bool.and_false]; rfl⟩) d_Mo_not_36
    · rw [n_z (by omega)] at hc11
      have hk1 := hTK (T.2.2.2.2.2.1 - 1) (by omega)
      have hd1 := hTD (T.2.2.2.2.1 (T.2.2.2.2.2.1 - 1))
      refine lv_aload_n hx hb d_Mo_not_14 rfl (lv_at hl 0 rfl) ?_
      refine va_get (D := X.1) (ci := 6) (v := .ref aD) (C := R_Mo) (T := F_Mo) (N := 29) hx hb hg in_Mo hown hE.1 hP 0 rfl rfl 10 (by decide) (hg _ m_485) (fun _ h9 => h9) rfl d_Mo_not_15 ?_
      refine lv_aload_n hx hb d_Mo_not_18 rfl (lv_at hl 0 rfl) ?_
      refine va_get (D := X.1) (ci := 6) (v := .ref aS) (C := R_Mo) (T := F_Mo) (N := 29) hx hb hg in_Mo hown hE.1 hP 0 rfl rfl 13 (by decide) (hg _ m_488) (fun _ h9 => h9) rfl d_Mo_not_19 ?_
      refine lv_aload_n hx hb d_Mo_not_22 rfl (lv_at hl 0 rfl) ?_
      refine va_get (D := X.1) (ci := 6) (v := .int (nI T.2.2.2.2.2.1)) (C := R_Mo) (T := F_Mo) (N := 29) hx hb hg in_Mo hown hE.1 hP 0 rfl rfl 12 (by decide) (hg _ m_487) (fun _ h9 => h9) rfl d_Mo_not_23 ?_
      refine lv_iconst (v := nI 1) hx hb d_Mo_not_26 (by decide) ?_
      refine lv_isub hx hb d_Mo_not_27 ?_
      refine topI (pk_sub (by omega)) ?_
      refine va_iald hx hb hE.1 hP 5 0 rfl rfl (vp_in_nI (by omega) (by decide)) d_Mo_not_28 ?_
      refine topI (y := (ia T.2.2.2.2.1) (T.2.2.2.2.2.1 - 1)) (by rw [nI_clamp (by omega)]) ?_
      refine topI (y := nI (T.2.2.2.2.1 (T.2.2.2.2.2.1 - 1))) (rfl) ?_
      refine va_bald hx hb hE.1 hP 4 3 rfl rfl (vp_in_nI (by omega) (by decide)) d_Mo_not_29 ?_
      refine topI (y := (ia T.2.2.2.1) (T.2.2.2.2.1 (T.2.2.2.2.2.1 - 1))) (by rw [nI_clamp (by omega)]) ?_
      refine topI (y := nI (dpT T (T.2.2.2.2.2.1 - 1))) (rfl) ?_
      have hdp1 : dpT T (T.2.2.2.2.2.1 - 1) < 100 := hd1
      refine lv_bipush (v := nI 8) hx hb d_Mo_not_30 (by decide) ?_
      refine lv_icmp_ne (tgt := 37) hx hb d_Mo_not_32 (by decide) (fun hc32 => ?_) (fun hc32 => ?_)
      · rw [nI_eq (by omega) (by omega)] at hc32
        refine lv_aload_n hx hb d_Mo_not_37 rfl (lv_at hl 0 rfl) ?_
        refine va_get (D := X.1) (ci := 6) (v := .ref aS) (C := R_Mo) (T := F_Mo) (N := 29) hx hb hg in_Mo hown hE.1 hP 0 rfl rfl 13 (by decide) (hg _ m_488) (fun _ h9 => h9) rfl d_Mo_not_38 ?_
        refine lv_aload_n hx hb d_Mo_not_41 rfl (lv_at hl 0 rfl) ?_
        refine va_get (D := X.1) (ci := 6) (v := .int (nI T.2.2.2.2.2.1)) (C := R_Mo) (T := F_Mo) (N := 29) hx hb hg in_Mo hown hE.1 hP 0 rfl rfl 12 (by decide) (hg _ m_487) (fun _ h9 => h9) rfl d_Mo_not_42 ?_
        refine lv_iconst (v := nI 1) hx hb d_Mo_not_45 (by decide) ?_
        refine lv_isub hx hb d_Mo_not_46 ?_
        refine topI (pk_sub (by omega)) ?_
        refine va_iald hx hb hE.1 hP 5 0 rfl rfl (vp_in_nI (by omega) (by decide)) d_Mo_not_47 ?_
        refine topI (y := (ia T.2.2.2.2.1) (T.2.2.2.2.2.1 - 1)) (by rw [nI_clamp (by omega)]) ?_
        refine topI (y := nI (T.2.2.2.2.1 (T.2.2.2.2.2.1 - 1))) (rfl) ?_
        refine lv_istore_n hx hb d_Mo_not_48 rfl hl (by decide) rfl (fun ls hl => ?_)
        have hl : lv_has ls 2 [(1, .int (nI (T.2.2.2.2.1 (T.2.2.2.2.2.1 - 1)))), (0, .ref m0)] := hl
        refine lv_aload_n hx hb d_Mo_not_49 rfl (lv_at hl 1 rfl) ?_
        refine lv_dup hx hb d_Mo_not_50 rfl ?_
        refine va_get (D := X.1) (ci := 6) (v := .int (nI T.2.2.2.2.2.1)) (C := R_Mo) (T := F_Mo) (N := 29) hx hb hg in_Mo hown hE.1 hP 0 rfl rfl 12 (by decide) (hg _ m_487) (fun _ h9 => h9) rfl d_Mo_not_51 ?_
        refine lv_iconst (v := nI 1) hx hb d_Mo_not_54 (by decide) ?_
        refine lv_isub hx hb d_Mo_not_55 ?_
        refine topI (pk_sub (by omega)) ?_
        refine va_put (D := X.1) (ci := 6) (v := .int (nI (T.2.2.2.2.2.1 - 1))) (ty := .int) (C := R_Mo) (T := F_Mo) (N := 29) hx hb hg in_Mo t_Mo t_Mo_ok n_Mo hown hE.1 hP hD hS 0 rfl rfl 12 (by decide) (hg _ m_487) (fun _ h9 => h9) rfl (by decide +kernel) rfl rfl (Nat.le_of_ble_eq_true rfl) d_Mo_not_56 (fun H locs hP hD hS => ?_)
        have hP : va_P X.1 classes [(m0, .inr (6, [.int (nI P), .ref aV, .ref aB, .int (nI nk), .ref aRS, .ref aRT, .int (nI T.2.2.2.2.2.2), .ref aO, .ref aA, .ref aBt, .ref aD, .ref aT, .int (nI (T.2.2.2.2.2.1 - 1)), .ref aS, .int (nI nr), .ref aR, .int (nI ns), .ref aE, .int (bI fr), .ref aK, .ref aIV, .ref aIN, .int (bI on), .ref aOp, .int oP, .int oA, .int (nI tk), .ref aRw, .ref aGn])), (aO, .inl (X.2 3, 520, .inl (ia T.1))), (aA, .inl (X.2 4, 520, .inl (ia T.2.1))), (aBt, .inl (X.2 4, 520, .inl (ia T.2.2.1))), (aD, .inl (X.2 3, 520, .inl (ia T.2.2.2.1))), (aS, .inl (X.2 0, 8, .inl (ia T.2.2.2.2.1)))] H := hP
        have hD : va_D A [(m0, .inr (6, [.int (nI P), .ref aV, .ref aB, .int (nI nk), .ref aRS, .ref aRT, .int (nI T.2.2.2.2.2.2), .ref aO, .ref aA, .ref aBt, .ref aD, .ref aT, .int (nI (T.2.2.2.2.2.1 - 1)), .ref aS, .int (nI nr), .ref aR, .int (nI ns), .ref aE, .int (bI fr), .ref aK, .ref aIV, .ref aIN, .int (bI on), .ref aOp, .int oP, .int oA, .int (nI tk), .ref aRw, .ref aGn])), (aO, .inl (X.2 3, 520, .inl (ia T.1))), (aA, .inl (X.2 4, 520, .inl (ia T.2.1))), (aBt, .inl (X.2 4, 520, .inl (ia T.2.2.1))), (aD, .inl (X.2 3, 520, .inl (ia T.2.2.2.1))), (aS, .inl (X.2 0, 8, .inl (ia T.2.2.2.2.1)))] := hD
        refine lv_aload_n hx hb d_Mo_not_59 rfl (lv_at hl 1 rfl) ?_
        refine lv_iconst (v := nI 3) hx hb d_Mo_not_60 (by decide) ?_
        refine lv_iload_n hx hb d_Mo_not_61 rfl (lv_at hl 0 rfl) ?_
        refine lv_iconst (v := nI 0) hx hb d_Mo_not_62 (by decide) ?_
        refine lv_aload_n hx hb d_Mo_not_63 rfl (lv_at hl 1 rfl) ?_
        refine va_get (D := X.1) (ci := 6) (v := .ref aD) (C := R_Mo) (T := F_Mo) (N := 29) hx hb hg in_Mo hown hE.1 hP 0 rfl rfl 10 (by decide) (hg _ m_485) (fun _ h9 => h9) rfl d_Mo_not_64 ?_
        refine lv_iload_n hx hb d_Mo_not_67 rfl (lv_at hl 0 rfl) ?_
        refine va_bald hx hb hE.1 hP 4 3 rfl rfl (vp_in_nI (by omega) (by decide)) d_Mo_not_68 ?_
        refine topI (y := (ia T.2.2.2.1) (T.2.2.2.2.1 (T.2.2.2.2.2.1 - 1))) (by rw [nI_clamp (by omega)]) ?_
        refine topI (y := nI (dpT T (T.2.2.2.2.2.1 - 1))) (rfl) ?_
        refine lv_iconst (v := nI 1) hx hb d_Mo_not_69 (by decide) ?_
        refine lv_iadd hx hb d_Mo_not_70 ?_
        refine topI (nI_add _ _) ?_
        refine clVI (n := 4) (As := [.int (nI 3), .int (nI (T.2.2.2.2.1 (T.2.2.2.2.2.1 - 1))), .int (nI 0), .int (nI ((dpT T (T.2.2.2.2.2.1 - 1)) + 1))]) (rest := []) (wc := [(m0, .inr (6, [.int (nI P), .ref aV, .ref aB, .int (nI nk), .ref aRS, .ref aRT, .int (nI T.2.2.2.2.2.2), .ref aO, .ref aA, .ref aBt, .ref aD, .ref aT, .int (nI (T.2.2.2.2.2.1 - 1)), .ref aS, .int (nI nr), .ref aR, .int (nI ns), .ref aE, .int (bI fr), .ref aK, .ref aIV, .ref aIN, .int (bI on), .ref aOp, .int oP, .int oA, .int (nI tk), .ref aRw, .ref aGn])), (aO, .inl (X.2 3, 520, .inl (ia T.1))), (aA, .inl (X.2 4, 520, .inl (ia T.2.1))), (aBt, .inl (X.2 4, 520, .inl (ia T.2.2.1))), (aD, .inl (X.2 3, 520, .inl (ia T.2.2.2.1))), (aS, .inl (X.2 0, 8, .inl (ia T.2.2.2.2.1)))]) (wr := []) hx hb hml hown hg hE hA hP hD hS (k_Mo_push l X m0 aV aB aRS aRT aO aA aBt aD aT aS aR aE aK aIV aIN aOp aRw aGn P nk nr ns oP tk oA T fr on (T.2.2.2.2.2.1 - 1) 3 (T.2.2.2.2.1 (T.2.2.2.2.2.1 - 1)) 0 (dpT T (T.2.2.2.2.2.1 - 1) + 1) (by omega) hnt (by decide) (by omega) (by decide) (by omega)) (gcons m_590 (gcons m_592 (gcons ms_Mo_push (gcons m_8 (gcons m_593 gG))))) (by decide +kernel) [0, 1, 2, 3, 4, 5] [] rfl rfl (by decide) (by decide) (by decide) 0 rfl rfl rfl hl.1 (Nat.le_of_ble_eq_true rfl) rfl d_Mo_not_71 ⟨rfl, rfl, Nat.le_of_ble_eq_true rfl, Nat.le_of_ble_eq_true rfl⟩ (⟨Nat.le_of_ble_eq_true rfl, Nat.le_of_ble_eq_true rfl⟩) (fun r71 u71 H locs hq71 hP hD hS => ?_)
        have hq71 : r71 = nI 1 := hq71
        subst hq71
        have hP : va_P X.1 classes [(m0, .inr (6, [.int (nI P), .ref aV, .ref aB, .int (nI nk), .ref aRS, .ref aRT, .int (nI (T.2.2.2.2.2.2 + 1)), .ref aO, .ref aA, .ref aBt, .ref aD, .ref aT, .int (nI (T.2.2.2.2.2.1 - 1 + 1)), .ref aS, .int (nI nr), .ref aR, .int (nI ns), .ref aE, .int (bI fr), .ref aK, .ref aIV, .ref aIN, .int (bI on), .ref aOp, .int oP, .int oA, .int (nI tk), .ref aRw, .ref aGn])), (aO, .inl (X.2 3, 520, .inl (ia (upN T.1 T.2.2.2.2.2.2 3)))), (aA, .inl (X.2 4, 520, .inl (ia (upN T.2.1 T.2.2.2.2.2.2 (T.2.2.2.2.1 (T.2.2.2.2.2.1 - 1)))))), (aBt, .inl (X.2 4, 520, .inl (ia (upN T.2.2.1 T.2.2.2.2.2.2 0)))), (aD, .inl (X.2 3, 520, .inl (ia (upN T.2.2.2.1 T.2.2.2.2.2.2 (dpT T (T.2.2.2.2.2.1 - 1) + 1))))), (aS, .inl (X.2 0, 8, .inl (ia (upN T.2.2.2.2.1 (T.2.2.2.2.2.1 - 1) T.2.2.2.2.2.2))))] H := hP
        have hD : va_D A [(m0, .inr (6, [.int (nI P), .ref aV, .ref aB, .int (nI nk), .ref aRS, .ref aRT, .int (nI (T.2.2.2.2.2.2 + 1)), .ref aO, .ref aA, .ref aBt, .ref aD, .ref aT, .int (nI (T.2.2.2.2.2.1 - 1 + 1)), .ref aS, .int (nI nr), .ref aR, .int (nI ns), .ref aE, .int (bI fr), .ref aK, .ref aIV, .ref aIN, .int (bI on), .ref aOp, .int oP, .int oA, .int (nI tk), .ref aRw, .ref aGn])), (aO, .inl (X.2 3, 520, .inl (ia (upN T.1 T.2.2.2.2.2.2 3)))), (aA, .inl (X.2 4, 520, .inl (ia (upN T.2.1 T.2.2.2.2.2.2 (T.2.2.2.2.1 (T.2.2.2.2.2.1 - 1)))))), (aBt, .inl (X.2 4, 520, .inl (ia (upN T.2.2.1 T.2.2.2.2.2.2 0)))), (aD, .inl (X.2 3, 520, .inl (ia (upN T.2.2.2.1 T.2.2.2.2.2.2 (dpT T (T.2.2.2.2.2.1 - 1) + 1))))), (aS, .inl (X.2 0, 8, .inl (ia (upN T.2.2.2.2.1 (T.2.2.2.2.2.1 - 1) T.2.2.2.2.2.2))))] := hD
        exact retZ (u := psh 3 (T.2.2.2.2.1 (T.2.2.2.2.2.1 - 1)) 0 (dpT T (T.2.2.2.2.2.1 - 1) + 1) T (T.2.2.2.2.2.1 - 1)) hx hb hr hlk (by decide) hP hD hS (⟨by rw [hc4, ngB_t hc11 hc32]; rfl, by rw [hc4, ngB_t hc11 hc32]; rfl⟩) d_Mo_not_74
      · rw [nI_eq (by omega) (by omega)] at hc32
        refine lv_iconst (v := nI 0) hx hb d_Mo_not_35 (by decide) ?_
        exact retZ (u := T) hx hb hr hlk (by decide) hP hD hS (by first | exact ⟨by rw [ts_nf hc4]; rfl, by rw [ts_nf hc4]; rfl⟩ | exact ⟨by rw [ngB_f0 hc11, Bool.and_false]; rfl, by rw [ngB_f0 hc11, Bool.and_false]; rfl⟩ | exact ⟨by rw [ngB_f8 hc32, Bool.and_false]; rfl, by rw [ngB_f8 hc32, Bool.and_false]; rfl⟩) d_Mo_not_36
set_option maxHeartbeats 4000000 in
set_option maxRecDepth 100000 in
theorem k_Mo_join (l : Launch) (X : Cx) (m0 aV aB aRS aRT aO aA aBt aD aT aS aR aE aK aIV aIN aOp aRw aGn : Nat) (P nk nr ns : Nat) (oP : Int32) (tk : Nat) (oA : Int32) (T : TS) (fr on : Bool) (htc : T.2.2.2.2.2.1 ≤ 8) (hnt : T.2.2.2.2.2.2 < 520) (hTK : ∀ j, j < T.2.2.2.2.2.1 → T.2.2.2.2.1 j < T.2.2.2.2.2.2) (hTD : ∀ j, T.2.2.2.1 j < 100) (x : Int32) : CtI l X (TY X) y_Mo_join cw_Mo_join ({ frames := 1, cells := 0, slots := 0, locals := 24 } : Room) [.ref m0, .int x] [(m0, .inr (6, [.int (nI P), .ref aV, .ref aB, .int (nI nk), .ref aRS, .ref aRT, .int (nI T.2.2.2.2.2.2), .ref aO, .ref aA, .ref aBt, .ref aD, .ref aT, .int (nI T.2.2.2.2.2.1), .ref aS, .int (nI nr), .ref aR, .int (nI ns), .ref aE, .int (bI fr), .ref aK, .ref aIV, .ref aIN, .int (bI on), .ref aOp, .int oP, .int oA, .int (nI tk), .ref aRw, .ref aGn])), (aO, .inl (X.2 3, 520, .inl (ia T.1))), (aA, .inl (X.2 4, 520, .inl (ia T.2.1))), (aBt, .inl (X.2 4, 520, .inl (ia T.2.2.1))), (aD, .inl (X.2 3, 520, .inl (ia T.2.2.2.1))), (aS, .inl (X.2 0, 8, .inl (ia T.2.2.2.2.1)))] (S := TS) (fun r u => r = bI (jnC on T.2.2.2.2.2.1 (dpT T) x) ∧ u = tsJ (jnC on T.2.2.2.2.2.1 (dpT T) x) x.toNatClampNeg T) (fun u => [(m0, .inr (6, [.int (nI P), .ref aV, .ref aB, .int (nI nk), .ref aRS, .ref aRT, .int (nI u.2.2.2.2.2.2), .ref aO, .ref aA, .ref aBt, .ref aD, .ref aT, .int (nI u.2.2.2.2.2.1), .ref aS, .int (nI nr), .ref aR, .int (nI ns), .ref aE, .int (bI fr), .ref aK, .ref aIV, .ref aIN, .int (bI on), .ref aOp, .int oP, .int oA, .int (nI tk), .ref aRw, .ref aGn])), (aO, .inl (X.2 3, 520, .inl (ia u.1))), (aA, .inl (X.2 4, 520, .inl (ia u.2.1))), (aBt, .inl (X.2 4, 520, .inl (ia u.2.2.1))), (aD, .inl (X.2 3, 520, .inl (ia u.2.2.2.1))), (aS, .inl (X.2 0, 8, .inl (ia u.2.2.2.2.1)))]) 0 0 := by
  refine metI (by decide) (Nat.le_of_ble_eq_true rfl) ?_
  intro p e s m below meth c A ls hB hl
  obtain ⟨hx, hb, hr, hml, hown, hlk, hin, hg, hA, hD, hP, hE⟩ := hB
  have hS : va_S A s.heap s.heap [] := va_S.rf
  have hl : lv_has ls 5 [(0, .ref m0), (1, .int x)] := hl
  refine lv_aload_n hx hb d_Mo_join_0 rfl (lv_at hl 0 rfl) ?_
  refine va_get (D := X.1) (ci := 6) (v := .int (bI on)) (C := R_Mo) (T := F_Mo) (N := 29) hx hb hg in_Mo hown hE.1 hP 0 rfl rfl 22 (by decide) (hg _ m_497) (fun _ h9 => h9) rfl d_Mo_join_1 ?_
  refine lv_if_ne (tgt := 24) hx hb d_Mo_join_4 (by decide) (fun hc4 => ?_) (fun hc4 => ?_)
  · rw [bI_z] at hc4
    refine lv_iconst (v := nI 0) hx hb d_Mo_join_24 (by decide) ?_
    exact retZ (u := T) hx hb hr hlk (by decide) hP hD hS (by first | exact ⟨by rw [jc_on hc4]; rfl, by rw [jc_on hc4]; rfl⟩ | exact ⟨by rw [hjc, jnO_a hc21]; rfl, by rw [hjc, jnO_a hc21]; rfl⟩ | exact ⟨by rw [jc_a hc8]; rfl, by rw [jc_a hc8]; rfl⟩ | exact ⟨by rw [jc_b hc13]; rfl, by rw [jc_b hc13]; rfl⟩) d_Mo_join_25
  · rw [bI_z] at hc4
    refine lv_iload_n hx hb d_Mo_join_7 rfl (lv_at hl 1 rfl) ?_
    refine lv_if_lt (tgt := 24) hx hb d_Mo_join_8 (by decide) (fun hc8 => ?_) (fun hc8 => ?_)
    · refine lv_iconst (v := nI 0) hx hb d_Mo_join_24 (by decide) ?_
      exact retZ (u := T) hx hb hr hlk (by decide) hP hD hS (by first | exact ⟨by rw [jc_on hc4]; rfl, by rw [jc_on hc4]; rfl⟩ | exact ⟨by rw [hjc, jnO_a hc21]; rfl, by rw [hjc, jnO_a hc21]; rfl⟩ | exact ⟨by rw [jc_a hc8]; rfl, by rw [jc_a hc8]; rfl⟩ | exact ⟨by rw [jc_b hc13]; rfl, by rw [jc_b hc13]; rfl⟩) d_Mo_join_25
    · refine lv_iload_n hx hb d_Mo_join_11 rfl (lv_at hl 1 rfl) ?_
      refine lv_iconst (v := nI 2) hx hb d_Mo_join_12 (by decide) ?_
      refine lv_icmp_gt (tgt := 24) hx hb d_Mo_join_13 (by decide) (fun hc13 => ?_) (fun hc13 => ?_)
      · refine lv_iconst (v := nI 0) hx hb d_Mo_join_24 (by decide) ?_
        exact retZ (u := T) hx hb hr hlk (by decide) hP hD hS (by first | exact ⟨by rw [jc_on hc4]; rfl, by rw [jc_on hc4]; rfl⟩ | exact ⟨by rw [hjc, jnO_a hc21]; rfl, by rw [hjc, jnO_a hc21]; rfl⟩ | exact ⟨by rw [jc_a hc8]; rfl, by rw [jc_a hc8]; rfl⟩ | exact ⟨by rw [jc_b hc13]; rfl, by rw [jc_b hc13]; rfl⟩) d_Mo_join_25
      · have hjc := jc_1 (tc := T.2.2.2.2.2.1) (dp := dpT T) hc4 hc8 hc13
        obtain ⟨op, _, hop, rfl⟩ := x_mid (a := 0) (b := 2) (by decide) (by decide) hc8 hc13
        refine lv_aload_n hx hb d_Mo_join_16 rfl (lv_at hl 0 rfl) ?_
        refine va_get (D := X.1) (ci := 6) (v := .int (nI T.2.2.2.2.2.1)) (C := R_Mo) (T := F_Mo) (N := 29) hx hb hg in_Mo hown hE.1 hP 0 rfl rfl 12 (by decide) (hg _ m_487) (fun _ h9 => h9) rfl d_Mo_join_17 ?_
        refine lv_iconst (v := nI 2) hx hb d_Mo_join_20 (by decide) ?_
        refine lv_icmp_ge (tgt := 26) hx hb d_Mo_join_21 (by decide) (fun hc21 => ?_) (fun hc21 => ?_)
        · rw [nI_leI (by omega) (by omega)] at hc21
          have hk1 := hTK (T.2.2.2.2.2.1 - 1) (by omega)
          have hd1 : dpT T (T.2.2.2.2.2.1 - 1) < 100 := hTD _
          have hk2 := hTK (T.2.2.2.2.2.1 - 2) (by omega)
          have hd2 : dpT T (T.2.2.2.2.2.1 - 2) < 100 := hTD _
          refine lv_aload_n hx hb d_Mo_join_26 rfl (lv_at hl 0 rfl) ?_
          refine va_get (D := X.1) (ci := 6) (v := .ref aS) (C := R_Mo) (T := F_Mo) (N := 29) hx hb hg in_Mo hown hE.1 hP 0 rfl rfl 13 (by decide) (hg _ m_488) (fun _ h9 => h9) rfl d_Mo_join_27 ?_
          refine lv_aload_n hx hb d_Mo_join_30 rfl (lv_at hl 0 rfl) ?_
          refine va_get (D := X.1) (ci := 6) (v := .int (nI T.2.2.2.2.2.1)) (C := R_Mo) (T := F_Mo) (N := 29) hx hb hg in_Mo hown hE.1 hP 0 rfl rfl 12 (by decide) (hg _ m_487) (fun _ h9 => h9) rfl d_Mo_join_31 ?_
          refine lv_iconst (v := nI 1) hx hb d_Mo_join_34 (by decide) ?_
          refine lv_isub hx hb d_Mo_join_35 ?_
          refine topI (pk_sub (by omega)) ?_
          refine va_iald hx hb hE.1 hP 5 0 rfl rfl (vp_in_nI (by omega) (by decide)) d_Mo_join_36 ?_
          refine topI (y := (ia T.2.2.2.2.1) (T.2.2.2.2.2.1 - 1)) (by rw [nI_clamp (by omega)]) ?_
          refine topI (y := nI (T.2.2.2.2.1 (T.2.2.2.2.2.1 - 1))) (rfl) ?_
          refine lv_istore_n hx hb d_Mo_join_37 rfl hl (by decide) rfl (fun ls hl => ?_)
          have hl : lv_has ls 5 [(2, .int (nI (T.2.2.2.2.1 (T.2.2.2.2.2.1 - 1)))), (0, .ref m0), (1, .int (nI op))] := hl
          refine lv_aload_n hx hb d_Mo_join_38 rfl (lv_at hl 1 rfl) ?_
          refine va_get (D := X.1) (ci := 6) (v := .ref aS) (C := R_Mo) (T := F_Mo) (N := 29) hx hb hg in_Mo hown hE.1 hP 0 rfl rfl 13 (by decide) (hg _ m_488) (fun _ h9 => h9) rfl d_Mo_join_39 ?_
          refine lv_aload_n hx hb d_Mo_join_42 rfl (lv_at hl 1 rfl) ?_
          refine va_get (D := X.1) (ci := 6) (v := .int (nI T.2.2.2.2.2.1)) (C := R_Mo) (T := F_Mo) (N := 29) hx hb hg in_Mo hown hE.1 hP 0 rfl rfl 12 (by decide) (hg _ m_487) (fun _ h9 => h9) rfl d_Mo_join_43 ?_
          refine lv_iconst (v := nI 2) hx hb d_Mo_join_46 (by decide) ?_
          refine lv_isub hx hb d_Mo_join_47 ?_
          refine topI (pk_sub (by omega)) ?_
          refine va_iald hx hb hE.1 hP 5 0 rfl rfl (vp_in_nI (by omega) (by decide)) d_Mo_join_48 ?_
          refine topI (y := (ia T.2.2.2.2.1) (T.2.2.2.2.2.1 - 2)) (by rw [nI_clamp (by omega)]) ?_
          refine topI (y := nI (T.2.2.2.2.1 (T.2.2.2.2.2.1 - 2))) (rfl) ?_
          refine lv_istore_n hx hb d_Mo_join_49 rfl hl (by decide) rfl (fun ls hl => ?_)
          have hl : lv_has ls 5 [(3, .int (nI (T.2.2.2.2.1 (T.2.2.2.2.2.1 - 2)))), (2, .int (nI (T.2.2.2.2.1 (T.2.2.2.2.2.1 - 1)))), (0, .ref m0), (1, .int (nI op))] := hl
          refine lv_aload_n hx hb d_Mo_join_50 rfl (lv_at hl 2 rfl) ?_
          refine va_get (D := X.1) (ci := 6) (v := .ref aD) (C := R_Mo) (T := F_Mo) (N := 29) hx hb hg in_Mo hown hE.1 hP 0 rfl rfl 10 (by decide) (hg _ m_485) (fun _ h9 => h9) rfl d_Mo_join_51 ?_
          refine lv_iload_n hx hb d_Mo_join_54 rfl (lv_at hl 0 rfl) ?_
          refine va_bald hx hb hE.1 hP 4 3 rfl rfl (vp_in_nI (by omega) (by decide)) d_Mo_join_55 ?_
          refine topI (y := (ia T.2.2.2.1) (T.2.2.2.2.1 (T.2.2.2.2.2.1 - 2))) (by rw [nI_clamp (by omega)]) ?_
          refine topI (y := nI (dpT T (T.2.2.2.2.2.1 - 2))) (rfl) ?_
          refine lv_aload_n hx hb d_Mo_join_56 rfl (lv_at hl 2 rfl) ?_
          refine va_get (D := X.1) (ci := 6) (v := .ref aD) (C := R_Mo) (T := F_Mo) (N := 29) hx hb hg in_Mo hown hE.1 hP 0 rfl rfl 10 (by decide) (hg _ m_485) (fun _ h9 => h9) rfl d_Mo_join_57 ?_
          refine lv_iload_n hx hb d_Mo_join_60 rfl (lv_at hl 1 rfl) ?_
          refine va_bald hx hb hE.1 hP 4 3 rfl rfl (vp_in_nI (by omega) (by decide)) d_Mo_join_61 ?_
          refine topI (y := (ia T.2.2.2.1) (T.2.2.2.2.1 (T.2.2.2.2.2.1 - 1))) (by rw [nI_clamp (by omega)]) ?_
          refine topI (y := nI (dpT T (T.2.2.2.2.2.1 - 1))) (rfl) ?_
          refine lv_icmp_le (tgt := 74) hx hb d_Mo_join_62 (by decide) (fun hc62 => ?_) (fun hc62 => ?_)
          · rw [nI_leI (by omega) (by omega)] at hc62
            refine lv_aload_n hx hb d_Mo_join_74 rfl (lv_at hl 2 rfl) ?_
            refine va_get (D := X.1) (ci := 6) (v := .ref aD) (C := R_Mo) (T := F_Mo) (N := 29) hx hb hg in_Mo hown hE.1 hP 0 rfl rfl 10 (by decide) (hg _ m_485) (fun _ h9 => h9) rfl d_Mo_join_75 ?_
            refine lv_iload_n hx hb d_Mo_join_78 rfl (lv_at hl 1 rfl) ?_
            refine va_bald hx hb hE.1 hP 4 3 rfl rfl (vp_in_nI (by omega) (by decide)) d_Mo_join_79 ?_
            refine topI (y := (ia T.2.2.2.1) (T.2.2.2.2.1 (T.2.2.2.2.2.1 - 1))) (by rw [nI_clamp (by omega)]) ?_
            refine topI (y := nI (max (dpT T (T.2.2.2.2.2.1 - 2)) (dpT T (T.2.2.2.2.2.1 - 1)))) (congrArg nI (show dpT T (T.2.2.2.2.2.1 - 1) = _ by omega)) ?_
            refine lv_istore hx hb d_Mo_join_80 hl (by decide) rfl (fun ls hl => ?_)
            have hl : lv_has ls 5 [(4, .int (nI (max (dpT T (T.2.2.2.2.2.1 - 2)) (dpT T (T.2.2.2.2.2.1 - 1))))), (3, .int (nI (T.2.2.2.2.1 (T.2.2.2.2.2.1 - 2)))), (2, .int (nI (T.2.2.2.2.1 (T.2.2.2.2.2.1 - 1)))), (0, .ref m0), (1, .int (nI op))] := hl
            refine lv_iload hx hb d_Mo_join_82 (lv_at hl 0 rfl) ?_
            refine lv_bipush (v := nI 8) hx hb d_Mo_join_84 (by decide) ?_
            refine lv_icmp_ne (tgt := 91) hx hb d_Mo_join_86 (by decide) (fun hc86 => ?_) (fun hc86 => ?_)
            · rw [nI_eq (by omega) (by omega)] at hc86
              refine lv_aload_n hx hb d_Mo_join_91 rfl (lv_at hl 3 rfl) ?_
              refine lv_aload_n hx hb d_Mo_join_92 rfl (lv_at hl 3 rfl) ?_
              refine va_get (D := X.1) (ci := 6) (v := .int (nI T.2.2.2.2.2.1)) (C := R_Mo) (T := F_Mo) (N := 29) hx hb hg in_Mo hown hE.1 hP 0 rfl rfl 12 (by decide) (hg _ m_487) (fun _ h9 => h9) rfl d_Mo_join_93 ?_
              refine lv_iconst (v := nI 2) hx hb d_Mo_join_96 (by decide) ?_
              refine lv_isub hx hb d_Mo_join_97 ?_
              refine topI (pk_sub (by omega)) ?_
              refine va_put (D := X.1) (ci := 6) (v := .int (nI (T.2.2.2.2.2.1 - 2))) (ty := .int) (C := R_Mo) (T := F_Mo) (N := 29) hx hb hg in_Mo t_Mo t_Mo_ok n_Mo hown hE.1 hP hD hS 0 rfl rfl 12 (by decide) (hg _ m_487) (fun _ h9 => h9) rfl (by decide +kernel) rfl rfl (Nat.le_of_ble_eq_true rfl) d_Mo_join_98 (fun H locs hP hD hS => ?_)
              have hP : va_P X.1 classes [(m0, .inr (6, [.int (nI P), .ref aV, .ref aB, .int (nI nk), .ref aRS, .ref aRT, .int (nI T.2.2.2.2.2.2), .ref aO, .ref aA, .ref aBt, .ref aD, .ref aT, .int (nI (T.2.2.2.2.2.1 - 2)), .ref aS, .int (nI nr), .ref aR, .int (nI ns), .ref aE, .int (bI fr), .ref aK, .ref aIV, .ref aIN, .int (bI on), .ref aOp, .int oP, .int oA, .int (nI tk), .ref aRw, .ref aGn])), (aO, .inl (X.2 3, 520, .inl (ia T.1))), (aA, .inl (X.2 4, 520, .inl (ia T.2.1))), (aBt, .inl (X.2 4, 520, .inl (ia T.2.2.1))), (aD, .inl (X.2 3, 520, .inl (ia T.2.2.2.1))), (aS, .inl (X.2 0, 8, .inl (ia T.2.2.2.2.1)))] H := hP
              have hD : va_D A [(m0, .inr (6, [.int (nI P), .ref aV, .ref aB, .int (nI nk), .ref aRS, .ref aRT, .int (nI T.2.2.2.2.2.2), .ref aO, .ref aA, .ref aBt, .ref aD, .ref aT, .int (nI (T.2.2.2.2.2.1 - 2)), .ref aS, .int (nI nr), .ref aR, .int (nI ns), .ref aE, .int (bI fr), .ref aK, .ref aIV, .ref aIN, .int (bI on), .ref aOp, .int oP, .int oA, .int (nI tk), .ref aRw, .ref aGn])), (aO, .inl (X.2 3, 520, .inl (ia T.1))), (aA, .inl (X.2 4, 520, .inl (ia T.2.1))), (aBt, .inl (X.2 4, 520, .inl (ia T.2.2.1))), (aD, .inl (X.2 3, 520, .inl (ia T.2.2.2.1))), (aS, .inl (X.2 0, 8, .inl (ia T.2.2.2.2.1)))] := hD
              refine lv_aload_n hx hb d_Mo_join_101 rfl (lv_at hl 3 rfl) ?_
              refine lv_iload_n hx hb d_Mo_join_102 rfl (lv_at hl 4 rfl) ?_
              refine lv_iload_n hx hb d_Mo_join_103 rfl (lv_at hl 1 rfl) ?_
              refine lv_iload_n hx hb d_Mo_join_104 rfl (lv_at hl 2 rfl) ?_
              refine lv_iload hx hb d_Mo_join_105 (lv_at hl 0 rfl) ?_
              refine lv_iconst (v := nI 1) hx hb d_Mo_join_107 (by decide) ?_
              refine lv_iadd hx hb d_Mo_join_108 ?_
              refine topI (nI_add _ _) ?_
              refine clVI (n := 4) (As := [.int (nI op), .int (nI (T.2.2.2.2.1 (T.2.2.2.2.2.1 - 2))), .int (nI (T.2.2.2.2.1 (T.2.2.2.2.2.1 - 1))), .int (nI ((max (dpT T (T.2.2.2.2.2.1 - 2)) (dpT T (T.2.2.2.2.2.1 - 1))) + 1))]) (rest := []) (wc := [(m0, .inr (6, [.int (nI P), .ref aV, .ref aB, .int (nI nk), .ref aRS, .ref aRT, .int (nI T.2.2.2.2.2.2), .ref aO, .ref aA, .ref aBt, .ref aD, .ref aT, .int (nI (T.2.2.2.2.2.1 - 2)), .ref aS, .int (nI nr), .ref aR, .int (nI ns), .ref aE, .int (bI fr), .ref aK, .ref aIV, .ref aIN, .int (bI on), .ref aOp, .int oP, .int oA, .int (nI tk), .ref aRw, .ref aGn])), (aO, .inl (X.2 3, 520, .inl (ia T.1))), (aA, .inl (X.2 4, 520, .inl (ia T.2.1))), (aBt, .inl (X.2 4, 520, .inl (ia T.2.2.1))), (aD, .inl (X.2 3, 520, .inl (ia T.2.2.2.1))), (aS, .inl (X.2 0, 8, .inl (ia T.2.2.2.2.1)))]) (wr := []) hx hb hml hown hg hE hA hP hD hS (k_Mo_push l X m0 aV aB aRS aRT aO aA aBt aD aT aS aR aE aK aIV aIN aOp aRw aGn P nk nr ns oP tk oA T fr on (T.2.2.2.2.2.1 - 2) op (T.2.2.2.2.1 (T.2.2.2.2.2.1 - 2)) (T.2.2.2.2.1 (T.2.2.2.2.2.1 - 1)) (max (dpT T (T.2.2.2.2.2.1 - 2)) (dpT T (T.2.2.2.2.2.1 - 1)) + 1) (by omega) hnt (by omega) (by omega) (by omega) (by omega)) (gcons m_590 (gcons m_592 (gcons ms_Mo_push (gcons m_8 (gcons m_593 gG))))) (by decide +kernel) [0, 1, 2, 3, 4, 5] [] rfl rfl (by decide) (by decide) (by decide) 0 rfl rfl rfl hl.1 (Nat.le_of_ble_eq_true rfl) rfl d_Mo_join_109 ⟨rfl, rfl, Nat.le_of_ble_eq_true rfl, Nat.le_of_ble_eq_true rfl⟩ (⟨Nat.le_of_ble_eq_true rfl, Nat.le_of_ble_eq_true rfl⟩) (fun r109 u109 H locs hq109 hP hD hS => ?_)
              have hq109 : r109 = nI 1 := hq109
              subst hq109
              have hP : va_P X.1 classes [(m0, .inr (6, [.int (nI P), .ref aV, .ref aB, .int (nI nk), .ref aRS, .ref aRT, .int (nI (T.2.2.2.2.2.2 + 1)), .ref aO, .ref aA, .ref aBt, .ref aD, .ref aT, .int (nI (T.2.2.2.2.2.1 - 2 + 1)), .ref aS, .int (nI nr), .ref aR, .int (nI ns), .ref aE, .int (bI fr), .ref aK, .ref aIV, .ref aIN, .int (bI on), .ref aOp, .int oP, .int oA, .int (nI tk), .ref aRw, .ref aGn])), (aO, .inl (X.2 3, 520, .inl (ia (upN T.1 T.2.2.2.2.2.2 op)))), (aA, .inl (X.2 4, 520, .inl (ia (upN T.2.1 T.2.2.2.2.2.2 (T.2.2.2.2.1 (T.2.2.2.2.2.1 - 2)))))), (aBt, .inl (X.2 4, 520, .inl (ia (upN T.2.2.1 T.2.2.2.2.2.2 (T.2.2.2.2.1 (T.2.2.2.2.2.1 - 1)))))), (aD, .inl (X.2 3, 520, .inl (ia (upN T.2.2.2.1 T.2.2.2.2.2.2 (max (dpT T (T.2.2.2.2.2.1 - 2)) (dpT T (T.2.2.2.2.2.1 - 1)) + 1))))), (aS, .inl (X.2 0, 8, .inl (ia (upN T.2.2.2.2.1 (T.2.2.2.2.2.1 - 2) T.2.2.2.2.2.2))))] H := hP
              have hD : va_D A [(m0, .inr (6, [.int (nI P), .ref aV, .ref aB, .int (nI nk), .ref aRS, .ref aRT, .int (nI (T.2.2.2.2.2.2 + 1)), .ref aO, .ref aA, .ref aBt, .ref aD, .ref aT, .int (nI (T.2.2.2.2.2.1 - 2 + 1)), .ref aS, .int (nI nr), .ref aR, .int (nI ns), .ref aE, .int (bI fr), .ref aK, .ref aIV, .ref aIN, .int (bI on), .ref aOp, .int oP, .int oA, .int (nI tk), .ref aRw, .ref aGn])), (aO, .inl (X.2 3, 520, .inl (ia (upN T.1 T.2.2.2.2.2.2 op)))), (aA, .inl (X.2 4, 520, .inl (ia (upN T.2.1 T.2.2.2.2.2.2 (T.2.2.2.2.1 (T.2.2.2.2.2.1 - 2)))))), (aBt, .inl (X.2 4, 520, .inl (ia (upN T.2.2.1 T.2.2.2.2.2.2 (T.2.2.2.2.1 (T.2.2.2.2.2.1 - 1)))))), (aD, .inl (X.2 3, 520, .inl (ia (upN T.2.2.2.1 T.2.2.2.2.2.2 (max (dpT T (T.2.2.2.2.2.1 - 2)) (dpT T (T.2.2.2.2.2.1 - 1)) + 1))))), (aS, .inl (X.2 0, 8, .inl (ia (upN T.2.2.2.2.1 (T.2.2.2.2.2.1 - 2) T.2.2.2.2.2.2))))] := hD
              exact retZ (u := psh op (T.2.2.2.2.1 (T.2.2.2.2.2.1 - 2)) (T.2.2.2.2.1 (T.2.2.2.2.2.1 - 1)) (max (dpT T (T.2.2.2.2.2.1 - 2)) (dpT T (T.2.2.2.2.2.1 - 1)) + 1) T (T.2.2.2.2.2.1 - 2)) hx hb hr hlk (by decide) hP hD hS (⟨by rw [hjc, jnO_t hc21 hc86]; rfl, by rw [hjc, jnO_t hc21 hc86, nI_clamp (by omega)]; rfl⟩) d_Mo_join_112
            · rw [nI_eq (by omega) (by omega)] at hc86
              refine lv_iconst (v := nI 0) hx hb d_Mo_join_89 (by decide) ?_
              exact retZ (u := T) hx hb hr hlk (by decide) hP hD hS (⟨by rw [hjc, jnO_b hc86]; rfl, by rw [hjc, jnO_b hc86]; rfl⟩) d_Mo_join_90
          · rw [nI_leI (by omega) (by omega)] at hc62
            refine lv_aload_n hx hb d_Mo_join_65 rfl (lv_at hl 2 rfl) ?_
            refine va_get (D := X.1) (ci := 6) (v := .ref aD) (C := R_Mo) (T := F_Mo) (N := 29) hx hb hg in_Mo hown hE.1 hP 0 rfl rfl 10 (by decide) (hg _ m_485) (fun _ h9 => h9) rfl d_Mo_join_66 ?_
            refine lv_iload_n hx hb d_Mo_join_69 rfl (lv_at hl 0 rfl) ?_
            refine va_bald hx hb hE.1 hP 4 3 rfl rfl (vp_in_nI (by omega) (by decide)) d_Mo_join_70 ?_
            refine topI (y := (ia T.2.2.2.1) (T.2.2.2.2.1 (T.2.2.2.2.2.1 - 2))) (by rw [nI_clamp (by omega)]) ?_
            refine topI (y := nI (max (dpT T (T.2.2.2.2.2.1 - 2)) (dpT T (T.2.2.2.2.2.1 - 1)))) (congrArg nI (show dpT T (T.2.2.2.2.2.1 - 2) = _ by omega)) ?_
            refine lv_goto (tgt := 80) hx hb d_Mo_join_71 (by decide) ?_
            refine lv_istore hx hb d_Mo_join_80 hl (by decide) rfl (fun ls hl => ?_)
            have hl : lv_has ls 5 [(4, .int (nI (max (dpT T (T.2.2.2.2.2.1 - 2)) (dpT T (T.2.2.2.2.2.1 - 1))))), (3, .int (nI (T.2.2.2.2.1 (T.2.2.2.2.2.1 - 2)))), (2, .int (nI (T.2.2.2.2.1 (T.2.2.2.2.2.1 - 1)))), (0, .ref m0), (1, .int (nI op))] := hl
            refine lv_iload hx hb d_Mo_join_82 (lv_at hl 0 rfl) ?_
            refine lv_bipush (v := nI 8) hx hb d_Mo_join_84 (by decide) ?_
            refine lv_icmp_ne (tgt := 91) hx hb d_Mo_join_86 (by decide) (fun hc86 => ?_) (fun hc86 => ?_)
            · rw [nI_eq (by omega) (by omega)] at hc86
              refine lv_aload_n hx hb d_Mo_join_91 rfl (lv_at hl 3 rfl) ?_
              refine lv_aload_n hx hb d_Mo_join_92 rfl (lv_at hl 3 rfl) ?_
              refine va_get (D := X.1) (ci := 6) (v := .int (nI T.2.2.2.2.2.1)) (C := R_Mo) (T := F_Mo) (N := 29) hx hb hg in_Mo hown hE.1 hP 0 rfl rfl 12 (by decide) (hg _ m_487) (fun _ h9 => h9) rfl d_Mo_join_93 ?_
              refine lv_iconst (v := nI 2) hx hb d_Mo_join_96 (by decide) ?_
              refine lv_isub hx hb d_Mo_join_97 ?_
              refine topI (pk_sub (by omega)) ?_
              refine va_put (D := X.1) (ci := 6) (v := .int (nI (T.2.2.2.2.2.1 - 2))) (ty := .int) (C := R_Mo) (T := F_Mo) (N := 29) hx hb hg in_Mo t_Mo t_Mo_ok n_Mo hown hE.1 hP hD hS 0 rfl rfl 12 (by decide) (hg _ m_487) (fun _ h9 => h9) rfl (by decide +kernel) rfl rfl (Nat.le_of_ble_eq_true rfl) d_Mo_join_98 (fun H locs hP hD hS => ?_)
              have hP : va_P X.1 classes [(m0, .inr (6, [.int (nI P), .ref aV, .ref aB, .int (nI nk), .ref aRS, .ref aRT, .int (nI T.2.2.2.2.2.2), .ref aO, .ref aA, .ref aBt, .ref aD, .ref aT, .int (nI (T.2.2.2.2.2.1 - 2)), .ref aS, .int (nI nr), .ref aR, .int (nI ns), .ref aE, .int (bI fr), .ref aK, .ref aIV, .ref aIN, .int (bI on), .ref aOp, .int oP, .int oA, .int (nI tk), .ref aRw, .ref aGn])), (aO, .inl (X.2 3, 520, .inl (ia T.1))), (aA, .inl (X.2 4, 520, .inl (ia T.2.1))), (aBt, .inl (X.2 4, 520, .inl (ia T.2.2.1))), (aD, .inl (X.2 3, 520, .inl (ia T.2.2.2.1))), (aS, .inl (X.2 0, 8, .inl (ia T.2.2.2.2.1)))] H := hP
              have hD : va_D A [(m0, .inr (6, [.int (nI P), .ref aV, .ref aB, .int (nI nk), .ref aRS, .ref aRT, .int (nI T.2.2.2.2.2.2), .ref aO, .ref aA, .ref aBt, .ref aD, .ref aT, .int (nI (T.2.2.2.2.2.1 - 2)), .ref aS, .int (nI nr), .ref aR, .int (nI ns), .ref aE, .int (bI fr), .ref aK, .ref aIV, .ref aIN, .int (bI on), .ref aOp, .int oP, .int oA, .int (nI tk), .ref aRw, .ref aGn])), (aO, .inl (X.2 3, 520, .inl (ia T.1))), (aA, .inl (X.2 4, 520, .inl (ia T.2.1))), (aBt, .inl (X.2 4, 520, .inl (ia T.2.2.1))), (aD, .inl (X.2 3, 520, .inl (ia T.2.2.2.1))), (aS, .inl (X.2 0, 8, .inl (ia T.2.2.2.2.1)))] := hD
              refine lv_aload_n hx hb d_Mo_join_101 rfl (lv_at hl 3 rfl) ?_
              refine lv_iload_n hx hb d_Mo_join_102 rfl (lv_at hl 4 rfl) ?_
              refine lv_iload_n hx hb d_Mo_join_103 rfl (lv_at hl 1 rfl) ?_
              refine lv_iload_n hx hb d_Mo_join_104 rfl (lv_at hl 2 rfl) ?_
              refine lv_iload hx hb d_Mo_join_105 (lv_at hl 0 rfl) ?_
              refine lv_iconst (v := nI 1) hx hb d_Mo_join_107 (by decide) ?_
              refine lv_iadd hx hb d_Mo_join_108 ?_
              refine topI (nI_add _ _) ?_
              refine clVI (n := 4) (As := [.int (nI op), .int (nI (T.2.2.2.2.1 (T.2.2.2.2.2.1 - 2))), .int (nI (T.2.2.2.2.1 (T.2.2.2.2.2.1 - 1))), .int (nI ((max (dpT T (T.2.2.2.2.2.1 - 2)) (dpT T (T.2.2.2.2.2.1 - 1))) + 1))]) (rest := []) (wc := [(m0, .inr (6, [.int (nI P), .ref aV, .ref aB, .int (nI nk), .ref aRS, .ref aRT, .int (nI T.2.2.2.2.2.2), .ref aO, .ref aA, .ref aBt, .ref aD, .ref aT, .int (nI (T.2.2.2.2.2.1 - 2)), .ref aS, .int (nI nr), .ref aR, .int (nI ns), .ref aE, .int (bI fr), .ref aK, .ref aIV, .ref aIN, .int (bI on), .ref aOp, .int oP, .int oA, .int (nI tk), .ref aRw, .ref aGn])), (aO, .inl (X.2 3, 520, .inl (ia T.1))), (aA, .inl (X.2 4, 520, .inl (ia T.2.1))), (aBt, .inl (X.2 4, 520, .inl (ia T.2.2.1))), (aD, .inl (X.2 3, 520, .inl (ia T.2.2.2.1))), (aS, .inl (X.2 0, 8, .inl (ia T.2.2.2.2.1)))]) (wr := []) hx hb hml hown hg hE hA hP hD hS (k_Mo_push l X m0 aV aB aRS aRT aO aA aBt aD aT aS aR aE aK aIV aIN aOp aRw aGn P nk nr ns oP tk oA T fr on (T.2.2.2.2.2.1 - 2) op (T.2.2.2.2.1 (T.2.2.2.2.2.1 - 2)) (T.2.2.2.2.1 (T.2.2.2.2.2.1 - 1)) (max (dpT T (T.2.2.2.2.2.1 - 2)) (dpT T (T.2.2.2.2.2.1 - 1)) + 1) (by omega) hnt (by omega) (by omega) (by omega) (by omega)) (gcons m_590 (gcons m_592 (gcons ms_Mo_push (gcons m_8 (gcons m_593 gG))))) (by decide +kernel) [0, 1, 2, 3, 4, 5] [] rfl rfl (by decide) (by decide) (by decide) 0 rfl rfl rfl hl.1 (Nat.le_of_ble_eq_true rfl) rfl d_Mo_join_109 ⟨rfl, rfl, Nat.le_of_ble_eq_true rfl, Nat.le_of_ble_eq_true rfl⟩ (⟨Nat.le_of_ble_eq_true rfl, Nat.le_of_ble_eq_true rfl⟩) (fun r109 u109_1 H locs hq109 hP hD hS => ?_)
              have hq109 : r109 = nI 1 := hq109
              subst hq109
              have hP : va_P X.1 classes [(m0, .inr (6, [.int (nI P), .ref aV, .ref aB, .int (nI nk), .ref aRS, .ref aRT, .int (nI (T.2.2.2.2.2.2 + 1)), .ref aO, .ref aA, .ref aBt, .ref aD, .ref aT, .int (nI (T.2.2.2.2.2.1 - 2 + 1)), .ref aS, .int (nI nr), .ref aR, .int (nI ns), .ref aE, .int (bI fr), .ref aK, .ref aIV, .ref aIN, .int (bI on), .ref aOp, .int oP, .int oA, .int (nI tk), .ref aRw, .ref aGn])), (aO, .inl (X.2 3, 520, .inl (ia (upN T.1 T.2.2.2.2.2.2 op)))), (aA, .inl (X.2 4, 520, .inl (ia (upN T.2.1 T.2.2.2.2.2.2 (T.2.2.2.2.1 (T.2.2.2.2.2.1 - 2)))))), (aBt, .inl (X.2 4, 520, .inl (ia (upN T.2.2.1 T.2.2.2.2.2.2 (T.2.2.2.2.1 (T.2.2.2.2.2.1 - 1)))))), (aD, .inl (X.2 3, 520, .inl (ia (upN T.2.2.2.1 T.2.2.2.2.2.2 (max (dpT T (T.2.2.2.2.2.1 - 2)) (dpT T (T.2.2.2.2.2.1 - 1)) + 1))))), (aS, .inl (X.2 0, 8, .inl (ia (upN T.2.2.2.2.1 (T.2.2.2.2.2.1 - 2) T.2.2.2.2.2.2))))] H := hP
              have hD : va_D A [(m0, .inr (6, [.int (nI P), .ref aV, .ref aB, .int (nI nk), .ref aRS, .ref aRT, .int (nI (T.2.2.2.2.2.2 + 1)), .ref aO, .ref aA, .ref aBt, .ref aD, .ref aT, .int (nI (T.2.2.2.2.2.1 - 2 + 1)), .ref aS, .int (nI nr), .ref aR, .int (nI ns), .ref aE, .int (bI fr), .ref aK, .ref aIV, .ref aIN, .int (bI on), .ref aOp, .int oP, .int oA, .int (nI tk), .ref aRw, .ref aGn])), (aO, .inl (X.2 3, 520, .inl (ia (upN T.1 T.2.2.2.2.2.2 op)))), (aA, .inl (X.2 4, 520, .inl (ia (upN T.2.1 T.2.2.2.2.2.2 (T.2.2.2.2.1 (T.2.2.2.2.2.1 - 2)))))), (aBt, .inl (X.2 4, 520, .inl (ia (upN T.2.2.1 T.2.2.2.2.2.2 (T.2.2.2.2.1 (T.2.2.2.2.2.1 - 1)))))), (aD, .inl (X.2 3, 520, .inl (ia (upN T.2.2.2.1 T.2.2.2.2.2.2 (max (dpT T (T.2.2.2.2.2.1 - 2)) (dpT T (T.2.2.2.2.2.1 - 1)) + 1))))), (aS, .inl (X.2 0, 8, .inl (ia (upN T.2.2.2.2.1 (T.2.2.2.2.2.1 - 2) T.2.2.2.2.2.2))))] := hD
              exact retZ (u := psh op (T.2.2.2.2.1 (T.2.2.2.2.2.1 - 2)) (T.2.2.2.2.1 (T.2.2.2.2.2.1 - 1)) (max (dpT T (T.2.2.2.2.2.1 - 2)) (dpT T (T.2.2.2.2.2.1 - 1)) + 1) T (T.2.2.2.2.2.1 - 2)) hx hb hr hlk (by decide) hP hD hS (⟨by rw [hjc, jnO_t hc21 hc86]; rfl, by rw [hjc, jnO_t hc21 hc86, nI_clamp (by omega)]; rfl⟩) d_Mo_join_112
            · rw [nI_eq (by omega) (by omega)] at hc86
              refine lv_iconst (v := nI 0) hx hb d_Mo_join_89 (by decide) ?_
              exact retZ (u := T) hx hb hr hlk (by decide) hP hD hS (⟨by rw [hjc, jnO_b hc86]; rfl, by rw [hjc, jnO_b hc86]; rfl⟩) d_Mo_join_90
        · rw [nI_leI (by omega) (by omega)] at hc21
          refine lv_iconst (v := nI 0) hx hb d_Mo_join_24 (by decide) ?_
          exact retZ (u := T) hx hb hr hlk (by decide) hP hD hS (by first | exact ⟨by rw [jc_on hc4]; rfl, by rw [jc_on hc4]; rfl⟩ | exact ⟨by rw [hjc, jnO_a hc21]; rfl, by rw [hjc, jnO_a hc21]; rfl⟩ | exact ⟨by rw [jc_a hc8]; rfl, by rw [jc_a hc8]; rfl⟩ | exact ⟨by rw [jc_b hc13]; rfl, by rw [jc_b hc13]; rfl⟩) d_Mo_join_25
set_option maxHeartbeats 4000000 in
set_option maxRecDepth 100000 in
theorem k_Mo_require (l : Launch) (X : Cx) (m0 aV aB aRS aRT aO aA aBt aD aT aS aR aE aK aIV aIN aOp aRw aGn : Nat) (P nk nr ns : Nat) (oP : Int32) (tk : Nat) (oA : Int32) (T : TS) (fr on : Bool) (ru : Nat → Nat) (hnr : nr ≤ 8) (htc : T.2.2.2.2.2.1 ≤ 8) (hnt : T.2.2.2.2.2.2 < 520) (hTK : ∀ j, j < T.2.2.2.2.2.1 → T.2.2.2.2.1 j < T.2.2.2.2.2.2) (hTD : ∀ j, T.2.2.2.1 j < 100) : CtI l X (TY X) y_Mo_require cw_Mo_require ({ frames := 0, cells := 0, slots := 0, locals := 0 } : Room) [.ref m0] [(m0, .inr (6, [.int (nI P), .ref aV, .ref aB, .int (nI nk), .ref aRS, .ref aRT, .int (nI T.2.2.2.2.2.2), .ref aO, .ref aA, .ref aBt, .ref aD, .ref aT, .int (nI T.2.2.2.2.2.1), .ref aS, .int (nI nr), .ref aR, .int (nI ns), .ref aE, .int (bI fr), .ref aK, .ref aIV, .ref aIN, .int (bI on), .ref aOp, .int oP, .int oA, .int (nI tk), .ref aRw, .ref aGn])), (aS, .inl (X.2 0, 8, .inl (ia T.2.2.2.2.1))), (aR, .inl (X.2 0, 8, .inl (ia ru)))] (S := Nat × Nat × (Nat → Nat) × Bool) (fun r u => r = rqA on T.2.2.2.2.2.1 nr ∧ u.1 = (bif rqO on T.2.2.2.2.2.1 nr then T.2.2.2.2.2.1 - 1 else T.2.2.2.2.2.1) ∧ u.2.1 = (bif rqO on T.2.2.2.2.2.1 nr then nr + 1 else nr) ∧ u.2.2.1 = (bif rqO on T.2.2.2.2.2.1 nr then upN ru nr (T.2.2.2.2.1 (T.2.2.2.2.2.1 - 1)) else ru) ∧ u.2.2.2 = (bif rqO on T.2.2.2.2.2.1 nr then false else fr)) (fun u => [(m0, .inr (6, [.int (nI P), .ref aV, .ref aB, .int (nI nk), .ref aRS, .ref aRT, .int (nI T.2.2.2.2.2.2), .ref aO, .ref aA, .ref aBt, .ref aD, .ref aT, .int (nI u.1), .ref aS, .int (nI u.2.1), .ref aR, .int (nI ns), .ref aE, .int (bI u.2.2.2), .ref aK, .ref aIV, .ref aIN, .int (bI on), .ref aOp, .int oP, .int oA, .int (nI tk), .ref aRw, .ref aGn])), (aS, .inl (X.2 0, 8, .inl (ia T.2.2.2.2.1))), (aR, .inl (X.2 0, 8, .inl (ia u.2.2.1)))]) 0 0 := by
  refine metI (by decide) (Nat.le_of_ble_eq_true rfl) ?_
  intro p e s m below meth c A ls hB hl
  obtain ⟨hx, hb, hr, hml, hown, hlk, hin, hg, hA, hD, hP, hE⟩ := hB
  have hS : va_S A s.heap s.heap [] := va_S.rf
  have hl : lv_has ls 1 [(0, .ref m0)] := hl
  refine lv_aload_n hx hb d_Mo_require_0 rfl (lv_at hl 0 rfl) ?_
  refine va_get (D := X.1) (ci := 6) (v := .int (bI on)) (C := R_Mo) (T := F_Mo) (N := 29) hx hb hg in_Mo hown hE.1 hP 0 rfl rfl 22 (by decide) (hg _ m_497) (fun _ h9 => h9) rfl d_Mo_require_1 ?_
  refine lv_if_eq (tgt := 9) hx hb d_Mo_require_4 (by decide) (fun hc4 => ?_) (fun hc4 => ?_)
  · rw [bI_z] at hc4
    refine lv_aload_n hx hb d_Mo_require_9 rfl (lv_at hl 0 rfl) ?_
    refine va_get (D := X.1) (ci := 6) (v := .int (nI T.2.2.2.2.2.1)) (C := R_Mo) (T := F_Mo) (N := 29) hx hb hg in_Mo hown hE.1 hP 0 rfl rfl 12 (by decide) (hg _ m_487) (fun _ h9 => h9) rfl d_Mo_require_10 ?_
    refine lv_if_ne (tgt := 19) hx hb d_Mo_require_13 (by decide) (fun hc13 => ?_) (fun hc13 => ?_)
    · rw [n_z (by omega)] at hc13
      refine lv_aload_n hx hb d_Mo_require_19 rfl (lv_at hl 0 rfl) ?_
      refine va_get (D := X.1) (ci := 6) (v := .int (nI nr)) (C := R_Mo) (T := F_Mo) (N := 29) hx hb hg in_Mo hown hE.1 hP 0 rfl rfl 14 (by decide) (hg _ m_489) (fun _ h9 => h9) rfl d_Mo_require_20 ?_
      refine lv_bipush (v := nI 8) hx hb d_Mo_require_23 (by decide) ?_
      refine lv_icmp_ne (tgt := 31) hx hb d_Mo_require_25 (by decide) (fun hc25 => ?_) (fun hc25 => ?_)
      · rw [nI_eq (by omega) (by omega)] at hc25
        refine lv_aload_n hx hb d_Mo_require_31 rfl (lv_at hl 0 rfl) ?_
        refine lv_dup hx hb d_Mo_require_32 rfl ?_
        refine va_get (D := X.1) (ci := 6) (v := .int (nI T.2.2.2.2.2.1)) (C := R_Mo) (T := F_Mo) (N := 29) hx hb hg in_Mo hown hE.1 hP 0 rfl rfl 12 (by decide) (hg _ m_487) (fun _ h9 => h9) rfl d_Mo_require_33 ?_
        refine lv_iconst (v := nI 1) hx hb d_Mo_require_36 (by decide) ?_
        refine lv_isub hx hb d_Mo_require_37 ?_
        refine topI (pk_sub (by omega)) ?_
        refine va_put (D := X.1) (ci := 6) (v := .int (nI (T.2.2.2.2.2.1 - 1))) (ty := .int) (C := R_Mo) (T := F_Mo) (N := 29) hx hb hg in_Mo t_Mo t_Mo_ok n_Mo hown hE.1 hP hD hS 0 rfl rfl 12 (by decide) (hg _ m_487) (fun _ h9 => h9) rfl (by decide +kernel) rfl rfl (Nat.le_of_ble_eq_true rfl) d_Mo_require_38 (fun H locs hP hD hS => ?_)
        have hP : va_P X.1 classes [(m0, .inr (6, [.int (nI P), .ref aV, .ref aB, .int (nI nk), .ref aRS, .ref aRT, .int (nI T.2.2.2.2.2.2), .ref aO, .ref aA, .ref aBt, .ref aD, .ref aT, .int (nI (T.2.2.2.2.2.1 - 1)), .ref aS, .int (nI nr), .ref aR, .int (nI ns), .ref aE, .int (bI fr), .ref aK, .ref aIV, .ref aIN, .int (bI on), .ref aOp, .int oP, .int oA, .int (nI tk), .ref aRw, .ref aGn])), (aS, .inl (X.2 0, 8, .inl (ia T.2.2.2.2.1))), (aR, .inl (X.2 0, 8, .inl (ia ru)))] H := hP
        have hD : va_D A [(m0, .inr (6, [.int (nI P), .ref aV, .ref aB, .int (nI nk), .ref aRS, .ref aRT, .int (nI T.2.2.2.2.2.2), .ref aO, .ref aA, .ref aBt, .ref aD, .ref aT, .int (nI (T.2.2.2.2.2.1 - 1)), .ref aS, .int (nI nr), .ref aR, .int (nI ns), .ref aE, .int (bI fr), .ref aK, .ref aIV, .ref aIN, .int (bI on), .ref aOp, .int oP, .int oA, .int (nI tk), .ref aRw, .ref aGn])), (aS, .inl (X.2 0, 8, .inl (ia T.2.2.2.2.1))), (aR, .inl (X.2 0, 8, .inl (ia ru)))] := hD
        refine lv_aload_n hx hb d_Mo_require_41 rfl (lv_at hl 0 rfl) ?_
        refine va_get (D := X.1) (ci := 6) (v := .ref aR) (C := R_Mo) (T := F_Mo) (N := 29) hx hb hg in_Mo hown hE.1 hP 0 rfl rfl 15 (by decide) (hg _ m_490) (fun _ h9 => h9) rfl d_Mo_require_42 ?_
        refine lv_aload_n hx hb d_Mo_require_45 rfl (lv_at hl 0 rfl) ?_
        refine va_get (D := X.1) (ci := 6) (v := .int (nI nr)) (C := R_Mo) (T := F_Mo) (N := 29) hx hb hg in_Mo hown hE.1 hP 0 rfl rfl 14 (by decide) (hg _ m_489) (fun _ h9 => h9) rfl d_Mo_require_46 ?_
        refine lv_aload_n hx hb d_Mo_require_49 rfl (lv_at hl 0 rfl) ?_
        refine va_get (D := X.1) (ci := 6) (v := .ref aS) (C := R_Mo) (T := F_Mo) (N := 29) hx hb hg in_Mo hown hE.1 hP 0 rfl rfl 13 (by decide) (hg _ m_488) (fun _ h9 => h9) rfl d_Mo_require_50 ?_
        refine lv_aload_n hx hb d_Mo_require_53 rfl (lv_at hl 0 rfl) ?_
        refine va_get (D := X.1) (ci := 6) (v := .int (nI (T.2.2.2.2.2.1 - 1))) (C := R_Mo) (T := F_Mo) (N := 29) hx hb hg in_Mo hown hE.1 hP 0 rfl rfl 12 (by decide) (hg _ m_487) (fun _ h9 => h9) rfl d_Mo_require_54 ?_
        refine va_iald hx hb hE.1 hP 1 0 rfl rfl (vp_in_nI (by omega) (by decide)) d_Mo_require_57 ?_
        refine topI (y := (ia T.2.2.2.2.1) (T.2.2.2.2.2.1 - 1)) (by rw [nI_clamp (by omega)]) ?_
        refine topI (y := nI (T.2.2.2.2.1 (T.2.2.2.2.2.1 - 1))) (rfl) ?_
        refine va_iast hx hb hE.1 hP hD hS 2 0 rfl rfl (vp_in_nI (by omega) (by decide)) d_Mo_require_58 (fun H locs hP hD hS => ?_)
        have hP : va_P X.1 classes [(m0, .inr (6, [.int (nI P), .ref aV, .ref aB, .int (nI nk), .ref aRS, .ref aRT, .int (nI T.2.2.2.2.2.2), .ref aO, .ref aA, .ref aBt, .ref aD, .ref aT, .int (nI (T.2.2.2.2.2.1 - 1)), .ref aS, .int (nI nr), .ref aR, .int (nI ns), .ref aE, .int (bI fr), .ref aK, .ref aIV, .ref aIN, .int (bI on), .ref aOp, .int oP, .int oA, .int (nI tk), .ref aRw, .ref aGn])), (aS, .inl (X.2 0, 8, .inl (ia T.2.2.2.2.1))), (aR, .inl (X.2 0, 8, .inl (upd (ia ru) (nI nr).toNatClampNeg (nI (T.2.2.2.2.1 (T.2.2.2.2.2.1 - 1))))))] H := hP
        have hD : va_D A [(m0, .inr (6, [.int (nI P), .ref aV, .ref aB, .int (nI nk), .ref aRS, .ref aRT, .int (nI T.2.2.2.2.2.2), .ref aO, .ref aA, .ref aBt, .ref aD, .ref aT, .int (nI (T.2.2.2.2.2.1 - 1)), .ref aS, .int (nI nr), .ref aR, .int (nI ns), .ref aE, .int (bI fr), .ref aK, .ref aIV, .ref aIN, .int (bI on), .ref aOp, .int oP, .int oA, .int (nI tk), .ref aRw, .ref aGn])), (aS, .inl (X.2 0, 8, .inl (ia T.2.2.2.2.1))), (aR, .inl (X.2 0, 8, .inl (upd (ia ru) (nI nr).toNatClampNeg (nI (T.2.2.2.2.1 (T.2.2.2.2.2.1 - 1))))))] := hD
        rw [nI_clamp (show nr < 2 ^ 31 by omega)] at hP hD
        have e9 : upd (ia ru) nr (nI (T.2.2.2.2.1 (T.2.2.2.2.2.1 - 1))) = ia (upN ru nr (T.2.2.2.2.1 (T.2.2.2.2.2.1 - 1))) := upd_ia _ _ _
        rw [e9] at hP hD
        clear e9
        refine lv_aload_n hx hb d_Mo_require_59 rfl (lv_at hl 0 rfl) ?_
        refine lv_dup hx hb d_Mo_require_60 rfl ?_
        refine va_get (D := X.1) (ci := 6) (v := .int (nI nr)) (C := R_Mo) (T := F_Mo) (N := 29) hx hb hg in_Mo hown hE.1 hP 0 rfl rfl 14 (by decide) (hg _ m_489) (fun _ h9 => h9) rfl d_Mo_require_61 ?_
        refine lv_iconst (v := nI 1) hx hb d_Mo_require_64 (by decide) ?_
        refine lv_iadd hx hb d_Mo_require_65 ?_
        refine topI (nI_add _ _) ?_
        refine va_put (D := X.1) (ci := 6) (v := .int (nI (nr + 1))) (ty := .int) (C := R_Mo) (T := F_Mo) (N := 29) hx hb hg in_Mo t_Mo t_Mo_ok n_Mo hown hE.1 hP hD hS 0 rfl rfl 14 (by decide) (hg _ m_489) (fun _ h9 => h9) rfl (by decide +kernel) rfl rfl (Nat.le_of_ble_eq_true rfl) d_Mo_require_66 (fun H locs hP hD hS => ?_)
        have hP : va_P X.1 classes [(m0, .inr (6, [.int (nI P), .ref aV, .ref aB, .int (nI nk), .ref aRS, .ref aRT, .int (nI T.2.2.2.2.2.2), .ref aO, .ref aA, .ref aBt, .ref aD, .ref aT, .int (nI (T.2.2.2.2.2.1 - 1)), .ref aS, .int (nI (nr + 1)), .ref aR, .int (nI ns), .ref aE, .int (bI fr), .ref aK, .ref aIV, .ref aIN, .int (bI on), .ref aOp, .int oP, .int oA, .int (nI tk), .ref aRw, .ref aGn])), (aS, .inl (X.2 0, 8, .inl (ia T.2.2.2.2.1))), (aR, .inl (X.2 0, 8, .inl (ia (upN ru nr (T.2.2.2.2.1 (T.2.2.2.2.2.1 - 1))))))] H := hP
        have hD : va_D A [(m0, .inr (6, [.int (nI P), .ref aV, .ref aB, .int (nI nk), .ref aRS, .ref aRT, .int (nI T.2.2.2.2.2.2), .ref aO, .ref aA, .ref aBt, .ref aD, .ref aT, .int (nI (T.2.2.2.2.2.1 - 1)), .ref aS, .int (nI (nr + 1)), .ref aR, .int (nI ns), .ref aE, .int (bI fr), .ref aK, .ref aIV, .ref aIN, .int (bI on), .ref aOp, .int oP, .int oA, .int (nI tk), .ref aRw, .ref aGn])), (aS, .inl (X.2 0, 8, .inl (ia T.2.2.2.2.1))), (aR, .inl (X.2 0, 8, .inl (ia (upN ru nr (T.2.2.2.2.1 (T.2.2.2.2.2.1 - 1))))))] := hD
        refine lv_aload_n hx hb d_Mo_require_69 rfl (lv_at hl 0 rfl) ?_
        refine lv_iconst (v := nI 0) hx hb d_Mo_require_70 (by decide) ?_
        refine va_put (D := X.1) (ci := 6) (v := .int (nI 0)) (ty := .boolean) (C := R_Mo) (T := F_Mo) (N := 29) hx hb hg in_Mo t_Mo t_Mo_ok n_Mo hown hE.1 hP hD hS 0 rfl rfl 18 (by decide) (hg _ m_493) (fun _ h9 => h9) rfl (by decide +kernel) rfl rfl (Nat.le_of_ble_eq_true rfl) d_Mo_require_71 (fun H locs hP hD hS => ?_)
        have hP : va_P X.1 classes [(m0, .inr (6, [.int (nI P), .ref aV, .ref aB, .int (nI nk), .ref aRS, .ref aRT, .int (nI T.2.2.2.2.2.2), .ref aO, .ref aA, .ref aBt, .ref aD, .ref aT, .int (nI (T.2.2.2.2.2.1 - 1)), .ref aS, .int (nI (nr + 1)), .ref aR, .int (nI ns), .ref aE, .int (nI 0), .ref aK, .ref aIV, .ref aIN, .int (bI on), .ref aOp, .int oP, .int oA, .int (nI tk), .ref aRw, .ref aGn])), (aS, .inl (X.2 0, 8, .inl (ia T.2.2.2.2.1))), (aR, .inl (X.2 0, 8, .inl (ia (upN ru nr (T.2.2.2.2.1 (T.2.2.2.2.2.1 - 1))))))] H := hP
        have hD : va_D A [(m0, .inr (6, [.int (nI P), .ref aV, .ref aB, .int (nI nk), .ref aRS, .ref aRT, .int (nI T.2.2.2.2.2.2), .ref aO, .ref aA, .ref aBt, .ref aD, .ref aT, .int (nI (T.2.2.2.2.2.1 - 1)), .ref aS, .int (nI (nr + 1)), .ref aR, .int (nI ns), .ref aE, .int (nI 0), .ref aK, .ref aIV, .ref aIN, .int (bI on), .ref aOp, .int oP, .int oA, .int (nI tk), .ref aRw, .ref aGn])), (aS, .inl (X.2 0, 8, .inl (ia T.2.2.2.2.1))), (aR, .inl (X.2 0, 8, .inl (ia (upN ru nr (T.2.2.2.2.1 (T.2.2.2.2.2.1 - 1))))))] := hD
        refine lv_aload_n hx hb d_Mo_require_74 rfl (lv_at hl 0 rfl) ?_
        refine va_get (D := X.1) (ci := 6) (v := .int (nI (nr + 1))) (C := R_Mo) (T := F_Mo) (N := 29) hx hb hg in_Mo hown hE.1 hP 0 rfl rfl 14 (by decide) (hg _ m_489) (fun _ h9 => h9) rfl d_Mo_require_75 ?_
        exact retI (u := (T.2.2.2.2.2.1 - 1, nr + 1, upN ru nr (T.2.2.2.2.1 (T.2.2.2.2.2.1 - 1)), false)) hx hb hr hlk hP hD hS (⟨(rq_1 hc4 hc13 hc25).2, by rw [(rq_1 hc4 hc13 hc25).1]; rfl, by rw [(rq_1 hc4 hc13 hc25).1]; rfl, by rw [(rq_1 hc4 hc13 hc25).1]; rfl, by rw [(rq_1 hc4 hc13 hc25).1]; rfl⟩) d_Mo_require_78
      · rw [nI_eq (by omega) (by omega)] at hc25
        refine lv_bipush (v := (-3)) hx hb d_Mo_require_28 (by decide) ?_
        exact retI (u := (T.2.2.2.2.2.1, nr, ru, fr)) hx hb hr hlk hP hD hS (⟨(rq_nr hc4 hc13 hc25).2, by rw [(rq_nr hc4 hc13 hc25).1]; rfl, by rw [(rq_nr hc4 hc13 hc25).1]; rfl, by rw [(rq_nr hc4 hc13 hc25).1]; rfl, by rw [(rq_nr hc4 hc13 hc25).1]; rfl⟩) d_Mo_require_30
    · rw [n_z (by omega)] at hc13
      refine lv_bipush (v := (-2)) hx hb d_Mo_require_16 (by decide) ?_
      exact retI (u := (T.2.2.2.2.2.1, nr, ru, fr)) hx hb hr hlk hP hD hS (⟨(rq_tc (nr := nr) hc4 hc13).2, by rw [(rq_tc (nr := nr) hc4 hc13).1]; rfl, by rw [(rq_tc (nr := nr) hc4 hc13).1]; rfl, by rw [(rq_tc (nr := nr) hc4 hc13).1]; rfl, by rw [(rq_tc (nr := nr) hc4 hc13).1]; rfl⟩) d_Mo_require_18
  · rw [bI_z] at hc4
    refine lv_iconst (v := (-1)) hx hb d_Mo_require_7 (by decide) ?_
    exact retI (u := (T.2.2.2.2.2.1, nr, ru, fr)) hx hb hr hlk hP hD hS (⟨(rq_on (tc := T.2.2.2.2.2.1) (nr := nr) hc4).2, by rw [(rq_on (tc := T.2.2.2.2.2.1) (nr := nr) hc4).1]; rfl, by rw [(rq_on (tc := T.2.2.2.2.2.1) (nr := nr) hc4).1]; rfl, by rw [(rq_on (tc := T.2.2.2.2.2.1) (nr := nr) hc4).1]; rfl, by rw [(rq_on (tc := T.2.2.2.2.2.1) (nr := nr) hc4).1]; rfl⟩) d_Mo_require_8
set_option maxHeartbeats 4000000 in
set_option maxRecDepth 100000 in
theorem k_Mo_meets (l : Launch) (X : Cx) (m0 aV aB aRS aRT aO aA aBt aD aT aS aR aE aK aIV aIN aOp aRw aGn : Nat) (P nk nr ns : Nat) (oP : Int32) (tk : Nat) (oA : Int32) (T : TS) (fr on : Bool) (ru : Nat → Nat) (tr : Nat → Bool) (hnr : nr ≤ 8) (hnt : T.2.2.2.2.2.2 ≤ 520) (hTOK : TOK T) (hru : ∀ k, k < nr → ru k < T.2.2.2.2.2.2) (rr : Nat) (hr4 : rr < 4096) : CtI l X (TY X) y_Mo_meets cw_Mo_meets ({ frames := 0, cells := 0, slots := 0, locals := 0 } : Room) [.ref m0, .int (nI rr)] [(m0, .inr (6, [.int (nI P), .ref aV, .ref aB, .int (nI nk), .ref aRS, .ref aRT, .int (nI T.2.2.2.2.2.2), .ref aO, .ref aA, .ref aBt, .ref aD, .ref aT, .int (nI T.2.2.2.2.2.1), .ref aS, .int (nI nr), .ref aR, .int (nI ns), .ref aE, .int (bI fr), .ref aK, .ref aIV, .ref aIN, .int (bI on), .ref aOp, .int oP, .int oA, .int (nI tk), .ref aRw, .ref aGn])), (aO, .inl (X.2 3, 520, .inl (ia T.1))), (aA, .inl (X.2 4, 520, .inl (ia T.2.1))), (aBt, .inl (X.2 4, 520, .inl (ia T.2.2.1))), (aT, .inl (X.2 2, 520, .inl (ba tr))), (aR, .inl (X.2 0, 8, .inl (ia ru)))] (S := Nat → Bool) (fun r _ => r = bI (alB (ruF T ru rr) nr)) (fun w => [(m0, .inr (6, [.int (nI P), .ref aV, .ref aB, .int (nI nk), .ref aRS, .ref aRT, .int (nI T.2.2.2.2.2.2), .ref aO, .ref aA, .ref aBt, .ref aD, .ref aT, .int (nI T.2.2.2.2.2.1), .ref aS, .int (nI nr), .ref aR, .int (nI ns), .ref aE, .int (bI fr), .ref aK, .ref aIV, .ref aIN, .int (bI on), .ref aOp, .int oP, .int oA, .int (nI tk), .ref aRw, .ref aGn])), (aO, .inl (X.2 3, 520, .inl (ia T.1))), (aA, .inl (X.2 4, 520, .inl (ia T.2.1))), (aBt, .inl (X.2 4, 520, .inl (ia T.2.2.1))), (aT, .inl (X.2 2, 520, .inl (ba w))), (aR, .inl (X.2 0, 8, .inl (ia ru)))]) 0 0 := by
  refine metI (by decide) (Nat.le_of_ble_eq_true rfl) ?_
  intro p e s m below meth c A ls hB hl
  obtain ⟨hx, hb, hr, hml, hown, hlk, hin, hg, hA, hD, hP, hE⟩ := hB
  have hS : va_S A s.heap s.heap [] := va_S.rf
  have hl : lv_has ls 5 [(0, .ref m0), (1, .int (nI rr))] := hl
  refine lv_iconst (v := nI 0) hx hb d_Mo_meets_0 (by decide) ?_
  refine lv_istore_n hx hb d_Mo_meets_1 rfl hl (by decide) rfl (fun ls hl => ?_)
  have hl : lv_has ls 5 [(2, .int (nI 0)), (0, .ref m0), (1, .int (nI rr))] := hl
  refine wLoop (nL := 5) (σ := (Nat) × (Nat → Bool)) (fun x9 => (fun (t : Nat) (f9 : Nat → Bool) => T.2.2.2.2.2.2 - t) x9.1 x9.2) (fun x9 => (fun (t : Nat) (f9 : Nat → Bool) => t ≤ T.2.2.2.2.2.2 ∧ tTr T rr t f9) x9.1 x9.2) (fun x9 => (fun (t : Nat) (f9 : Nat → Bool) => [(m0, .inr (6, [.int (nI P), .ref aV, .ref aB, .int (nI nk), .ref aRS, .ref aRT, .int (nI T.2.2.2.2.2.2), .ref aO, .ref aA, .ref aBt, .ref aD, .ref aT, .int (nI T.2.2.2.2.2.1), .ref aS, .int (nI nr), .ref aR, .int (nI ns), .ref aE, .int (bI fr), .ref aK, .ref aIV, .ref aIN, .int (bI on), .ref aOp, .int oP, .int oA, .int (nI tk), .ref aRw, .ref aGn])), (aO, .inl (X.2 3, 520, .inl (ia T.1))), (aA, .inl (X.2 4, 520, .inl (ia T.2.1))), (aBt, .inl (X.2 4, 520, .inl (ia T.2.2.1))), (aT, .inl (X.2 2, 520, .inl (ba f9))), (aR, .inl (X.2 0, 8, .inl (ia ru)))]) x9.1 x9.2) (fun x9 => (fun (t : Nat) (f9 : Nat → Bool) => [(0, .ref m0), (1, .int (nI rr)), (2, .int (nI t))]) x9.1 x9.2) ?_ (0, tr) (⟨Nat.zero_le _, fun i9 h9 => absurd h9 (Nat.not_lt_zero _)⟩) hP hD hS (lv_sub hl [1, 2, 0] rfl)
  rintro ⟨t, f9⟩ H locs ls hJ hP hD hS hl ih2
  have hJ : t ≤ T.2.2.2.2.2.2 ∧ tTr T rr t f9 := hJ
  obtain ⟨htn, htr⟩ := hJ
  have hP : va_P X.1 classes [(m0, .inr (6, [.int (nI P), .ref aV, .ref aB, .int (nI nk), .ref aRS, .ref aRT, .int (nI T.2.2.2.2.2.2), .ref aO, .ref aA, .ref aBt, .ref aD, .ref aT, .int (nI T.2.2.2.2.2.1), .ref aS, .int (nI nr), .ref aR, .int (nI ns), .ref aE, .int (bI fr), .ref aK, .ref aIV, .ref aIN, .int (bI on), .ref aOp, .int oP, .int oA, .int (nI tk), .ref aRw, .ref aGn])), (aO, .inl (X.2 3, 520, .inl (ia T.1))), (aA, .inl (X.2 4, 520, .inl (ia T.2.1))), (aBt, .inl (X.2 4, 520, .inl (ia T.2.2.1))), (aT, .inl (X.2 2, 520, .inl (ba f9))), (aR, .inl (X.2 0, 8, .inl (ia ru)))] H := hP
  have hD : va_D A [(m0, .inr (6, [.int (nI P), .ref aV, .ref aB, .int (nI nk), .ref aRS, .ref aRT, .int (nI T.2.2.2.2.2.2), .ref aO, .ref aA, .ref aBt, .ref aD, .ref aT, .int (nI T.2.2.2.2.2.1), .ref aS, .int (nI nr), .ref aR, .int (nI ns), .ref aE, .int (bI fr), .ref aK, .ref aIV, .ref aIN, .int (bI on), .ref aOp, .int oP, .int oA, .int (nI tk), .ref aRw, .ref aGn])), (aO, .inl (X.2 3, 520, .inl (ia T.1))), (aA, .inl (X.2 4, 520, .inl (ia T.2.1))), (aBt, .inl (X.2 4, 520, .inl (ia T.2.2.1))), (aT, .inl (X.2 2, 520, .inl (ba f9))), (aR, .inl (X.2 0, 8, .inl (ia ru)))] := hD
  have hl : lv_has ls 5 [(0, .ref m0), (1, .int (nI rr)), (2, .int (nI t))] := hl
  refine lv_iload_n hx hb d_Mo_meets_2 rfl (lv_at hl 2 rfl) ?_
  refine lv_aload_n hx hb d_Mo_meets_3 rfl (lv_at hl 0 rfl) ?_
  refine va_get (D := X.1) (ci := 6) (v := .int (nI T.2.2.2.2.2.2)) (C := R_Mo) (T := F_Mo) (N := 29) hx hb hg in_Mo hown hE.1 hP 0 rfl rfl 6 (by decide) (hg _ m_481) (fun _ h9 => h9) rfl d_Mo_meets_4 ?_
  refine lv_icmp_ge (tgt := 209) hx hb d_Mo_meets_7 (by decide) (fun hc7 => ?_) (fun hc7 => ?_)
  · rw [nI_leI (by omega) (by omega)] at hc7
    obtain rfl : t = T.2.2.2.2.2.2 := by omega
    have htv : ∀ k, k < nr → f9 (ru k) = ruF T ru rr k := fun k9 h9 => (htr _ (hru k9 h9)).trans (tv_lt (hru k9 h9))
    refine lv_iconst (v := nI 1) hx hb d_Mo_meets_209 (by decide) ?_
    refine topI (y := bI (alB (ruF T ru rr) 0)) (rfl) ?_
    refine lv_istore_n hx hb d_Mo_meets_210 rfl hl (by decide) rfl (fun ls hl => ?_)
    have hl : lv_has ls 5 [(2, .int (bI (alB (ruF T ru rr) 0))), (0, .ref m0), (1, .int (nI rr))] := hl
    refine lv_iconst (v := nI 0) hx hb d_Mo_meets_211 (by decide) ?_
    refine lv_istore_n hx hb d_Mo_meets_212 rfl hl (by decide) rfl (fun ls hl => ?_)
    have hl : lv_has ls 5 [(3, .int (nI 0)), (2, .int (bI (alB (ruF T ru rr) 0))), (0, .ref m0), (1, .int (nI rr))] := hl
    refine wLoop (nL := 5) (σ := (Nat)) (fun k => nr - k) (fun k => k ≤ nr) (fun k => [(m0, .inr (6, [.int (nI P), .ref aV, .ref aB, .int (nI nk), .ref aRS, .ref aRT, .int (nI T.2.2.2.2.2.2), .ref aO, .ref aA, .ref aBt, .ref aD, .ref aT, .int (nI T.2.2.2.2.2.1), .ref aS, .int (nI nr), .ref aR, .int (nI ns), .ref aE, .int (bI fr), .ref aK, .ref aIV, .ref aIN, .int (bI on), .ref aOp, .int oP, .int oA, .int (nI tk), .ref aRw, .ref aGn])), (aO, .inl (X.2 3, 520, .inl (ia T.1))), (aA, .inl (X.2 4, 520, .inl (ia T.2.1))), (aBt, .inl (X.2 4, 520, .inl (ia T.2.2.1))), (aT, .inl (X.2 2, 520, .inl (ba f9))), (aR, .inl (X.2 0, 8, .inl (ia ru)))]) (fun k => [(0, .ref m0), (1, .int (nI rr)), (2, .int (bI (alB (ruF T ru rr) k))), (3, .int (nI k))]) ?_ 0 (Nat.zero_le _) hP hD hS (lv_sub hl [2, 3, 1, 0] rfl)
    rintro k H locs ls hJ hP hD hS hl ih213
    have hJ : k ≤ nr := hJ
    have hP : va_P X.1 classes [(m0, .inr (6, [.int (nI P), .ref aV, .ref aB, .int (nI nk), .ref aRS, .ref aRT, .int (nI T.2.2.2.2.2.2), .ref aO, .ref aA, .ref aBt, .ref aD, .ref aT, .int (nI T.2.2.2.2.2.1), .ref aS, .int (nI nr), .ref aR, .int (nI ns), .ref aE, .int (bI fr), .ref aK, .ref aIV, .ref aIN, .int (bI on), .ref aOp, .int oP, .int oA, .int (nI tk), .ref aRw, .ref aGn])), (aO, .inl (X.2 3, 520, .inl (ia T.1))), (aA, .inl (X.2 4, 520, .inl (ia T.2.1))), (aBt, .inl (X.2 4, 520, .inl (ia T.2.2.1))), (aT, .inl (X.2 2, 520, .inl (ba f9))), (aR, .inl (X.2 0, 8, .inl (ia ru)))] H := hP
    have hD : va_D A [(m0, .inr (6, [.int (nI P), .ref aV, .ref aB, .int (nI nk), .ref aRS, .ref aRT, .int (nI T.2.2.2.2.2.2), .ref aO, .ref aA, .ref aBt, .ref aD, .ref aT, .int (nI T.2.2.2.2.2.1), .ref aS, .int (nI nr), .ref aR, .int (nI ns), .ref aE, .int (bI fr), .ref aK, .ref aIV, .ref aIN, .int (bI on), .ref aOp, .int oP, .int oA, .int (nI tk), .ref aRw, .ref aGn])), (aO, .inl (X.2 3, 520, .inl (ia T.1))), (aA, .inl (X.2 4, 520, .inl (ia T.2.1))), (aBt, .inl (X.2 4, 520, .inl (ia T.2.2.1))), (aT, .inl (X.2 2, 520, .inl (ba f9))), (aR, .inl (X.2 0, 8, .inl (ia ru)))] := hD
    have hl : lv_has ls 5 [(0, .ref m0), (1, .int (nI rr)), (2, .int (bI (alB (ruF T ru rr) k))), (3, .int (nI k))] := hl
    refine lv_iload_n hx hb d_Mo_meets_213 rfl (lv_at hl 3 rfl) ?_
    refine lv_aload_n hx hb d_Mo_meets_214 rfl (lv_at hl 0 rfl) ?_
    refine va_get (D := X.1) (ci := 6) (v := .int (nI nr)) (C := R_Mo) (T := F_Mo) (N := 29) hx hb hg in_Mo hown hE.1 hP 0 rfl rfl 14 (by decide) (hg _ m_489) (fun _ h9 => h9) rfl d_Mo_meets_215 ?_
    refine lv_icmp_ge (tgt := 251) hx hb d_Mo_meets_218 (by decide) (fun hc218 => ?_) (fun hc218 => ?_)
    · rw [nI_leI (by omega) (by omega)] at hc218
      obtain rfl : k = nr := by omega
      refine lv_iload_n hx hb d_Mo_meets_251 rfl (lv_at hl 2 rfl) ?_
      exact retZ (u := f9) hx hb hr hlk (bI_01 _) hP hD hS (rfl) d_Mo_meets_252
    · rw [nI_leI (by omega) (by omega)] at hc218
      have hruk := hru k (by omega)
      have htvk := htv k (by omega)
      refine lv_iload_n hx hb d_Mo_meets_221 rfl (lv_at hl 2 rfl) ?_
      refine lv_if_eq (tgt := 243) hx hb d_Mo_meets_222 (by decide) (fun hc222 => ?_) (fun hc222 => ?_)
      · rw [bI_z] at hc222
        refine lv_iconst (v := nI 0) hx hb d_Mo_meets_243 (by decide) ?_
        refine topI (y := bI (alB (ruF T ru rr) (k + 1))) (by first | (rw [al_f hc222]; rfl) | (rw [al_g hc236]; rfl)) ?_
        refine lv_istore_n hx hb d_Mo_meets_244 rfl hl (by decide) rfl (fun ls hl => ?_)
        have hl : lv_has ls 5 [(2, .int (bI (alB (ruF T ru rr) (k + 1)))), (0, .ref m0), (1, .int (nI rr)), (3, .int (nI k))] := hl
        refine lv_iinc (k := 3) (v := nI (k + 1)) hx hb d_Mo_meets_245 hl rfl (nI_1 _) (by decide) rfl (fun ls hl => ?_)
        have hl : lv_has ls 5 [(3, .int (nI (k + 1))), (2, .int (bI (alB (ruF T ru rr) (k + 1)))), (0, .ref m0), (1, .int (nI rr))] := hl
        refine lv_goto (tgt := 213) hx hb d_Mo_meets_248 (by decide) ?_
        exact ih213 (k + 1) H locs ls (by (try dsimp only); omega) (by (try dsimp only); omega) hP hD hS (lv_sub hl [2, 3, 1, 0] rfl)
      · rw [bI_z] at hc222
        refine lv_aload_n hx hb d_Mo_meets_225 rfl (lv_at hl 0 rfl) ?_
        refine va_get (D := X.1) (ci := 6) (v := .ref aT) (C := R_Mo) (T := F_Mo) (N := 29) hx hb hg in_Mo hown hE.1 hP 0 rfl rfl 11 (by decide) (hg _ m_486) (fun _ h9 => h9) rfl d_Mo_meets_226 ?_
        refine lv_aload_n hx hb d_Mo_meets_229 rfl (lv_at hl 0 rfl) ?_
        refine va_get (D := X.1) (ci := 6) (v := .ref aR) (C := R_Mo) (T := F_Mo) (N := 29) hx hb hg in_Mo hown hE.1 hP 0 rfl rfl 15 (by decide) (hg _ m_490) (fun _ h9 => h9) rfl d_Mo_meets_230 ?_
        refine lv_iload_n hx hb d_Mo_meets_233 rfl (lv_at hl 3 rfl) ?_
        refine va_iald hx hb hE.1 hP 5 0 rfl rfl (vp_in_nI (by omega) (by decide)) d_Mo_meets_234 ?_
        refine topI (y := (ia ru) k) (by rw [nI_clamp (by omega)]) ?_
        refine topI (y := nI (ru k)) (rfl) ?_
        refine va_zald hx hb hE.1 hP 4 2 rfl rfl (vp_in_nI (by omega) (by decide)) d_Mo_meets_235 ?_
        refine topI (y := (ba f9) (ru k)) (by rw [nI_clamp (by omega)]) ?_
        refine topI (y := bI (ruF T ru rr k)) (congrArg bI htvk) ?_
        refine lv_if_eq (tgt := 243) hx hb d_Mo_meets_236 (by decide) (fun hc236 => ?_) (fun hc236 => ?_)
        · rw [bI_z] at hc236
          refine lv_iconst (v := nI 0) hx hb d_Mo_meets_243 (by decide) ?_
          refine topI (y := bI (alB (ruF T ru rr) (k + 1))) (by first | (rw [al_f hc222]; rfl) | (rw [al_g hc236]; rfl)) ?_
          refine lv_istore_n hx hb d_Mo_meets_244 rfl hl (by decide) rfl (fun ls hl => ?_)
          have hl : lv_has ls 5 [(2, .int (bI (alB (ruF T ru rr) (k + 1)))), (0, .ref m0), (1, .int (nI rr)), (3, .int (nI k))] := hl
          refine lv_iinc (k := 3) (v := nI (k + 1)) hx hb d_Mo_meets_245 hl rfl (nI_1 _) (by decide) rfl (fun ls hl => ?_)
          have hl : lv_has ls 5 [(3, .int (nI (k + 1))), (2, .int (bI (alB (ruF T ru rr) (k + 1)))), (0, .ref m0), (1, .int (nI rr))] := hl
          refine lv_goto (tgt := 213) hx hb d_Mo_meets_248 (by decide) ?_
          exact ih213 (k + 1) H locs ls (by (try dsimp only); omega) (by (try dsimp only); omega) hP hD hS (lv_sub hl [2, 3, 1, 0] rfl)
        · rw [bI_z] at hc236
          refine lv_iconst (v := nI 1) hx hb d_Mo_meets_239 (by decide) ?_
          refine topI (y := bI (alB (ruF T ru rr) (k + 1))) (by rw [al_t hc222 hc236]; rfl) ?_
          refine lv_goto (tgt := 244) hx hb d_Mo_meets_240 (by decide) ?_
          refine lv_istore_n hx hb d_Mo_meets_244 rfl hl (by decide) rfl (fun ls hl => ?_)
          have hl : lv_has ls 5 [(2, .int (bI (alB (ruF T ru rr) (k + 1)))), (0, .ref m0), (1, .int (nI rr)), (3, .int (nI k))] := hl
          refine lv_iinc (k := 3) (v := nI (k + 1)) hx hb d_Mo_meets_245 hl rfl (nI_1 _) (by decide) rfl (fun ls hl => ?_)
          have hl : lv_has ls 5 [(3, .int (nI (k + 1))), (2, .int (bI (alB (ruF T ru rr) (k + 1)))), (0, .ref m0), (1, .int (nI rr))] := hl
          refine lv_goto (tgt := 213) hx hb d_Mo_meets_248 (by decide) ?_
          exact ih213 (k + 1) H locs ls (by (try dsimp only); omega) (by (try dsimp only); omega) hP hD hS (lv_sub hl [2, 3, 1, 0] rfl)
  · rw [nI_leI (by omega) (by omega)] at hc7
    obtain ⟨ho4, hq4, hqn⟩ := hTOK t (show t < T.2.2.2.2.2.2 by omega)
    have ho4 : T.1 t ≤ 4 := ho4
    have ha9 : T.2.1 t < 520 := (tok_ab hTOK (show t < T.2.2.2.2.2.2 by omega) hnt).1
    have hb8 : T.2.2.1 t < 520 := (tok_ab hTOK (show t < T.2.2.2.2.2.2 by omega) hnt).2
    refine lv_aload_n hx hb d_Mo_meets_10 rfl (lv_at hl 0 rfl) ?_
    refine va_get (D := X.1) (ci := 6) (v := .ref aA) (C := R_Mo) (T := F_Mo) (N := 29) hx hb hg in_Mo hown hE.1 hP 0 rfl rfl 8 (by decide) (hg _ m_483) (fun _ h9 => h9) rfl d_Mo_meets_11 ?_
    refine lv_iload_n hx hb d_Mo_meets_14 rfl (lv_at hl 2 rfl) ?_
    refine va_sald hx hb hE.1 hP 2 4 rfl rfl (vp_in_nI (by omega) (by decide)) d_Mo_meets_15 ?_
    refine topI (y := (ia T.2.1) t) (by rw [nI_clamp (by omega)]) ?_
    refine topI (y := nI (T.2.1 t)) (rfl) ?_
    refine lv_istore_n hx hb d_Mo_meets_16 rfl hl (by decide) rfl (fun ls hl => ?_)
    have hl : lv_has ls 5 [(3, .int (nI (T.2.1 t))), (0, .ref m0), (1, .int (nI rr)), (2, .int (nI t))] := hl
    refine lv_aload_n hx hb d_Mo_meets_17 rfl (lv_at hl 1 rfl) ?_
    refine va_get (D := X.1) (ci := 6) (v := .ref aBt) (C := R_Mo) (T := F_Mo) (N := 29) hx hb hg in_Mo hown hE.1 hP 0 rfl rfl 9 (by decide) (hg _ m_484) (fun _ h9 => h9) rfl d_Mo_meets_18 ?_
    refine lv_iload_n hx hb d_Mo_meets_21 rfl (lv_at hl 3 rfl) ?_
    refine va_sald hx hb hE.1 hP 3 4 rfl rfl (vp_in_nI (by omega) (by decide)) d_Mo_meets_22 ?_
    refine topI (y := (ia T.2.2.1) t) (by rw [nI_clamp (by omega)]) ?_
    refine topI (y := nI (T.2.2.1 t)) (rfl) ?_
    refine lv_istore hx hb d_Mo_meets_23 hl (by decide) rfl (fun ls hl => ?_)
    have hl : lv_has ls 5 [(4, .int (nI (T.2.2.1 t))), (3, .int (nI (T.2.1 t))), (0, .ref m0), (1, .int (nI rr)), (2, .int (nI t))] := hl
    refine lv_aload_n hx hb d_Mo_meets_25 rfl (lv_at hl 2 rfl) ?_
    refine va_get (D := X.1) (ci := 6) (v := .ref aO) (C := R_Mo) (T := F_Mo) (N := 29) hx hb hg in_Mo hown hE.1 hP 0 rfl rfl 7 (by decide) (hg _ m_482) (fun _ h9 => h9) rfl d_Mo_meets_26 ?_
    refine lv_iload_n hx hb d_Mo_meets_29 rfl (lv_at hl 4 rfl) ?_
    refine va_bald hx hb hE.1 hP 1 3 rfl rfl (vp_in_nI (by omega) (by decide)) d_Mo_meets_30 ?_
    refine topI (y := (ia T.1) t) (by rw [nI_clamp (by omega)]) ?_
    refine topI (y := nI (T.1 t)) (rfl) ?_
    refine lv_iconst (v := nI 4) hx hb d_Mo_meets_31 (by decide) ?_
    refine lv_icmp_ne (tgt := 61) hx hb d_Mo_meets_32 (by decide) (fun hc32 => ?_) (fun hc32 => ?_)
    · rw [nI_eq (by omega) (by omega)] at hc32
      have hq9 : T.2.1 t < t ∧ T.2.2.1 t < t := hqn hc32
      have eA := htr _ hq9.1
      have eB := htr _ hq9.2
      refine lv_aload_n hx hb d_Mo_meets_61 rfl (lv_at hl 2 rfl) ?_
      refine va_get (D := X.1) (ci := 6) (v := .ref aO) (C := R_Mo) (T := F_Mo) (N := 29) hx hb hg in_Mo hown hE.1 hP 0 rfl rfl 7 (by decide) (hg _ m_482) (fun _ h9 => h9) rfl d_Mo_meets_62 ?_
      refine lv_iload_n hx hb d_Mo_meets_65 rfl (lv_at hl 4 rfl) ?_
      refine va_bald hx hb hE.1 hP 1 3 rfl rfl (vp_in_nI (by omega) (by decide)) d_Mo_meets_66 ?_
      refine topI (y := (ia T.1) t) (by rw [nI_clamp (by omega)]) ?_
      refine topI (y := nI (T.1 t)) (rfl) ?_
      refine lv_iconst (v := nI 3) hx hb d_Mo_meets_67 (by decide) ?_
      refine lv_icmp_ne (tgt := 94) hx hb d_Mo_meets_68 (by decide) (fun hc68 => ?_) (fun hc68 => ?_)
      · rw [nI_eq (by omega) (by omega)] at hc68
        refine lv_aload_n hx hb d_Mo_meets_94 rfl (lv_at hl 2 rfl) ?_
        refine va_get (D := X.1) (ci := 6) (v := .ref aO) (C := R_Mo) (T := F_Mo) (N := 29) hx hb hg in_Mo hown hE.1 hP 0 rfl rfl 7 (by decide) (hg _ m_482) (fun _ h9 => h9) rfl d_Mo_meets_95 ?_
        refine lv_iload_n hx hb d_Mo_meets_98 rfl (lv_at hl 4 rfl) ?_
        refine va_bald hx hb hE.1 hP 1 3 rfl rfl (vp_in_nI (by omega) (by decide)) d_Mo_meets_99 ?_
        refine topI (y := (ia T.1) t) (by rw [nI_clamp (by omega)]) ?_
        refine topI (y := nI (T.1 t)) (rfl) ?_
        refine lv_iconst (v := nI 2) hx hb d_Mo_meets_100 (by decide) ?_
        refine lv_icmp_ne (tgt := 137) hx hb d_Mo_meets_101 (by decide) (fun hc101 => ?_) (fun hc101 => ?_)
        · rw [nI_eq (by omega) (by omega)] at hc101
          refine lv_aload_n hx hb d_Mo_meets_137 rfl (lv_at hl 2 rfl) ?_
          refine va_get (D := X.1) (ci := 6) (v := .ref aT) (C := R_Mo) (T := F_Mo) (N := 29) hx hb hg in_Mo hown hE.1 hP 0 rfl rfl 11 (by decide) (hg _ m_486) (fun _ h9 => h9) rfl d_Mo_meets_138 ?_
          refine lv_iload_n hx hb d_Mo_meets_141 rfl (lv_at hl 4 rfl) ?_
          refine lv_aload_n hx hb d_Mo_meets_142 rfl (lv_at hl 2 rfl) ?_
          refine va_get (D := X.1) (ci := 6) (v := .ref aO) (C := R_Mo) (T := F_Mo) (N := 29) hx hb hg in_Mo hown hE.1 hP 0 rfl rfl 7 (by decide) (hg _ m_482) (fun _ h9 => h9) rfl d_Mo_meets_143 ?_
          refine lv_iload_n hx hb d_Mo_meets_146 rfl (lv_at hl 4 rfl) ?_
          refine va_bald hx hb hE.1 hP 1 3 rfl rfl (vp_in_nI (by omega) (by decide)) d_Mo_meets_147 ?_
          refine topI (y := (ia T.1) t) (by rw [nI_clamp (by omega)]) ?_
          refine topI (y := nI (T.1 t)) (rfl) ?_
          refine lv_if_ne (tgt := 178) hx hb d_Mo_meets_148 (by decide) (fun hc148 => ?_) (fun hc148 => ?_)
          · rw [n_z (by omega)] at hc148
            refine lv_aload_n hx hb d_Mo_meets_178 rfl (lv_at hl 2 rfl) ?_
            refine va_get (D := X.1) (ci := 6) (v := .ref aT) (C := R_Mo) (T := F_Mo) (N := 29) hx hb hg in_Mo hown hE.1 hP 0 rfl rfl 11 (by decide) (hg _ m_486) (fun _ h9 => h9) rfl d_Mo_meets_179 ?_
            refine lv_iload_n hx hb d_Mo_meets_182 rfl (lv_at hl 1 rfl) ?_
            refine va_zald hx hb hE.1 hP 4 2 rfl rfl (vp_in_nI (by omega) (by decide)) d_Mo_meets_183 ?_
            refine topI (y := (ba f9) (T.2.1 t)) (by rw [nI_clamp (by omega)]) ?_
            refine topI (y := bI (tvL T rr t (T.2.1 t))) (congrArg bI eA) ?_
            refine lv_if_ne (tgt := 197) hx hb d_Mo_meets_184 (by decide) (fun hc184 => ?_) (fun hc184 => ?_)
            · rw [bI_z] at hc184
              refine lv_iconst (v := nI 1) hx hb d_Mo_meets_197 (by decide) ?_
              refine lv_goto (tgt := 202) hx hb d_Mo_meets_198 (by decide) ?_
              refine va_zast hx hb hE.1 hP hD hS 4 2 rfl rfl (vp_in_nI (by omega) (by decide)) d_Mo_meets_202 (fun H locs hP hD hS => ?_)
              have hP : va_P X.1 classes [(m0, .inr (6, [.int (nI P), .ref aV, .ref aB, .int (nI nk), .ref aRS, .ref aRT, .int (nI T.2.2.2.2.2.2), .ref aO, .ref aA, .ref aBt, .ref aD, .ref aT, .int (nI T.2.2.2.2.2.1), .ref aS, .int (nI nr), .ref aR, .int (nI ns), .ref aE, .int (bI fr), .ref aK, .ref aIV, .ref aIN, .int (bI on), .ref aOp, .int oP, .int oA, .int (nI tk), .ref aRw, .ref aGn])), (aO, .inl (X.2 3, 520, .inl (ia T.1))), (aA, .inl (X.2 4, 520, .inl (ia T.2.1))), (aBt, .inl (X.2 4, 520, .inl (ia T.2.2.1))), (aT, .inl (X.2 2, 520, .inl (upd (ba f9) (nI t).toNatClampNeg (vp_nar .boolean (nI 1))))), (aR, .inl (X.2 0, 8, .inl (ia ru)))] H := hP
              have hD : va_D A [(m0, .inr (6, [.int (nI P), .ref aV, .ref aB, .int (nI nk), .ref aRS, .ref aRT, .int (nI T.2.2.2.2.2.2), .ref aO, .ref aA, .ref aBt, .ref aD, .ref aT, .int (nI T.2.2.2.2.2.1), .ref aS, .int (nI nr), .ref aR, .int (nI ns), .ref aE, .int (bI fr), .ref aK, .ref aIV, .ref aIN, .int (bI on), .ref aOp, .int oP, .int oA, .int (nI tk), .ref aRw, .ref aGn])), (aO, .inl (X.2 3, 520, .inl (ia T.1))), (aA, .inl (X.2 4, 520, .inl (ia T.2.1))), (aBt, .inl (X.2 4, 520, .inl (ia T.2.2.1))), (aT, .inl (X.2 2, 520, .inl (upd (ba f9) (nI t).toNatClampNeg (vp_nar .boolean (nI 1))))), (aR, .inl (X.2 0, 8, .inl (ia ru)))] := hD
              rw [nI_clamp (show t < 2 ^ 31 by omega)] at hP hD
              rw [upd_b1] at hP hD
              have hb9 : true = tE T rr (tvL T rr t) t := by first | (rw [tE_0 hc148, ts_nf hc157, ts_nf hc167]; rfl) | (rw [tE_1 hc32 hc68 hc101 hc148, ts_nf hc184]; rfl) | (rw [tE_1 hc32 hc68 hc101 hc148, ts_nf hc194, Bool.or_true])
              refine lv_iinc (k := 4) (v := nI (t + 1)) hx hb d_Mo_meets_203 hl rfl (nI_1 _) (by decide) rfl (fun ls hl => ?_)
              have hl : lv_has ls 5 [(2, .int (nI (t + 1))), (4, .int (nI (T.2.2.1 t))), (3, .int (nI (T.2.1 t))), (0, .ref m0), (1, .int (nI rr))] := hl
              refine lv_goto (tgt := 2) hx hb d_Mo_meets_206 (by decide) ?_
              exact ih2 (t + 1, ((upB f9 t true))) H locs ls (by (try dsimp only); omega) (⟨by (try dsimp only); omega, tr_s htr hb9⟩) hP hD hS (lv_sub hl [3, 4, 0] rfl)
            · rw [bI_z] at hc184
              refine lv_aload_n hx hb d_Mo_meets_187 rfl (lv_at hl 2 rfl) ?_
              refine va_get (D := X.1) (ci := 6) (v := .ref aT) (C := R_Mo) (T := F_Mo) (N := 29) hx hb hg in_Mo hown hE.1 hP 0 rfl rfl 11 (by decide) (hg _ m_486) (fun _ h9 => h9) rfl d_Mo_meets_188 ?_
              refine lv_iload hx hb d_Mo_meets_191 (lv_at hl 0 rfl) ?_
              refine va_zald hx hb hE.1 hP 4 2 rfl rfl (vp_in_nI (by omega) (by decide)) d_Mo_meets_193 ?_
              refine topI (y := (ba f9) (T.2.2.1 t)) (by rw [nI_clamp (by omega)]) ?_
              refine topI (y := bI (tvL T rr t (T.2.2.1 t))) (congrArg bI eB) ?_
              refine lv_if_eq (tgt := 201) hx hb d_Mo_meets_194 (by decide) (fun hc194 => ?_) (fun hc194 => ?_)
              · rw [bI_z] at hc194
                refine lv_iconst (v := nI 0) hx hb d_Mo_meets_201 (by decide) ?_
                refine va_zast hx hb hE.1 hP hD hS 4 2 rfl rfl (vp_in_nI (by omega) (by decide)) d_Mo_meets_202 (fun H locs hP hD hS => ?_)
                have hP : va_P X.1 classes [(m0, .inr (6, [.int (nI P), .ref aV, .ref aB, .int (nI nk), .ref aRS, .ref aRT, .int (nI T.2.2.2.2.2.2), .ref aO, .ref aA, .ref aBt, .ref aD, .ref aT, .int (nI T.2.2.2.2.2.1), .ref aS, .int (nI nr), .ref aR, .int (nI ns), .ref aE, .int (bI fr), .ref aK, .ref aIV, .ref aIN, .int (bI on), .ref aOp, .int oP, .int oA, .int (nI tk), .ref aRw, .ref aGn])), (aO, .inl (X.2 3, 520, .inl (ia T.1))), (aA, .inl (X.2 4, 520, .inl (ia T.2.1))), (aBt, .inl (X.2 4, 520, .inl (ia T.2.2.1))), (aT, .inl (X.2 2, 520, .inl (upd (ba f9) (nI t).toNatClampNeg (vp_nar .boolean (nI 0))))), (aR, .inl (X.2 0, 8, .inl (ia ru)))] H := hP
                have hD : va_D A [(m0, .inr (6, [.int (nI P), .ref aV, .ref aB, .int (nI nk), .ref aRS, .ref aRT, .int (nI T.2.2.2.2.2.2), .ref aO, .ref aA, .ref aBt, .ref aD, .ref aT, .int (nI T.2.2.2.2.2.1), .ref aS, .int (nI nr), .ref aR, .int (nI ns), .ref aE, .int (bI fr), .ref aK, .ref aIV, .ref aIN, .int (bI on), .ref aOp, .int oP, .int oA, .int (nI tk), .ref aRw, .ref aGn])), (aO, .inl (X.2 3, 520, .inl (ia T.1))), (aA, .inl (X.2 4, 520, .inl (ia T.2.1))), (aBt, .inl (X.2 4, 520, .inl (ia T.2.2.1))), (aT, .inl (X.2 2, 520, .inl (upd (ba f9) (nI t).toNatClampNeg (vp_nar .boolean (nI 0))))), (aR, .inl (X.2 0, 8, .inl (ia ru)))] := hD
                rw [nI_clamp (show t < 2 ^ 31 by omega)] at hP hD
                rw [upd_b0] at hP hD
                have hb9 : false = tE T rr (tvL T rr t) t := by first | (rw [tE_1 hc32 hc68 hc101 hc148, hc184, hc194]; rfl) | (rw [tE_0 hc148, hc157]; rfl) | (rw [tE_0 hc148, hc167, Bool.and_false])
                refine lv_iinc (k := 4) (v := nI (t + 1)) hx hb d_Mo_meets_203 hl rfl (nI_1 _) (by decide) rfl (fun ls hl => ?_)
                have hl : lv_has ls 5 [(2, .int (nI (t + 1))), (4, .int (nI (T.2.2.1 t))), (3, .int (nI (T.2.1 t))), (0, .ref m0), (1, .int (nI rr))] := hl
                refine lv_goto (tgt := 2) hx hb d_Mo_meets_206 (by decide) ?_
                exact ih2 (t + 1, ((upB f9 t false))) H locs ls (by (try dsimp only); omega) (⟨by (try dsimp only); omega, tr_s htr hb9⟩) hP hD hS (lv_sub hl [3, 4, 0] rfl)
              · rw [bI_z] at hc194
                refine lv_iconst (v := nI 1) hx hb d_Mo_meets_197 (by decide) ?_
                refine lv_goto (tgt := 202) hx hb d_Mo_meets_198 (by decide) ?_
                refine va_zast hx hb hE.1 hP hD hS 4 2 rfl rfl (vp_in_nI (by omega) (by decide)) d_Mo_meets_202 (fun H locs hP hD hS => ?_)
                have hP : va_P X.1 classes [(m0, .inr (6, [.int (nI P), .ref aV, .ref aB, .int (nI nk), .ref aRS, .ref aRT, .int (nI T.2.2.2.2.2.2), .ref aO, .ref aA, .ref aBt, .ref aD, .ref aT, .int (nI T.2.2.2.2.2.1), .ref aS, .int (nI nr), .ref aR, .int (nI ns), .ref aE, .int (bI fr), .ref aK, .ref aIV, .ref aIN, .int (bI on), .ref aOp, .int oP, .int oA, .int (nI tk), .ref aRw, .ref aGn])), (aO, .inl (X.2 3, 520, .inl (ia T.1))), (aA, .inl (X.2 4, 520, .inl (ia T.2.1))), (aBt, .inl (X.2 4, 520, .inl (ia T.2.2.1))), (aT, .inl (X.2 2, 520, .inl (upd (ba f9) (nI t).toNatClampNeg (vp_nar .boolean (nI 1))))), (aR, .inl (X.2 0, 8, .inl (ia ru)))] H := hP
                have hD : va_D A [(m0, .inr (6, [.int (nI P), .ref aV, .ref aB, .int (nI nk), .ref aRS, .ref aRT, .int (nI T.2.2.2.2.2.2), .ref aO, .ref aA, .ref aBt, .ref aD, .ref aT, .int (nI T.2.2.2.2.2.1), .ref aS, .int (nI nr), .ref aR, .int (nI ns), .ref aE, .int (bI fr), .ref aK, .ref aIV, .ref aIN, .int (bI on), .ref aOp, .int oP, .int oA, .int (nI tk), .ref aRw, .ref aGn])), (aO, .inl (X.2 3, 520, .inl (ia T.1))), (aA, .inl (X.2 4, 520, .inl (ia T.2.1))), (aBt, .inl (X.2 4, 520, .inl (ia T.2.2.1))), (aT, .inl (X.2 2, 520, .inl (upd (ba f9) (nI t).toNatClampNeg (vp_nar .boolean (nI 1))))), (aR, .inl (X.2 0, 8, .inl (ia ru)))] := hD
                rw [nI_clamp (show t < 2 ^ 31 by omega)] at hP hD
                rw [upd_b1] at hP hD
                have hb9 : true = tE T rr (tvL T rr t) t := by first | (rw [tE_0 hc148, ts_nf hc157, ts_nf hc167]; rfl) | (rw [tE_1 hc32 hc68 hc101 hc148, ts_nf hc184]; rfl) | (rw [tE_1 hc32 hc68 hc101 hc148, ts_nf hc194, Bool.or_true])
                refine lv_iinc (k := 4) (v := nI (t + 1)) hx hb d_Mo_meets_203 hl rfl (nI_1 _) (by decide) rfl (fun ls hl => ?_)
                have hl : lv_has ls 5 [(2, .int (nI (t + 1))), (4, .int (nI (T.2.2.1 t))), (3, .int (nI (T.2.1 t))), (0, .ref m0), (1, .int (nI rr))] := hl
                refine lv_goto (tgt := 2) hx hb d_Mo_meets_206 (by decide) ?_
                exact ih2 (t + 1, ((upB f9 t true))) H locs ls (by (try dsimp only); omega) (⟨by (try dsimp only); omega, tr_s htr hb9⟩) hP hD hS (lv_sub hl [3, 4, 0] rfl)
          · rw [n_z (by omega)] at hc148
            refine lv_aload_n hx hb d_Mo_meets_151 rfl (lv_at hl 2 rfl) ?_
            refine va_get (D := X.1) (ci := 6) (v := .ref aT) (C := R_Mo) (T := F_Mo) (N := 29) hx hb hg in_Mo hown hE.1 hP 0 rfl rfl 11 (by decide) (hg _ m_486) (fun _ h9 => h9) rfl d_Mo_meets_152 ?_
            refine lv_iload_n hx hb d_Mo_meets_155 rfl (lv_at hl 1 rfl) ?_
            refine va_zald hx hb hE.1 hP 4 2 rfl rfl (vp_in_nI (by omega) (by decide)) d_Mo_meets_156 ?_
            refine topI (y := (ba f9) (T.2.1 t)) (by rw [nI_clamp (by omega)]) ?_
            refine topI (y := bI (tvL T rr t (T.2.1 t))) (congrArg bI eA) ?_
            refine lv_if_eq (tgt := 174) hx hb d_Mo_meets_157 (by decide) (fun hc157 => ?_) (fun hc157 => ?_)
            · rw [bI_z] at hc157
              refine lv_iconst (v := nI 0) hx hb d_Mo_meets_174 (by decide) ?_
              refine lv_goto (tgt := 202) hx hb d_Mo_meets_175 (by decide) ?_
              refine va_zast hx hb hE.1 hP hD hS 4 2 rfl rfl (vp_in_nI (by omega) (by decide)) d_Mo_meets_202 (fun H locs hP hD hS => ?_)
              have hP : va_P X.1 classes [(m0, .inr (6, [.int (nI P), .ref aV, .ref aB, .int (nI nk), .ref aRS, .ref aRT, .int (nI T.2.2.2.2.2.2), .ref aO, .ref aA, .ref aBt, .ref aD, .ref aT, .int (nI T.2.2.2.2.2.1), .ref aS, .int (nI nr), .ref aR, .int (nI ns), .ref aE, .int (bI fr), .ref aK, .ref aIV, .ref aIN, .int (bI on), .ref aOp, .int oP, .int oA, .int (nI tk), .ref aRw, .ref aGn])), (aO, .inl (X.2 3, 520, .inl (ia T.1))), (aA, .inl (X.2 4, 520, .inl (ia T.2.1))), (aBt, .inl (X.2 4, 520, .inl (ia T.2.2.1))), (aT, .inl (X.2 2, 520, .inl (upd (ba f9) (nI t).toNatClampNeg (vp_nar .boolean (nI 0))))), (aR, .inl (X.2 0, 8, .inl (ia ru)))] H := hP
              have hD : va_D A [(m0, .inr (6, [.int (nI P), .ref aV, .ref aB, .int (nI nk), .ref aRS, .ref aRT, .int (nI T.2.2.2.2.2.2), .ref aO, .ref aA, .ref aBt, .ref aD, .ref aT, .int (nI T.2.2.2.2.2.1), .ref aS, .int (nI nr), .ref aR, .int (nI ns), .ref aE, .int (bI fr), .ref aK, .ref aIV, .ref aIN, .int (bI on), .ref aOp, .int oP, .int oA, .int (nI tk), .ref aRw, .ref aGn])), (aO, .inl (X.2 3, 520, .inl (ia T.1))), (aA, .inl (X.2 4, 520, .inl (ia T.2.1))), (aBt, .inl (X.2 4, 520, .inl (ia T.2.2.1))), (aT, .inl (X.2 2, 520, .inl (upd (ba f9) (nI t).toNatClampNeg (vp_nar .boolean (nI 0))))), (aR, .inl (X.2 0, 8, .inl (ia ru)))] := hD
              rw [nI_clamp (show t < 2 ^ 31 by omega)] at hP hD
              rw [upd_b0] at hP hD
              have hb9 : false = tE T rr (tvL T rr t) t := by first | (rw [tE_1 hc32 hc68 hc101 hc148, hc184, hc194]; rfl) | (rw [tE_0 hc148, hc157]; rfl) | (rw [tE_0 hc148, hc167, Bool.and_false])
              refine lv_iinc (k := 4) (v := nI (t + 1)) hx hb d_Mo_meets_203 hl rfl (nI_1 _) (by decide) rfl (fun ls hl => ?_)
              have hl : lv_has ls 5 [(2, .int (nI (t + 1))), (4, .int (nI (T.2.2.1 t))), (3, .int (nI (T.2.1 t))), (0, .ref m0), (1, .int (nI rr))] := hl
              refine lv_goto (tgt := 2) hx hb d_Mo_meets_206 (by decide) ?_
              exact ih2 (t + 1, ((upB f9 t false))) H locs ls (by (try dsimp only); omega) (⟨by (try dsimp only); omega, tr_s htr hb9⟩) hP hD hS (lv_sub hl [3, 4, 0] rfl)
            · rw [bI_z] at hc157
              refine lv_aload_n hx hb d_Mo_meets_160 rfl (lv_at hl 2 rfl) ?_
              refine va_get (D := X.1) (ci := 6) (v := .ref aT) (C := R_Mo) (T := F_Mo) (N := 29) hx hb hg in_Mo hown hE.1 hP 0 rfl rfl 11 (by decide) (hg _ m_486) (fun _ h9 => h9) rfl d_Mo_meets_161 ?_
              refine lv_iload hx hb d_Mo_meets_164 (lv_at hl 0 rfl) ?_
              refine va_zald hx hb hE.1 hP 4 2 rfl rfl (vp_in_nI (by omega) (by decide)) d_Mo_meets_166 ?_
              refine topI (y := (ba f9) (T.2.2.1 t)) (by rw [nI_clamp (by omega)]) ?_
              refine topI (y := bI (tvL T rr t (T.2.2.1 t))) (congrArg bI eB) ?_
              refine lv_if_eq (tgt := 174) hx hb d_Mo_meets_167 (by decide) (fun hc167 => ?_) (fun hc167 => ?_)
              · rw [bI_z] at hc167
                refine lv_iconst (v := nI 0) hx hb d_Mo_meets_174 (by decide) ?_
                refine lv_goto (tgt := 202) hx hb d_Mo_meets_175 (by decide) ?_
                refine va_zast hx hb hE.1 hP hD hS 4 2 rfl rfl (vp_in_nI (by omega) (by decide)) d_Mo_meets_202 (fun H locs hP hD hS => ?_)
                have hP : va_P X.1 classes [(m0, .inr (6, [.int (nI P), .ref aV, .ref aB, .int (nI nk), .ref aRS, .ref aRT, .int (nI T.2.2.2.2.2.2), .ref aO, .ref aA, .ref aBt, .ref aD, .ref aT, .int (nI T.2.2.2.2.2.1), .ref aS, .int (nI nr), .ref aR, .int (nI ns), .ref aE, .int (bI fr), .ref aK, .ref aIV, .ref aIN, .int (bI on), .ref aOp, .int oP, .int oA, .int (nI tk), .ref aRw, .ref aGn])), (aO, .inl (X.2 3, 520, .inl (ia T.1))), (aA, .inl (X.2 4, 520, .inl (ia T.2.1))), (aBt, .inl (X.2 4, 520, .inl (ia T.2.2.1))), (aT, .inl (X.2 2, 520, .inl (upd (ba f9) (nI t).toNatClampNeg (vp_nar .boolean (nI 0))))), (aR, .inl (X.2 0, 8, .inl (ia ru)))] H := hP
                have hD : va_D A [(m0, .inr (6, [.int (nI P), .ref aV, .ref aB, .int (nI nk), .ref aRS, .ref aRT, .int (nI T.2.2.2.2.2.2), .ref aO, .ref aA, .ref aBt, .ref aD, .ref aT, .int (nI T.2.2.2.2.2.1), .ref aS, .int (nI nr), .ref aR, .int (nI ns), .ref aE, .int (bI fr), .ref aK, .ref aIV, .ref aIN, .int (bI on), .ref aOp, .int oP, .int oA, .int (nI tk), .ref aRw, .ref aGn])), (aO, .inl (X.2 3, 520, .inl (ia T.1))), (aA, .inl (X.2 4, 520, .inl (ia T.2.1))), (aBt, .inl (X.2 4, 520, .inl (ia T.2.2.1))), (aT, .inl (X.2 2, 520, .inl (upd (ba f9) (nI t).toNatClampNeg (vp_nar .boolean (nI 0))))), (aR, .inl (X.2 0, 8, .inl (ia ru)))] := hD
                rw [nI_clamp (show t < 2 ^ 31 by omega)] at hP hD
                rw [upd_b0] at hP hD
                have hb9 : false = tE T rr (tvL T rr t) t := by first | (rw [tE_1 hc32 hc68 hc101 hc148, hc184, hc194]; rfl) | (rw [tE_0 hc148, hc157]; rfl) | (rw [tE_0 hc148, hc167, Bool.and_false])
                refine lv_iinc (k := 4) (v := nI (t + 1)) hx hb d_Mo_meets_203 hl rfl (nI_1 _) (by decide) rfl (fun ls hl => ?_)
                have hl : lv_has ls 5 [(2, .int (nI (t + 1))), (4, .int (nI (T.2.2.1 t))), (3, .int (nI (T.2.1 t))), (0, .ref m0), (1, .int (nI rr))] := hl
                refine lv_goto (tgt := 2) hx hb d_Mo_meets_206 (by decide) ?_
                exact ih2 (t + 1, ((upB f9 t false))) H locs ls (by (try dsimp only); omega) (⟨by (try dsimp only); omega, tr_s htr hb9⟩) hP hD hS (lv_sub hl [3, 4, 0] rfl)
              · rw [bI_z] at hc167
                refine lv_iconst (v := nI 1) hx hb d_Mo_meets_170 (by decide) ?_
                refine lv_goto (tgt := 202) hx hb d_Mo_meets_171 (by decide) ?_
                refine va_zast hx hb hE.1 hP hD hS 4 2 rfl rfl (vp_in_nI (by omega) (by decide)) d_Mo_meets_202 (fun H locs hP hD hS => ?_)
                have hP : va_P X.1 classes [(m0, .inr (6, [.int (nI P), .ref aV, .ref aB, .int (nI nk), .ref aRS, .ref aRT, .int (nI T.2.2.2.2.2.2), .ref aO, .ref aA, .ref aBt, .ref aD, .ref aT, .int (nI T.2.2.2.2.2.1), .ref aS, .int (nI nr), .ref aR, .int (nI ns), .ref aE, .int (bI fr), .ref aK, .ref aIV, .ref aIN, .int (bI on), .ref aOp, .int oP, .int oA, .int (nI tk), .ref aRw, .ref aGn])), (aO, .inl (X.2 3, 520, .inl (ia T.1))), (aA, .inl (X.2 4, 520, .inl (ia T.2.1))), (aBt, .inl (X.2 4, 520, .inl (ia T.2.2.1))), (aT, .inl (X.2 2, 520, .inl (upd (ba f9) (nI t).toNatClampNeg (vp_nar .boolean (nI 1))))), (aR, .inl (X.2 0, 8, .inl (ia ru)))] H := hP
                have hD : va_D A [(m0, .inr (6, [.int (nI P), .ref aV, .ref aB, .int (nI nk), .ref aRS, .ref aRT, .int (nI T.2.2.2.2.2.2), .ref aO, .ref aA, .ref aBt, .ref aD, .ref aT, .int (nI T.2.2.2.2.2.1), .ref aS, .int (nI nr), .ref aR, .int (nI ns), .ref aE, .int (bI fr), .ref aK, .ref aIV, .ref aIN, .int (bI on), .ref aOp, .int oP, .int oA, .int (nI tk), .ref aRw, .ref aGn])), (aO, .inl (X.2 3, 520, .inl (ia T.1))), (aA, .inl (X.2 4, 520, .inl (ia T.2.1))), (aBt, .inl (X.2 4, 520, .inl (ia T.2.2.1))), (aT, .inl (X.2 2, 520, .inl (upd (ba f9) (nI t).toNatClampNeg (vp_nar .boolean (nI 1))))), (aR, .inl (X.2 0, 8, .inl (ia ru)))] := hD
                rw [nI_clamp (show t < 2 ^ 31 by omega)] at hP hD
                rw [upd_b1] at hP hD
                have hb9 : true = tE T rr (tvL T rr t) t := by first | (rw [tE_0 hc148, ts_nf hc157, ts_nf hc167]; rfl) | (rw [tE_1 hc32 hc68 hc101 hc148, ts_nf hc184]; rfl) | (rw [tE_1 hc32 hc68 hc101 hc148, ts_nf hc194, Bool.or_true])
                refine lv_iinc (k := 4) (v := nI (t + 1)) hx hb d_Mo_meets_203 hl rfl (nI_1 _) (by decide) rfl (fun ls hl => ?_)
                have hl : lv_has ls 5 [(2, .int (nI (t + 1))), (4, .int (nI (T.2.2.1 t))), (3, .int (nI (T.2.1 t))), (0, .ref m0), (1, .int (nI rr))] := hl
                refine lv_goto (tgt := 2) hx hb d_Mo_meets_206 (by decide) ?_
                exact ih2 (t + 1, ((upB f9 t true))) H locs ls (by (try dsimp only); omega) (⟨by (try dsimp only); omega, tr_s htr hb9⟩) hP hD hS (lv_sub hl [3, 4, 0] rfl)
        · rw [nI_eq (by omega) (by omega)] at hc101
          refine lv_aload_n hx hb d_Mo_meets_104 rfl (lv_at hl 2 rfl) ?_
          refine va_get (D := X.1) (ci := 6) (v := .ref aT) (C := R_Mo) (T := F_Mo) (N := 29) hx hb hg in_Mo hown hE.1 hP 0 rfl rfl 11 (by decide) (hg _ m_486) (fun _ h9 => h9) rfl d_Mo_meets_105 ?_
          refine lv_iload_n hx hb d_Mo_meets_108 rfl (lv_at hl 4 rfl) ?_
          refine lv_aload_n hx hb d_Mo_meets_109 rfl (lv_at hl 2 rfl) ?_
          refine va_get (D := X.1) (ci := 6) (v := .ref aT) (C := R_Mo) (T := F_Mo) (N := 29) hx hb hg in_Mo hown hE.1 hP 0 rfl rfl 11 (by decide) (hg _ m_486) (fun _ h9 => h9) rfl d_Mo_meets_110 ?_
          refine lv_iload_n hx hb d_Mo_meets_113 rfl (lv_at hl 1 rfl) ?_
          refine va_zald hx hb hE.1 hP 4 2 rfl rfl (vp_in_nI (by omega) (by decide)) d_Mo_meets_114 ?_
          refine topI (y := (ba f9) (T.2.1 t)) (by rw [nI_clamp (by omega)]) ?_
          refine topI (y := bI (tvL T rr t (T.2.1 t))) (congrArg bI eA) ?_
          refine lv_if_eq (tgt := 128) hx hb d_Mo_meets_115 (by decide) (fun hc115 => ?_) (fun hc115 => ?_)
          · rw [bI_z] at hc115
            refine lv_iconst (v := nI 1) hx hb d_Mo_meets_128 (by decide) ?_
            refine lv_goto (tgt := 133) hx hb d_Mo_meets_129 (by decide) ?_
            refine va_zast hx hb hE.1 hP hD hS 4 2 rfl rfl (vp_in_nI (by omega) (by decide)) d_Mo_meets_133 (fun H locs hP hD hS => ?_)
            have hP : va_P X.1 classes [(m0, .inr (6, [.int (nI P), .ref aV, .ref aB, .int (nI nk), .ref aRS, .ref aRT, .int (nI T.2.2.2.2.2.2), .ref aO, .ref aA, .ref aBt, .ref aD, .ref aT, .int (nI T.2.2.2.2.2.1), .ref aS, .int (nI nr), .ref aR, .int (nI ns), .ref aE, .int (bI fr), .ref aK, .ref aIV, .ref aIN, .int (bI on), .ref aOp, .int oP, .int oA, .int (nI tk), .ref aRw, .ref aGn])), (aO, .inl (X.2 3, 520, .inl (ia T.1))), (aA, .inl (X.2 4, 520, .inl (ia T.2.1))), (aBt, .inl (X.2 4, 520, .inl (ia T.2.2.1))), (aT, .inl (X.2 2, 520, .inl (upd (ba f9) (nI t).toNatClampNeg (vp_nar .boolean (nI 1))))), (aR, .inl (X.2 0, 8, .inl (ia ru)))] H := hP
            have hD : va_D A [(m0, .inr (6, [.int (nI P), .ref aV, .ref aB, .int (nI nk), .ref aRS, .ref aRT, .int (nI T.2.2.2.2.2.2), .ref aO, .ref aA, .ref aBt, .ref aD, .ref aT, .int (nI T.2.2.2.2.2.1), .ref aS, .int (nI nr), .ref aR, .int (nI ns), .ref aE, .int (bI fr), .ref aK, .ref aIV, .ref aIN, .int (bI on), .ref aOp, .int oP, .int oA, .int (nI tk), .ref aRw, .ref aGn])), (aO, .inl (X.2 3, 520, .inl (ia T.1))), (aA, .inl (X.2 4, 520, .inl (ia T.2.1))), (aBt, .inl (X.2 4, 520, .inl (ia T.2.2.1))), (aT, .inl (X.2 2, 520, .inl (upd (ba f9) (nI t).toNatClampNeg (vp_nar .boolean (nI 1))))), (aR, .inl (X.2 0, 8, .inl (ia ru)))] := hD
            rw [nI_clamp (show t < 2 ^ 31 by omega)] at hP hD
            rw [upd_b1] at hP hD
            have hb9 : true = tE T rr (tvL T rr t) t := by first | (rw [tE_2 hc101, hc115]; rfl) | (rw [tE_2 hc101, ts_nf hc125, Bool.or_true])
            refine lv_goto (tgt := 203) hx hb d_Mo_meets_134 (by decide) ?_
            refine lv_iinc (k := 4) (v := nI (t + 1)) hx hb d_Mo_meets_203 hl rfl (nI_1 _) (by decide) rfl (fun ls hl => ?_)
            have hl : lv_has ls 5 [(2, .int (nI (t + 1))), (4, .int (nI (T.2.2.1 t))), (3, .int (nI (T.2.1 t))), (0, .ref m0), (1, .int (nI rr))] := hl
            refine lv_goto (tgt := 2) hx hb d_Mo_meets_206 (by decide) ?_
            exact ih2 (t + 1, ((upB f9 t true))) H locs ls (by (try dsimp only); omega) (⟨by (try dsimp only); omega, tr_s htr hb9⟩) hP hD hS (lv_sub hl [3, 4, 0] rfl)
          · rw [bI_z] at hc115
            refine lv_aload_n hx hb d_Mo_meets_118 rfl (lv_at hl 2 rfl) ?_
            refine va_get (D := X.1) (ci := 6) (v := .ref aT) (C := R_Mo) (T := F_Mo) (N := 29) hx hb hg in_Mo hown hE.1 hP 0 rfl rfl 11 (by decide) (hg _ m_486) (fun _ h9 => h9) rfl d_Mo_meets_119 ?_
            refine lv_iload hx hb d_Mo_meets_122 (lv_at hl 0 rfl) ?_
            refine va_zald hx hb hE.1 hP 4 2 rfl rfl (vp_in_nI (by omega) (by decide)) d_Mo_meets_124 ?_
            refine topI (y := (ba f9) (T.2.2.1 t)) (by rw [nI_clamp (by omega)]) ?_
            refine topI (y := bI (tvL T rr t (T.2.2.1 t))) (congrArg bI eB) ?_
            refine lv_if_eq (tgt := 132) hx hb d_Mo_meets_125 (by decide) (fun hc125 => ?_) (fun hc125 => ?_)
            · rw [bI_z] at hc125
              refine lv_iconst (v := nI 0) hx hb d_Mo_meets_132 (by decide) ?_
              refine va_zast hx hb hE.1 hP hD hS 4 2 rfl rfl (vp_in_nI (by omega) (by decide)) d_Mo_meets_133 (fun H locs hP hD hS => ?_)
              have hP : va_P X.1 classes [(m0, .inr (6, [.int (nI P), .ref aV, .ref aB, .int (nI nk), .ref aRS, .ref aRT, .int (nI T.2.2.2.2.2.2), .ref aO, .ref aA, .ref aBt, .ref aD, .ref aT, .int (nI T.2.2.2.2.2.1), .ref aS, .int (nI nr), .ref aR, .int (nI ns), .ref aE, .int (bI fr), .ref aK, .ref aIV, .ref aIN, .int (bI on), .ref aOp, .int oP, .int oA, .int (nI tk), .ref aRw, .ref aGn])), (aO, .inl (X.2 3, 520, .inl (ia T.1))), (aA, .inl (X.2 4, 520, .inl (ia T.2.1))), (aBt, .inl (X.2 4, 520, .inl (ia T.2.2.1))), (aT, .inl (X.2 2, 520, .inl (upd (ba f9) (nI t).toNatClampNeg (vp_nar .boolean (nI 0))))), (aR, .inl (X.2 0, 8, .inl (ia ru)))] H := hP
              have hD : va_D A [(m0, .inr (6, [.int (nI P), .ref aV, .ref aB, .int (nI nk), .ref aRS, .ref aRT, .int (nI T.2.2.2.2.2.2), .ref aO, .ref aA, .ref aBt, .ref aD, .ref aT, .int (nI T.2.2.2.2.2.1), .ref aS, .int (nI nr), .ref aR, .int (nI ns), .ref aE, .int (bI fr), .ref aK, .ref aIV, .ref aIN, .int (bI on), .ref aOp, .int oP, .int oA, .int (nI tk), .ref aRw, .ref aGn])), (aO, .inl (X.2 3, 520, .inl (ia T.1))), (aA, .inl (X.2 4, 520, .inl (ia T.2.1))), (aBt, .inl (X.2 4, 520, .inl (ia T.2.2.1))), (aT, .inl (X.2 2, 520, .inl (upd (ba f9) (nI t).toNatClampNeg (vp_nar .boolean (nI 0))))), (aR, .inl (X.2 0, 8, .inl (ia ru)))] := hD
              rw [nI_clamp (show t < 2 ^ 31 by omega)] at hP hD
              rw [upd_b0] at hP hD
              have hb9 : false = tE T rr (tvL T rr t) t := by rw [tE_2 hc101, ts_nf hc115, hc125]; rfl
              refine lv_goto (tgt := 203) hx hb d_Mo_meets_134 (by decide) ?_
              refine lv_iinc (k := 4) (v := nI (t + 1)) hx hb d_Mo_meets_203 hl rfl (nI_1 _) (by decide) rfl (fun ls hl => ?_)
              have hl : lv_has ls 5 [(2, .int (nI (t + 1))), (4, .int (nI (T.2.2.1 t))), (3, .int (nI (T.2.1 t))), (0, .ref m0), (1, .int (nI rr))] := hl
              refine lv_goto (tgt := 2) hx hb d_Mo_meets_206 (by decide) ?_
              exact ih2 (t + 1, ((upB f9 t false))) H locs ls (by (try dsimp only); omega) (⟨by (try dsimp only); omega, tr_s htr hb9⟩) hP hD hS (lv_sub hl [3, 4, 0] rfl)
            · rw [bI_z] at hc125
              refine lv_iconst (v := nI 1) hx hb d_Mo_meets_128 (by decide) ?_
              refine lv_goto (tgt := 133) hx hb d_Mo_meets_129 (by decide) ?_
              refine va_zast hx hb hE.1 hP hD hS 4 2 rfl rfl (vp_in_nI (by omega) (by decide)) d_Mo_meets_133 (fun H locs hP hD hS => ?_)
              have hP : va_P X.1 classes [(m0, .inr (6, [.int (nI P), .ref aV, .ref aB, .int (nI nk), .ref aRS, .ref aRT, .int (nI T.2.2.2.2.2.2), .ref aO, .ref aA, .ref aBt, .ref aD, .ref aT, .int (nI T.2.2.2.2.2.1), .ref aS, .int (nI nr), .ref aR, .int (nI ns), .ref aE, .int (bI fr), .ref aK, .ref aIV, .ref aIN, .int (bI on), .ref aOp, .int oP, .int oA, .int (nI tk), .ref aRw, .ref aGn])), (aO, .inl (X.2 3, 520, .inl (ia T.1))), (aA, .inl (X.2 4, 520, .inl (ia T.2.1))), (aBt, .inl (X.2 4, 520, .inl (ia T.2.2.1))), (aT, .inl (X.2 2, 520, .inl (upd (ba f9) (nI t).toNatClampNeg (vp_nar .boolean (nI 1))))), (aR, .inl (X.2 0, 8, .inl (ia ru)))] H := hP
              have hD : va_D A [(m0, .inr (6, [.int (nI P), .ref aV, .ref aB, .int (nI nk), .ref aRS, .ref aRT, .int (nI T.2.2.2.2.2.2), .ref aO, .ref aA, .ref aBt, .ref aD, .ref aT, .int (nI T.2.2.2.2.2.1), .ref aS, .int (nI nr), .ref aR, .int (nI ns), .ref aE, .int (bI fr), .ref aK, .ref aIV, .ref aIN, .int (bI on), .ref aOp, .int oP, .int oA, .int (nI tk), .ref aRw, .ref aGn])), (aO, .inl (X.2 3, 520, .inl (ia T.1))), (aA, .inl (X.2 4, 520, .inl (ia T.2.1))), (aBt, .inl (X.2 4, 520, .inl (ia T.2.2.1))), (aT, .inl (X.2 2, 520, .inl (upd (ba f9) (nI t).toNatClampNeg (vp_nar .boolean (nI 1))))), (aR, .inl (X.2 0, 8, .inl (ia ru)))] := hD
              rw [nI_clamp (show t < 2 ^ 31 by omega)] at hP hD
              rw [upd_b1] at hP hD
              have hb9 : true = tE T rr (tvL T rr t) t := by first | (rw [tE_2 hc101, hc115]; rfl) | (rw [tE_2 hc101, ts_nf hc125, Bool.or_true])
              refine lv_goto (tgt := 203) hx hb d_Mo_meets_134 (by decide) ?_
              refine lv_iinc (k := 4) (v := nI (t + 1)) hx hb d_Mo_meets_203 hl rfl (nI_1 _) (by decide) rfl (fun ls hl => ?_)
              have hl : lv_has ls 5 [(2, .int (nI (t + 1))), (4, .int (nI (T.2.2.1 t))), (3, .int (nI (T.2.1 t))), (0, .ref m0), (1, .int (nI rr))] := hl
              refine lv_goto (tgt := 2) hx hb d_Mo_meets_206 (by decide) ?_
              exact ih2 (t + 1, ((upB f9 t true))) H locs ls (by (try dsimp only); omega) (⟨by (try dsimp only); omega, tr_s htr hb9⟩) hP hD hS (lv_sub hl [3, 4, 0] rfl)
      · rw [nI_eq (by omega) (by omega)] at hc68
        refine lv_aload_n hx hb d_Mo_meets_71 rfl (lv_at hl 2 rfl) ?_
        refine va_get (D := X.1) (ci := 6) (v := .ref aT) (C := R_Mo) (T := F_Mo) (N := 29) hx hb hg in_Mo hown hE.1 hP 0 rfl rfl 11 (by decide) (hg _ m_486) (fun _ h9 => h9) rfl d_Mo_meets_72 ?_
        refine lv_iload_n hx hb d_Mo_meets_75 rfl (lv_at hl 4 rfl) ?_
        refine lv_aload_n hx hb d_Mo_meets_76 rfl (lv_at hl 2 rfl) ?_
        refine va_get (D := X.1) (ci := 6) (v := .ref aT) (C := R_Mo) (T := F_Mo) (N := 29) hx hb hg in_Mo hown hE.1 hP 0 rfl rfl 11 (by decide) (hg _ m_486) (fun _ h9 => h9) rfl d_Mo_meets_77 ?_
        refine lv_iload_n hx hb d_Mo_meets_80 rfl (lv_at hl 1 rfl) ?_
        refine va_zald hx hb hE.1 hP 4 2 rfl rfl (vp_in_nI (by omega) (by decide)) d_Mo_meets_81 ?_
        refine topI (y := (ba f9) (T.2.1 t)) (by rw [nI_clamp (by omega)]) ?_
        refine topI (y := bI (tvL T rr t (T.2.1 t))) (congrArg bI eA) ?_
        refine lv_if_ne (tgt := 89) hx hb d_Mo_meets_82 (by decide) (fun hc82 => ?_) (fun hc82 => ?_)
        · rw [bI_z] at hc82
          refine lv_iconst (v := nI 0) hx hb d_Mo_meets_89 (by decide) ?_
          refine va_zast hx hb hE.1 hP hD hS 4 2 rfl rfl (vp_in_nI (by omega) (by decide)) d_Mo_meets_90 (fun H locs hP hD hS => ?_)
          have hP : va_P X.1 classes [(m0, .inr (6, [.int (nI P), .ref aV, .ref aB, .int (nI nk), .ref aRS, .ref aRT, .int (nI T.2.2.2.2.2.2), .ref aO, .ref aA, .ref aBt, .ref aD, .ref aT, .int (nI T.2.2.2.2.2.1), .ref aS, .int (nI nr), .ref aR, .int (nI ns), .ref aE, .int (bI fr), .ref aK, .ref aIV, .ref aIN, .int (bI on), .ref aOp, .int oP, .int oA, .int (nI tk), .ref aRw, .ref aGn])), (aO, .inl (X.2 3, 520, .inl (ia T.1))), (aA, .inl (X.2 4, 520, .inl (ia T.2.1))), (aBt, .inl (X.2 4, 520, .inl (ia T.2.2.1))), (aT, .inl (X.2 2, 520, .inl (upd (ba f9) (nI t).toNatClampNeg (vp_nar .boolean (nI 0))))), (aR, .inl (X.2 0, 8, .inl (ia ru)))] H := hP
          have hD : va_D A [(m0, .inr (6, [.int (nI P), .ref aV, .ref aB, .int (nI nk), .ref aRS, .ref aRT, .int (nI T.2.2.2.2.2.2), .ref aO, .ref aA, .ref aBt, .ref aD, .ref aT, .int (nI T.2.2.2.2.2.1), .ref aS, .int (nI nr), .ref aR, .int (nI ns), .ref aE, .int (bI fr), .ref aK, .ref aIV, .ref aIN, .int (bI on), .ref aOp, .int oP, .int oA, .int (nI tk), .ref aRw, .ref aGn])), (aO, .inl (X.2 3, 520, .inl (ia T.1))), (aA, .inl (X.2 4, 520, .inl (ia T.2.1))), (aBt, .inl (X.2 4, 520, .inl (ia T.2.2.1))), (aT, .inl (X.2 2, 520, .inl (upd (ba f9) (nI t).toNatClampNeg (vp_nar .boolean (nI 0))))), (aR, .inl (X.2 0, 8, .inl (ia ru)))] := hD
          rw [nI_clamp (show t < 2 ^ 31 by omega)] at hP hD
          rw [upd_b0] at hP hD
          have hb9 : false = tE T rr (tvL T rr t) t := by rw [tE_3 hc68, ts_nf hc82]; rfl
          refine lv_goto (tgt := 203) hx hb d_Mo_meets_91 (by decide) ?_
          refine lv_iinc (k := 4) (v := nI (t + 1)) hx hb d_Mo_meets_203 hl rfl (nI_1 _) (by decide) rfl (fun ls hl => ?_)
          have hl : lv_has ls 5 [(2, .int (nI (t + 1))), (4, .int (nI (T.2.2.1 t))), (3, .int (nI (T.2.1 t))), (0, .ref m0), (1, .int (nI rr))] := hl
          refine lv_goto (tgt := 2) hx hb d_Mo_meets_206 (by decide) ?_
          exact ih2 (t + 1, ((upB f9 t false))) H locs ls (by (try dsimp only); omega) (⟨by (try dsimp only); omega, tr_s htr hb9⟩) hP hD hS (lv_sub hl [3, 4, 0] rfl)
        · rw [bI_z] at hc82
          refine lv_iconst (v := nI 1) hx hb d_Mo_meets_85 (by decide) ?_
          refine lv_goto (tgt := 90) hx hb d_Mo_meets_86 (by decide) ?_
          refine va_zast hx hb hE.1 hP hD hS 4 2 rfl rfl (vp_in_nI (by omega) (by decide)) d_Mo_meets_90 (fun H locs hP hD hS => ?_)
          have hP : va_P X.1 classes [(m0, .inr (6, [.int (nI P), .ref aV, .ref aB, .int (nI nk), .ref aRS, .ref aRT, .int (nI T.2.2.2.2.2.2), .ref aO, .ref aA, .ref aBt, .ref aD, .ref aT, .int (nI T.2.2.2.2.2.1), .ref aS, .int (nI nr), .ref aR, .int (nI ns), .ref aE, .int (bI fr), .ref aK, .ref aIV, .ref aIN, .int (bI on), .ref aOp, .int oP, .int oA, .int (nI tk), .ref aRw, .ref aGn])), (aO, .inl (X.2 3, 520, .inl (ia T.1))), (aA, .inl (X.2 4, 520, .inl (ia T.2.1))), (aBt, .inl (X.2 4, 520, .inl (ia T.2.2.1))), (aT, .inl (X.2 2, 520, .inl (upd (ba f9) (nI t).toNatClampNeg (vp_nar .boolean (nI 1))))), (aR, .inl (X.2 0, 8, .inl (ia ru)))] H := hP
          have hD : va_D A [(m0, .inr (6, [.int (nI P), .ref aV, .ref aB, .int (nI nk), .ref aRS, .ref aRT, .int (nI T.2.2.2.2.2.2), .ref aO, .ref aA, .ref aBt, .ref aD, .ref aT, .int (nI T.2.2.2.2.2.1), .ref aS, .int (nI nr), .ref aR, .int (nI ns), .ref aE, .int (bI fr), .ref aK, .ref aIV, .ref aIN, .int (bI on), .ref aOp, .int oP, .int oA, .int (nI tk), .ref aRw, .ref aGn])), (aO, .inl (X.2 3, 520, .inl (ia T.1))), (aA, .inl (X.2 4, 520, .inl (ia T.2.1))), (aBt, .inl (X.2 4, 520, .inl (ia T.2.2.1))), (aT, .inl (X.2 2, 520, .inl (upd (ba f9) (nI t).toNatClampNeg (vp_nar .boolean (nI 1))))), (aR, .inl (X.2 0, 8, .inl (ia ru)))] := hD
          rw [nI_clamp (show t < 2 ^ 31 by omega)] at hP hD
          rw [upd_b1] at hP hD
          have hb9 : true = tE T rr (tvL T rr t) t := by rw [tE_3 hc68, hc82]; rfl
          refine lv_goto (tgt := 203) hx hb d_Mo_meets_91 (by decide) ?_
          refine lv_iinc (k := 4) (v := nI (t + 1)) hx hb d_Mo_meets_203 hl rfl (nI_1 _) (by decide) rfl (fun ls hl => ?_)
          have hl : lv_has ls 5 [(2, .int (nI (t + 1))), (4, .int (nI (T.2.2.1 t))), (3, .int (nI (T.2.1 t))), (0, .ref m0), (1, .int (nI rr))] := hl
          refine lv_goto (tgt := 2) hx hb d_Mo_meets_206 (by decide) ?_
          exact ih2 (t + 1, ((upB f9 t true))) H locs ls (by (try dsimp only); omega) (⟨by (try dsimp only); omega, tr_s htr hb9⟩) hP hD hS (lv_sub hl [3, 4, 0] rfl)
    · rw [nI_eq (by omega) (by omega)] at hc32
      have hq9 : T.2.1 t < 6 ∧ T.2.2.1 t < 4 := hq4 hc32
      refine lv_aload_n hx hb d_Mo_meets_35 rfl (lv_at hl 2 rfl) ?_
      refine va_get (D := X.1) (ci := 6) (v := .ref aT) (C := R_Mo) (T := F_Mo) (N := 29) hx hb hg in_Mo hown hE.1 hP 0 rfl rfl 11 (by decide) (hg _ m_486) (fun _ h9 => h9) rfl d_Mo_meets_36 ?_
      refine lv_iload_n hx hb d_Mo_meets_39 rfl (lv_at hl 4 rfl) ?_
      refine lv_iload_n hx hb d_Mo_meets_40 rfl (lv_at hl 3 rfl) ?_
      refine lv_iconst (v := nI 2) hx hb d_Mo_meets_41 (by decide) ?_
      refine lv_iload_n hx hb d_Mo_meets_42 rfl (lv_at hl 1 rfl) ?_
      refine lv_imul hx hb d_Mo_meets_43 ?_
      refine topI (pk_mul _ _) ?_
      refine lv_ishr hx hb d_Mo_meets_44 ?_
      refine topI (shrN (by omega) (by omega)) ?_
      refine lv_iconst (v := nI 3) hx hb d_Mo_meets_45 (by decide) ?_
      refine lv_iand hx hb d_Mo_meets_46 ?_
      refine topI (y := nI (dg rr (T.2.1 t))) ((nx_and _ _).trans (congrArg nI (dg_eq rr _).symm)) ?_
      refine lv_iload hx hb d_Mo_meets_47 (lv_at hl 0 rfl) ?_
      refine lv_icmp_ne (tgt := 56) hx hb d_Mo_meets_49 (by decide) (fun hc49 => ?_) (fun hc49 => ?_)
      · rw [nI_eq (dg_lt31 _ _) (by omega)] at hc49
        refine lv_iconst (v := nI 0) hx hb d_Mo_meets_56 (by decide) ?_
        refine va_zast hx hb hE.1 hP hD hS 4 2 rfl rfl (vp_in_nI (by omega) (by decide)) d_Mo_meets_57 (fun H locs hP hD hS => ?_)
        have hP : va_P X.1 classes [(m0, .inr (6, [.int (nI P), .ref aV, .ref aB, .int (nI nk), .ref aRS, .ref aRT, .int (nI T.2.2.2.2.2.2), .ref aO, .ref aA, .ref aBt, .ref aD, .ref aT, .int (nI T.2.2.2.2.2.1), .ref aS, .int (nI nr), .ref aR, .int (nI ns), .ref aE, .int (bI fr), .ref aK, .ref aIV, .ref aIN, .int (bI on), .ref aOp, .int oP, .int oA, .int (nI tk), .ref aRw, .ref aGn])), (aO, .inl (X.2 3, 520, .inl (ia T.1))), (aA, .inl (X.2 4, 520, .inl (ia T.2.1))), (aBt, .inl (X.2 4, 520, .inl (ia T.2.2.1))), (aT, .inl (X.2 2, 520, .inl (upd (ba f9) (nI t).toNatClampNeg (vp_nar .boolean (nI 0))))), (aR, .inl (X.2 0, 8, .inl (ia ru)))] H := hP
        have hD : va_D A [(m0, .inr (6, [.int (nI P), .ref aV, .ref aB, .int (nI nk), .ref aRS, .ref aRT, .int (nI T.2.2.2.2.2.2), .ref aO, .ref aA, .ref aBt, .ref aD, .ref aT, .int (nI T.2.2.2.2.2.1), .ref aS, .int (nI nr), .ref aR, .int (nI ns), .ref aE, .int (bI fr), .ref aK, .ref aIV, .ref aIN, .int (bI on), .ref aOp, .int oP, .int oA, .int (nI tk), .ref aRw, .ref aGn])), (aO, .inl (X.2 3, 520, .inl (ia T.1))), (aA, .inl (X.2 4, 520, .inl (ia T.2.1))), (aBt, .inl (X.2 4, 520, .inl (ia T.2.2.1))), (aT, .inl (X.2 2, 520, .inl (upd (ba f9) (nI t).toNatClampNeg (vp_nar .boolean (nI 0))))), (aR, .inl (X.2 0, 8, .inl (ia ru)))] := hD
        rw [nI_clamp (show t < 2 ^ 31 by omega)] at hP hD
        rw [upd_b0] at hP hD
        have hb9 : false = tE T rr (tvL T rr t) t := by rw [tE_4 hc32, beq_false_of_ne hc49]
        refine lv_goto (tgt := 203) hx hb d_Mo_meets_58 (by decide) ?_
        refine lv_iinc (k := 4) (v := nI (t + 1)) hx hb d_Mo_meets_203 hl rfl (nI_1 _) (by decide) rfl (fun ls hl => ?_)
        have hl : lv_has ls 5 [(2, .int (nI (t + 1))), (4, .int (nI (T.2.2.1 t))), (3, .int (nI (T.2.1 t))), (0, .ref m0), (1, .int (nI rr))] := hl
        refine lv_goto (tgt := 2) hx hb d_Mo_meets_206 (by decide) ?_
        exact ih2 (t + 1, ((upB f9 t false))) H locs ls (by (try dsimp only); omega) (⟨by (try dsimp only); omega, tr_s htr hb9⟩) hP hD hS (lv_sub hl [3, 4, 0] rfl)
      · rw [nI_eq (dg_lt31 _ _) (by omega)] at hc49
        refine lv_iconst (v := nI 1) hx hb d_Mo_meets_52 (by decide) ?_
        refine lv_goto (tgt := 57) hx hb d_Mo_meets_53 (by decide) ?_
        refine va_zast hx hb hE.1 hP hD hS 4 2 rfl rfl (vp_in_nI (by omega) (by decide)) d_Mo_meets_57 (fun H locs hP hD hS => ?_)
        have hP : va_P X.1 classes [(m0, .inr (6, [.int (nI P), .ref aV, .ref aB, .int (nI nk), .ref aRS, .ref aRT, .int (nI T.2.2.2.2.2.2), .ref aO, .ref aA, .ref aBt, .ref aD, .ref aT, .int (nI T.2.2.2.2.2.1), .ref aS, .int (nI nr), .ref aR, .int (nI ns), .ref aE, .int (bI fr), .ref aK, .ref aIV, .ref aIN, .int (bI on), .ref aOp, .int oP, .int oA, .int (nI tk), .ref aRw, .ref aGn])), (aO, .inl (X.2 3, 520, .inl (ia T.1))), (aA, .inl (X.2 4, 520, .inl (ia T.2.1))), (aBt, .inl (X.2 4, 520, .inl (ia T.2.2.1))), (aT, .inl (X.2 2, 520, .inl (upd (ba f9) (nI t).toNatClampNeg (vp_nar .boolean (nI 1))))), (aR, .inl (X.2 0, 8, .inl (ia ru)))] H := hP
        have hD : va_D A [(m0, .inr (6, [.int (nI P), .ref aV, .ref aB, .int (nI nk), .ref aRS, .ref aRT, .int (nI T.2.2.2.2.2.2), .ref aO, .ref aA, .ref aBt, .ref aD, .ref aT, .int (nI T.2.2.2.2.2.1), .ref aS, .int (nI nr), .ref aR, .int (nI ns), .ref aE, .int (bI fr), .ref aK, .ref aIV, .ref aIN, .int (bI on), .ref aOp, .int oP, .int oA, .int (nI tk), .ref aRw, .ref aGn])), (aO, .inl (X.2 3, 520, .inl (ia T.1))), (aA, .inl (X.2 4, 520, .inl (ia T.2.1))), (aBt, .inl (X.2 4, 520, .inl (ia T.2.2.1))), (aT, .inl (X.2 2, 520, .inl (upd (ba f9) (nI t).toNatClampNeg (vp_nar .boolean (nI 1))))), (aR, .inl (X.2 0, 8, .inl (ia ru)))] := hD
        rw [nI_clamp (show t < 2 ^ 31 by omega)] at hP hD
        rw [upd_b1] at hP hD
        have hb9 : true = tE T rr (tvL T rr t) t := by rw [tE_4 hc32, hc49, beq_self_eq_true]
        refine lv_goto (tgt := 203) hx hb d_Mo_meets_58 (by decide) ?_
        refine lv_iinc (k := 4) (v := nI (t + 1)) hx hb d_Mo_meets_203 hl rfl (nI_1 _) (by decide) rfl (fun ls hl => ?_)
        have hl : lv_has ls 5 [(2, .int (nI (t + 1))), (4, .int (nI (T.2.2.1 t))), (3, .int (nI (T.2.1 t))), (0, .ref m0), (1, .int (nI rr))] := hl
        refine lv_goto (tgt := 2) hx hb d_Mo_meets_206 (by decide) ?_
        exact ih2 (t + 1, ((upB f9 t true))) H locs ls (by (try dsimp only); omega) (⟨by (try dsimp only); omega, tr_s htr hb9⟩) hP hD hS (lv_sub hl [3, 4, 0] rfl)
set_option maxHeartbeats 4000000 in
set_option maxRecDepth 100000 in
theorem k_Mo_judge (l : Launch) (X : Cx) (m0 aV aB aRS aRT aO aA aBt aD aT aS aR aE aK aIV aIN aOp aRw aGn : Nat) (P nk nr ns : Nat) (oP : Int32) (tk : Nat) (oA : Int32) (T : TS) (fr on : Bool) (vl iv : Nat → Nat) (hP6 : P ≤ 6) (hvl : ∀ p, p < 6 → 1 ≤ vl p ∧ vl p ≤ 4) (hv1 : ∀ p, P ≤ p → p < 6 → vl p = 1) (hi0 : ∀ p, P ≤ p → p < 6 → iv p = 0) (ru : Nat → Nat) (tr : Nat → Bool) (hnr : nr ≤ 8) (hnt : T.2.2.2.2.2.2 ≤ 520) (hTOK : TOK T) (hru : ∀ k, k < nr → ru k < T.2.2.2.2.2.2) (rr : Nat) (hr4 : rr < 4096) : CtI l X (TY X) y_Mo_judge cw_Mo_judge ({ frames := 1, cells := 0, slots := 0, locals := 24 } : Room) [.ref m0, .int (nI rr)] [(m0, .inr (6, [.int (nI P), .ref aV, .ref aB, .int (nI nk), .ref aRS, .ref aRT, .int (nI T.2.2.2.2.2.2), .ref aO, .ref aA, .ref aBt, .ref aD, .ref aT, .int (nI T.2.2.2.2.2.1), .ref aS, .int (nI nr), .ref aR, .int (nI ns), .ref aE, .int (bI fr), .ref aK, .ref aIV, .ref aIN, .int (bI on), .ref aOp, .int oP, .int oA, .int (nI tk), .ref aRw, .ref aGn])), (aV, .inl (X.2 0, 6, .inl (ia (rv P vl)))), (aB, .inl (X.2 2, 24, .inl (ba (bdF iv)))), (aO, .inl (X.2 3, 520, .inl (ia T.1))), (aA, .inl (X.2 4, 520, .inl (ia T.2.1))), (aBt, .inl (X.2 4, 520, .inl (ia T.2.2.1))), (aT, .inl (X.2 2, 520, .inl (ba tr))), (aR, .inl (X.2 0, 8, .inl (ia ru)))] (S := Nat → Bool) (fun r _ => r = kdI vl iv (fun r9 => alB (ruF T ru r9) nr) rr) (fun w => [(m0, .inr (6, [.int (nI P), .ref aV, .ref aB, .int (nI nk), .ref aRS, .ref aRT, .int (nI T.2.2.2.2.2.2), .ref aO, .ref aA, .ref aBt, .ref aD, .ref aT, .int (nI T.2.2.2.2.2.1), .ref aS, .int (nI nr), .ref aR, .int (nI ns), .ref aE, .int (bI fr), .ref aK, .ref aIV, .ref aIN, .int (bI on), .ref aOp, .int oP, .int oA, .int (nI tk), .ref aRw, .ref aGn])), (aV, .inl (X.2 0, 6, .inl (ia (rv P vl)))), (aB, .inl (X.2 2, 24, .inl (ba (bdF iv)))), (aO, .inl (X.2 3, 520, .inl (ia T.1))), (aA, .inl (X.2 4, 520, .inl (ia T.2.1))), (aBt, .inl (X.2 4, 520, .inl (ia T.2.2.1))), (aT, .inl (X.2 2, 520, .inl (ba w))), (aR, .inl (X.2 0, 8, .inl (ia ru)))]) 0 0 := by
  refine metI (by decide) (Nat.le_of_ble_eq_true rfl) ?_
  intro p e s m below meth c A ls hB hl
  obtain ⟨hx, hb, hr, hml, hown, hlk, hin, hg, hA, hD, hP, hE⟩ := hB
  have hS : va_S A s.heap s.heap [] := va_S.rf
  have hl : lv_has ls 5 [(0, .ref m0), (1, .int (nI rr))] := hl
  refine lv_iconst (v := nI 0) hx hb d_Mo_judge_0 (by decide) ?_
  refine lv_istore_n hx hb d_Mo_judge_1 rfl hl (by decide) rfl (fun ls hl => ?_)
  have hl : lv_has ls 5 [(2, .int (nI 0)), (0, .ref m0), (1, .int (nI rr))] := hl
  refine lv_iconst (v := nI 0) hx hb d_Mo_judge_2 (by decide) ?_
  refine lv_istore_n hx hb d_Mo_judge_3 rfl hl (by decide) rfl (fun ls hl => ?_)
  have hl : lv_has ls 5 [(3, .int (nI 0)), (2, .int (nI 0)), (0, .ref m0), (1, .int (nI rr))] := hl
  refine wLoop (nL := 5) (σ := (Nat)) (fun i => 6 - i) (fun i => i ≤ 6 ∧ all6 vl rr i = true) (fun i => [(m0, .inr (6, [.int (nI P), .ref aV, .ref aB, .int (nI nk), .ref aRS, .ref aRT, .int (nI T.2.2.2.2.2.2), .ref aO, .ref aA, .ref aBt, .ref aD, .ref aT, .int (nI T.2.2.2.2.2.1), .ref aS, .int (nI nr), .ref aR, .int (nI ns), .ref aE, .int (bI fr), .ref aK, .ref aIV, .ref aIN, .int (bI on), .ref aOp, .int oP, .int oA, .int (nI tk), .ref aRw, .ref aGn])), (aV, .inl (X.2 0, 6, .inl (ia (rv P vl)))), (aB, .inl (X.2 2, 24, .inl (ba (bdF iv)))), (aO, .inl (X.2 3, 520, .inl (ia T.1))), (aA, .inl (X.2 4, 520, .inl (ia T.2.1))), (aBt, .inl (X.2 4, 520, .inl (ia T.2.2.1))), (aT, .inl (X.2 2, 520, .inl (ba tr))), (aR, .inl (X.2 0, 8, .inl (ia ru)))]) (fun i => [(0, .ref m0), (1, .int (nI rr)), (2, .int (nI (wrg iv rr i))), (3, .int (nI i))]) ?_ 0 (⟨by omega, rfl⟩) hP hD hS (lv_sub hl [2, 3, 1, 0] rfl)
  rintro i H locs ls hJ hP hD hS hl ih4
  have hJ : i ≤ 6 ∧ all6 vl rr i = true := hJ
  obtain ⟨hi6, hall⟩ := hJ
  have hd4 := dg_lt rr i
  have hwl := wrg_le iv rr i
  have hP : va_P X.1 classes [(m0, .inr (6, [.int (nI P), .ref aV, .ref aB, .int (nI nk), .ref aRS, .ref aRT, .int (nI T.2.2.2.2.2.2), .ref aO, .ref aA, .ref aBt, .ref aD, .ref aT, .int (nI T.2.2.2.2.2.1), .ref aS, .int (nI nr), .ref aR, .int (nI ns), .ref aE, .int (bI fr), .ref aK, .ref aIV, .ref aIN, .int (bI on), .ref aOp, .int oP, .int oA, .int (nI tk), .ref aRw, .ref aGn])), (aV, .inl (X.2 0, 6, .inl (ia (rv P vl)))), (aB, .inl (X.2 2, 24, .inl (ba (bdF iv)))), (aO, .inl (X.2 3, 520, .inl (ia T.1))), (aA, .inl (X.2 4, 520, .inl (ia T.2.1))), (aBt, .inl (X.2 4, 520, .inl (ia T.2.2.1))), (aT, .inl (X.2 2, 520, .inl (ba tr))), (aR, .inl (X.2 0, 8, .inl (ia ru)))] H := hP
  have hD : va_D A [(m0, .inr (6, [.int (nI P), .ref aV, .ref aB, .int (nI nk), .ref aRS, .ref aRT, .int (nI T.2.2.2.2.2.2), .ref aO, .ref aA, .ref aBt, .ref aD, .ref aT, .int (nI T.2.2.2.2.2.1), .ref aS, .int (nI nr), .ref aR, .int (nI ns), .ref aE, .int (bI fr), .ref aK, .ref aIV, .ref aIN, .int (bI on), .ref aOp, .int oP, .int oA, .int (nI tk), .ref aRw, .ref aGn])), (aV, .inl (X.2 0, 6, .inl (ia (rv P vl)))), (aB, .inl (X.2 2, 24, .inl (ba (bdF iv)))), (aO, .inl (X.2 3, 520, .inl (ia T.1))), (aA, .inl (X.2 4, 520, .inl (ia T.2.1))), (aBt, .inl (X.2 4, 520, .inl (ia T.2.2.1))), (aT, .inl (X.2 2, 520, .inl (ba tr))), (aR, .inl (X.2 0, 8, .inl (ia ru)))] := hD
  have hl : lv_has ls 5 [(0, .ref m0), (1, .int (nI rr)), (2, .int (nI (wrg iv rr i))), (3, .int (nI i))] := hl
  refine lv_iload_n hx hb d_Mo_judge_4 rfl (lv_at hl 3 rfl) ?_
  refine lv_bipush (v := nI 6) hx hb d_Mo_judge_5 (by decide) ?_
  refine lv_icmp_ge (tgt := 84) hx hb d_Mo_judge_7 (by decide) (fun hc7 => ?_) (fun hc7 => ?_)
  · rw [nI_leI (by omega) (by omega)] at hc7
    obtain rfl : i = 6 := by omega
    refine lv_iload_n hx hb d_Mo_judge_84 rfl (lv_at hl 2 rfl) ?_
    refine lv_iconst (v := nI 1) hx hb d_Mo_judge_85 (by decide) ?_
    refine lv_icmp_gt (tgt := 97) hx hb d_Mo_judge_86 (by decide) (fun hc86 => ?_) (fun hc86 => ?_)
    · rw [nI_ltI (by omega) (by omega)] at hc86
      refine lv_iconst (v := nI 0) hx hb d_Mo_judge_97 (by decide) ?_
      refine lv_goto (tgt := 104) hx hb d_Mo_judge_98 (by decide) ?_
      exact retI (u := tr) hx hb hr hlk hP hD hS (by first | exact kd_w hall hc86 | exact kd_m hall hc94) d_Mo_judge_104
    · rw [nI_ltI (by omega) (by omega)] at hc86
      refine lv_aload_n hx hb d_Mo_judge_89 rfl (lv_at hl 0 rfl) ?_
      refine lv_iload_n hx hb d_Mo_judge_90 rfl (lv_at hl 1 rfl) ?_
      refine clVI (n := 1) (As := [.int (nI rr)]) (rest := []) (wc := [(m0, .inr (6, [.int (nI P), .ref aV, .ref aB, .int (nI nk), .ref aRS, .ref aRT, .int (nI T.2.2.2.2.2.2), .ref aO, .ref aA, .ref aBt, .ref aD, .ref aT, .int (nI T.2.2.2.2.2.1), .ref aS, .int (nI nr), .ref aR, .int (nI ns), .ref aE, .int (bI fr), .ref aK, .ref aIV, .ref aIN, .int (bI on), .ref aOp, .int oP, .int oA, .int (nI tk), .ref aRw, .ref aGn])), (aO, .inl (X.2 3, 520, .inl (ia T.1))), (aA, .inl (X.2 4, 520, .inl (ia T.2.1))), (aBt, .inl (X.2 4, 520, .inl (ia T.2.2.1))), (aT, .inl (X.2 2, 520, .inl (ba tr))), (aR, .inl (X.2 0, 8, .inl (ia ru)))]) (wr := [(aV, .inl (X.2 0, 6, .inl (ia (rv P vl)))), (aB, .inl (X.2 2, 24, .inl (ba (bdF iv))))]) hx hb hml hown hg hE hA hP hD hS (k_Mo_meets l X m0 aV aB aRS aRT aO aA aBt aD aT aS aR aE aK aIV aIN aOp aRw aGn P nk nr ns oP tk oA T fr on ru tr hnr hnt hTOK hru rr hr4) (gcons m_622 (gcons m_624 (gcons ms_Mo_meets (gcons m_8 (gcons m_625 gG))))) (by decide +kernel) [0, 3, 4, 5, 6, 7] [1, 2] rfl rfl (by decide) (by decide) (by decide) 0 rfl rfl rfl hl.1 (Nat.le_of_ble_eq_true rfl) rfl d_Mo_judge_91 ⟨rfl, rfl, Nat.le_of_ble_eq_true rfl, Nat.le_of_ble_eq_true rfl⟩ (⟨Nat.le_of_ble_eq_true rfl, Nat.le_of_ble_eq_true rfl⟩) (fun r91 w1 H locs hq91 hP hD hS => ?_)
      have hq91 : r91 = bI (alB (ruF T ru rr) nr) := hq91
      subst hq91
      have hP := hP.sub (ws' := [(m0, .inr (6, [.int (nI P), .ref aV, .ref aB, .int (nI nk), .ref aRS, .ref aRT, .int (nI T.2.2.2.2.2.2), .ref aO, .ref aA, .ref aBt, .ref aD, .ref aT, .int (nI T.2.2.2.2.2.1), .ref aS, .int (nI nr), .ref aR, .int (nI ns), .ref aE, .int (bI fr), .ref aK, .ref aIV, .ref aIN, .int (bI on), .ref aOp, .int oP, .int oA, .int (nI tk), .ref aRw, .ref aGn])), (aV, .inl (X.2 0, 6, .inl (ia (rv P vl)))), (aB, .inl (X.2 2, 24, .inl (ba (bdF iv)))), (aO, .inl (X.2 3, 520, .inl (ia T.1))), (aA, .inl (X.2 4, 520, .inl (ia T.2.1))), (aBt, .inl (X.2 4, 520, .inl (ia T.2.2.1))), (aT, .inl (X.2 2, 520, .inl (ba w1))), (aR, .inl (X.2 0, 8, .inl (ia ru)))]) [2, 0, 1, 3, 4, 5, 6, 7] rfl
      have hD := hD.sub (ws' := [(m0, .inr (6, [.int (nI P), .ref aV, .ref aB, .int (nI nk), .ref aRS, .ref aRT, .int (nI T.2.2.2.2.2.2), .ref aO, .ref aA, .ref aBt, .ref aD, .ref aT, .int (nI T.2.2.2.2.2.1), .ref aS, .int (nI nr), .ref aR, .int (nI ns), .ref aE, .int (bI fr), .ref aK, .ref aIV, .ref aIN, .int (bI on), .ref aOp, .int oP, .int oA, .int (nI tk), .ref aRw, .ref aGn])), (aV, .inl (X.2 0, 6, .inl (ia (rv P vl)))), (aB, .inl (X.2 2, 24, .inl (ba (bdF iv)))), (aO, .inl (X.2 3, 520, .inl (ia T.1))), (aA, .inl (X.2 4, 520, .inl (ia T.2.1))), (aBt, .inl (X.2 4, 520, .inl (ia T.2.2.1))), (aT, .inl (X.2 2, 520, .inl (ba w1))), (aR, .inl (X.2 0, 8, .inl (ia ru)))]) [2, 0, 1, 3, 4, 5, 6, 7] (by decide) rfl
      refine lv_if_ne (tgt := 101) hx hb d_Mo_judge_94 (by decide) (fun hc94 => ?_) (fun hc94 => ?_)
      · rw [bI_z] at hc94
        refine lv_iconst (v := nI 2) hx hb d_Mo_judge_101 (by decide) ?_
        refine lv_iload_n hx hb d_Mo_judge_102 rfl (lv_at hl 2 rfl) ?_
        refine lv_isub hx hb d_Mo_judge_103 ?_
        refine topI (pk_sub (by omega)) ?_
        exact retI (u := w1) hx hb hr hlk hP hD hS (kd_1 hall hc86 hc94) d_Mo_judge_104
      · rw [bI_z] at hc94
        refine lv_iconst (v := nI 0) hx hb d_Mo_judge_97 (by decide) ?_
        refine lv_goto (tgt := 104) hx hb d_Mo_judge_98 (by decide) ?_
        exact retI (u := w1) hx hb hr hlk hP hD hS (by first | exact kd_w hall hc86 | exact kd_m hall hc94) d_Mo_judge_104
  · rw [nI_leI (by omega) (by omega)] at hc7
    have hvi := hvl i (by omega)
    refine lv_iload_n hx hb d_Mo_judge_10 rfl (lv_at hl 1 rfl) ?_
    refine lv_iconst (v := nI 2) hx hb d_Mo_judge_11 (by decide) ?_
    refine lv_iload_n hx hb d_Mo_judge_12 rfl (lv_at hl 3 rfl) ?_
    refine lv_imul hx hb d_Mo_judge_13 ?_
    refine topI (pk_mul _ _) ?_
    refine lv_ishr hx hb d_Mo_judge_14 ?_
    refine topI (shrN (by omega) (by omega)) ?_
    refine lv_iconst (v := nI 3) hx hb d_Mo_judge_15 (by decide) ?_
    refine lv_iand hx hb d_Mo_judge_16 ?_
    refine topI (y := nI (dg rr i)) ((nx_and _ _).trans (congrArg nI (dg_eq rr i).symm)) ?_
    refine lv_istore hx hb d_Mo_judge_17 hl (by decide) rfl (fun ls hl => ?_)
    have hl : lv_has ls 5 [(4, .int (nI (dg rr i))), (0, .ref m0), (1, .int (nI rr)), (2, .int (nI (wrg iv rr i))), (3, .int (nI i))] := hl
    refine lv_iload_n hx hb d_Mo_judge_19 rfl (lv_at hl 4 rfl) ?_
    refine lv_aload_n hx hb d_Mo_judge_20 rfl (lv_at hl 1 rfl) ?_
    refine va_get (D := X.1) (ci := 6) (v := .int (nI P)) (C := R_Mo) (T := F_Mo) (N := 29) hx hb hg in_Mo hown hE.1 hP 0 rfl rfl 0 (by decide) (hg _ m_475) (fun _ h9 => h9) rfl d_Mo_judge_21 ?_
    refine lv_icmp_ge (tgt := 41) hx hb d_Mo_judge_24 (by decide) (fun hc24 => ?_) (fun hc24 => ?_)
    · rw [nI_leI (by omega) (by omega)] at hc24
      have hv9 := hv1 i (by omega) (by omega)
      have hi9 := hi0 i (by omega) (by omega)
      refine lv_iload hx hb d_Mo_judge_41 (lv_at hl 0 rfl) ?_
      refine lv_if_le (tgt := 48) hx hb d_Mo_judge_43 (by decide) (fun hc43 => ?_) (fun hc43 => ?_)
      · rw [n_le0 (dg_lt31 _ _)] at hc43
        have hlt9 : dg rr i < vl i := by omega
        refine lv_iload_n hx hb d_Mo_judge_48 rfl (lv_at hl 3 rfl) ?_
        refine lv_iload_n hx hb d_Mo_judge_49 rfl (lv_at hl 4 rfl) ?_
        refine lv_aload_n hx hb d_Mo_judge_50 rfl (lv_at hl 1 rfl) ?_
        refine va_get (D := X.1) (ci := 6) (v := .int (nI P)) (C := R_Mo) (T := F_Mo) (N := 29) hx hb hg in_Mo hown hE.1 hP 0 rfl rfl 0 (by decide) (hg _ m_475) (fun _ h9 => h9) rfl d_Mo_judge_51 ?_
        refine lv_icmp_ge (tgt := 75) hx hb d_Mo_judge_54 (by decide) (fun hc54 => ?_) (fun hc54 => ?_)
        · rw [nI_leI (by omega) (by omega)] at hc54
          refine lv_iconst (v := nI 0) hx hb d_Mo_judge_75 (by decide) ?_
          refine lv_iadd hx hb d_Mo_judge_76 ?_
          refine topI (y := nI (wrg iv rr (i + 1))) (by first | exact wr_1 hc68 | exact wr_0 hc68 | exact wr_0 (iv_z hi9) | exact absurd hc54 (by omega)) ?_
          refine lv_istore_n hx hb d_Mo_judge_77 rfl hl (by decide) rfl (fun ls hl => ?_)
          have hl : lv_has ls 5 [(2, .int (nI (wrg iv rr (i + 1)))), (4, .int (nI (dg rr i))), (0, .ref m0), (1, .int (nI rr)), (3, .int (nI i))] := hl
          refine lv_iinc (k := 4) (v := nI (i + 1)) hx hb d_Mo_judge_78 hl rfl (nI_1 _) (by decide) rfl (fun ls hl => ?_)
          have hl : lv_has ls 5 [(3, .int (nI (i + 1))), (2, .int (nI (wrg iv rr (i + 1)))), (4, .int (nI (dg rr i))), (0, .ref m0), (1, .int (nI rr))] := hl
          refine lv_goto (tgt := 4) hx hb d_Mo_judge_81 (by decide) ?_
          exact ih4 (i + 1) H locs ls (by (try dsimp only); omega) (⟨by (try dsimp only); omega, all6_s hall hlt9⟩) hP hD hS (lv_sub hl [3, 4, 1, 0] rfl)
        · rw [nI_leI (by omega) (by omega)] at hc54
          refine lv_aload_n hx hb d_Mo_judge_57 rfl (lv_at hl 1 rfl) ?_
          refine va_get (D := X.1) (ci := 6) (v := .ref aB) (C := R_Mo) (T := F_Mo) (N := 29) hx hb hg in_Mo hown hE.1 hP 0 rfl rfl 2 (by decide) (hg _ m_477) (fun _ h9 => h9) rfl d_Mo_judge_58 ?_
          refine lv_iconst (v := nI 4) hx hb d_Mo_judge_61 (by decide) ?_
          refine lv_iload_n hx hb d_Mo_judge_62 rfl (lv_at hl 4 rfl) ?_
          refine lv_imul hx hb d_Mo_judge_63 ?_
          refine topI (pk_mul _ _) ?_
          refine lv_iload hx hb d_Mo_judge_64 (lv_at hl 0 rfl) ?_
          refine lv_iadd hx hb d_Mo_judge_66 ?_
          refine topI (nI_add _ _) ?_
          refine va_zald hx hb hE.1 hP 2 2 rfl rfl (vp_in_nI (by omega) (by decide)) d_Mo_judge_67 ?_
          refine topI (y := (ba (bdF iv)) ((4 * i) + (dg rr i))) (by rw [nI_clamp (by omega)]) ?_
          refine topI (y := bI ((iv i).testBit (dg rr i))) (congrArg bI (bd_at hd4)) ?_
          refine lv_if_eq (tgt := 75) hx hb d_Mo_judge_68 (by decide) (fun hc68 => ?_) (fun hc68 => ?_)
          · rw [bI_z] at hc68
            refine lv_iconst (v := nI 0) hx hb d_Mo_judge_75 (by decide) ?_
            refine lv_iadd hx hb d_Mo_judge_76 ?_
            refine topI (y := nI (wrg iv rr (i + 1))) (by first | exact wr_1 hc68 | exact wr_0 hc68 | exact wr_0 (iv_z hi9) | exact absurd hc54 (by omega)) ?_
            refine lv_istore_n hx hb d_Mo_judge_77 rfl hl (by decide) rfl (fun ls hl => ?_)
            have hl : lv_has ls 5 [(2, .int (nI (wrg iv rr (i + 1)))), (4, .int (nI (dg rr i))), (0, .ref m0), (1, .int (nI rr)), (3, .int (nI i))] := hl
            refine lv_iinc (k := 4) (v := nI (i + 1)) hx hb d_Mo_judge_78 hl rfl (nI_1 _) (by decide) rfl (fun ls hl => ?_)
            have hl : lv_has ls 5 [(3, .int (nI (i + 1))), (2, .int (nI (wrg iv rr (i + 1)))), (4, .int (nI (dg rr i))), (0, .ref m0), (1, .int (nI rr))] := hl
            refine lv_goto (tgt := 4) hx hb d_Mo_judge_81 (by decide) ?_
            exact ih4 (i + 1) H locs ls (by (try dsimp only); omega) (⟨by (try dsimp only); omega, all6_s hall hlt9⟩) hP hD hS (lv_sub hl [3, 4, 1, 0] rfl)
          · rw [bI_z] at hc68
            refine lv_iconst (v := nI 1) hx hb d_Mo_judge_71 (by decide) ?_
            refine lv_goto (tgt := 76) hx hb d_Mo_judge_72 (by decide) ?_
            refine lv_iadd hx hb d_Mo_judge_76 ?_
            refine topI (y := nI (wrg iv rr (i + 1))) (by first | exact wr_1 hc68 | exact wr_0 hc68 | exact wr_0 (iv_z hi9) | exact absurd hc54 (by omega)) ?_
            refine lv_istore_n hx hb d_Mo_judge_77 rfl hl (by decide) rfl (fun ls hl => ?_)
            have hl : lv_has ls 5 [(2, .int (nI (wrg iv rr (i + 1)))), (4, .int (nI (dg rr i))), (0, .ref m0), (1, .int (nI rr)), (3, .int (nI i))] := hl
            refine lv_iinc (k := 4) (v := nI (i + 1)) hx hb d_Mo_judge_78 hl rfl (nI_1 _) (by decide) rfl (fun ls hl => ?_)
            have hl : lv_has ls 5 [(3, .int (nI (i + 1))), (2, .int (nI (wrg iv rr (i + 1)))), (4, .int (nI (dg rr i))), (0, .ref m0), (1, .int (nI rr))] := hl
            refine lv_goto (tgt := 4) hx hb d_Mo_judge_81 (by decide) ?_
            exact ih4 (i + 1) H locs ls (by (try dsimp only); omega) (⟨by (try dsimp only); omega, all6_s hall hlt9⟩) hP hD hS (lv_sub hl [3, 4, 1, 0] rfl)
      · rw [n_le0 (dg_lt31 _ _)] at hc43
        refine lv_iconst (v := (-1)) hx hb d_Mo_judge_46 (by decide) ?_
        exact retI (u := tr) hx hb hr hlk hP hD hS (kd_no (i := i) (by omega) (by omega)) d_Mo_judge_47
    · rw [nI_leI (by omega) (by omega)] at hc24
      refine lv_iload hx hb d_Mo_judge_27 (lv_at hl 0 rfl) ?_
      refine lv_aload_n hx hb d_Mo_judge_29 rfl (lv_at hl 1 rfl) ?_
      refine va_get (D := X.1) (ci := 6) (v := .ref aV) (C := R_Mo) (T := F_Mo) (N := 29) hx hb hg in_Mo hown hE.1 hP 0 rfl rfl 1 (by decide) (hg _ m_476) (fun _ h9 => h9) rfl d_Mo_judge_30 ?_
      refine lv_iload_n hx hb d_Mo_judge_33 rfl (lv_at hl 4 rfl) ?_
      refine va_iald hx hb hE.1 hP 1 0 rfl rfl (vp_in_nI (by omega) (by decide)) d_Mo_judge_34 ?_
      refine topI (y := (ia (rv P vl)) i) (by rw [nI_clamp (by omega)]) ?_
      refine topI (y := nI (vl i)) (congrArg nI (rv_i (by omega))) ?_
      refine lv_icmp_lt (tgt := 48) hx hb d_Mo_judge_35 (by decide) (fun hc35 => ?_) (fun hc35 => ?_)
      · rw [nI_ltI (by omega) (by omega)] at hc35
        have hlt9 := hc35
        refine lv_iload_n hx hb d_Mo_judge_48 rfl (lv_at hl 3 rfl) ?_
        refine lv_iload_n hx hb d_Mo_judge_49 rfl (lv_at hl 4 rfl) ?_
        refine lv_aload_n hx hb d_Mo_judge_50 rfl (lv_at hl 1 rfl) ?_
        refine va_get (D := X.1) (ci := 6) (v := .int (nI P)) (C := R_Mo) (T := F_Mo) (N := 29) hx hb hg in_Mo hown hE.1 hP 0 rfl rfl 0 (by decide) (hg _ m_475) (fun _ h9 => h9) rfl d_Mo_judge_51 ?_
        refine lv_icmp_ge (tgt := 75) hx hb d_Mo_judge_54 (by decide) (fun hc54 => ?_) (fun hc54 => ?_)
        · rw [nI_leI (by omega) (by omega)] at hc54
          refine lv_iconst (v := nI 0) hx hb d_Mo_judge_75 (by decide) ?_
          refine lv_iadd hx hb d_Mo_judge_76 ?_
          refine topI (y := nI (wrg iv rr (i + 1))) (by first | exact wr_1 hc68 | exact wr_0 hc68 | exact wr_0 (iv_z hi9) | exact absurd hc54 (by omega)) ?_
          refine lv_istore_n hx hb d_Mo_judge_77 rfl hl (by decide) rfl (fun ls hl => ?_)
          have hl : lv_has ls 5 [(2, .int (nI (wrg iv rr (i + 1)))), (4, .int (nI (dg rr i))), (0, .ref m0), (1, .int (nI rr)), (3, .int (nI i))] := hl
          refine lv_iinc (k := 4) (v := nI (i + 1)) hx hb d_Mo_judge_78 hl rfl (nI_1 _) (by decide) rfl (fun ls hl => ?_)
          have hl : lv_has ls 5 [(3, .int (nI (i + 1))), (2, .int (nI (wrg iv rr (i + 1)))), (4, .int (nI (dg rr i))), (0, .ref m0), (1, .int (nI rr))] := hl
          refine lv_goto (tgt := 4) hx hb d_Mo_judge_81 (by decide) ?_
          exact ih4 (i + 1) H locs ls (by (try dsimp only); omega) (⟨by (try dsimp only); omega, all6_s hall hlt9⟩) hP hD hS (lv_sub hl [3, 4, 1, 0] rfl)
        · rw [nI_leI (by omega) (by omega)] at hc54
          refine lv_aload_n hx hb d_Mo_judge_57 rfl (lv_at hl 1 rfl) ?_
          refine va_get (D := X.1) (ci := 6) (v := .ref aB) (C := R_Mo) (T := F_Mo) (N := 29) hx hb hg in_Mo hown hE.1 hP 0 rfl rfl 2 (by decide) (hg _ m_477) (fun _ h9 => h9) rfl d_Mo_judge_58 ?_
          refine lv_iconst (v := nI 4) hx hb d_Mo_judge_61 (by decide) ?_
          refine lv_iload_n hx hb d_Mo_judge_62 rfl (lv_at hl 4 rfl) ?_
          refine lv_imul hx hb d_Mo_judge_63 ?_
          refine topI (pk_mul _ _) ?_
          refine lv_iload hx hb d_Mo_judge_64 (lv_at hl 0 rfl) ?_
          refine lv_iadd hx hb d_Mo_judge_66 ?_
          refine topI (nI_add _ _) ?_
          refine va_zald hx hb hE.1 hP 2 2 rfl rfl (vp_in_nI (by omega) (by decide)) d_Mo_judge_67 ?_
          refine topI (y := (ba (bdF iv)) ((4 * i) + (dg rr i))) (by rw [nI_clamp (by omega)]) ?_
          refine topI (y := bI ((iv i).testBit (dg rr i))) (congrArg bI (bd_at hd4)) ?_
          refine lv_if_eq (tgt := 75) hx hb d_Mo_judge_68 (by decide) (fun hc68 => ?_) (fun hc68 => ?_)
          · rw [bI_z] at hc68
            refine lv_iconst (v := nI 0) hx hb d_Mo_judge_75 (by decide) ?_
            refine lv_iadd hx hb d_Mo_judge_76 ?_
            refine topI (y := nI (wrg iv rr (i + 1))) (by first | exact wr_1 hc68 | exact wr_0 hc68 | exact wr_0 (iv_z hi9) | exact absurd hc54 (by omega)) ?_
            refine lv_istore_n hx hb d_Mo_judge_77 rfl hl (by decide) rfl (fun ls hl => ?_)
            have hl : lv_has ls 5 [(2, .int (nI (wrg iv rr (i + 1)))), (4, .int (nI (dg rr i))), (0, .ref m0), (1, .int (nI rr)), (3, .int (nI i))] := hl
            refine lv_iinc (k := 4) (v := nI (i + 1)) hx hb d_Mo_judge_78 hl rfl (nI_1 _) (by decide) rfl (fun ls hl => ?_)
            have hl : lv_has ls 5 [(3, .int (nI (i + 1))), (2, .int (nI (wrg iv rr (i + 1)))), (4, .int (nI (dg rr i))), (0, .ref m0), (1, .int (nI rr))] := hl
            refine lv_goto (tgt := 4) hx hb d_Mo_judge_81 (by decide) ?_
            exact ih4 (i + 1) H locs ls (by (try dsimp only); omega) (⟨by (try dsimp only); omega, all6_s hall hlt9⟩) hP hD hS (lv_sub hl [3, 4, 1, 0] rfl)
          · rw [bI_z] at hc68
            refine lv_iconst (v := nI 1) hx hb d_Mo_judge_71 (by decide) ?_
            refine lv_goto (tgt := 76) hx hb d_Mo_judge_72 (by decide) ?_
            refine lv_iadd hx hb d_Mo_judge_76 ?_
            refine topI (y := nI (wrg iv rr (i + 1))) (by first | exact wr_1 hc68 | exact wr_0 hc68 | exact wr_0 (iv_z hi9) | exact absurd hc54 (by omega)) ?_
            refine lv_istore_n hx hb d_Mo_judge_77 rfl hl (by decide) rfl (fun ls hl => ?_)
            have hl : lv_has ls 5 [(2, .int (nI (wrg iv rr (i + 1)))), (4, .int (nI (dg rr i))), (0, .ref m0), (1, .int (nI rr)), (3, .int (nI i))] := hl
            refine lv_iinc (k := 4) (v := nI (i + 1)) hx hb d_Mo_judge_78 hl rfl (nI_1 _) (by decide) rfl (fun ls hl => ?_)
            have hl : lv_has ls 5 [(3, .int (nI (i + 1))), (2, .int (nI (wrg iv rr (i + 1)))), (4, .int (nI (dg rr i))), (0, .ref m0), (1, .int (nI rr))] := hl
            refine lv_goto (tgt := 4) hx hb d_Mo_judge_81 (by decide) ?_
            exact ih4 (i + 1) H locs ls (by (try dsimp only); omega) (⟨by (try dsimp only); omega, all6_s hall hlt9⟩) hP hD hS (lv_sub hl [3, 4, 1, 0] rfl)
      · rw [nI_ltI (by omega) (by omega)] at hc35
        refine lv_goto (tgt := 46) hx hb d_Mo_judge_38 (by decide) ?_
        refine lv_iconst (v := (-1)) hx hb d_Mo_judge_46 (by decide) ?_
        exact retI (u := tr) hx hb hr hlk hP hD hS (kd_no (i := i) (by omega) (by omega)) d_Mo_judge_47
