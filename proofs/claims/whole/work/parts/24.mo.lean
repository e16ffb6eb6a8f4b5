set_option maxHeartbeats 4000000 in
set_option maxRecDepth 100000 in
theorem k_Mo_size (l : Launch) (X : Cx) (m0 aV aB aRS aRT aO aA aBt aD aT aS aR aE aK aIV aIN aOp aRw aGn : Nat) (P nk nr ns : Nat) (oP : Int32) (tk : Nat) (oA : Int32) (T : TS) (fr on : Bool) (n : Nat) (hn : n < 64) : CtI l X (TY X) y_Mo_size cw_Mo_size ({ frames := 0, cells := 0, slots := 0, locals := 0 } : Room) [.ref m0, .int (nI n)] [(m0, .inr (6, [.int (nI P), .ref aV, .ref aB, .int (nI nk), .ref aRS, .ref aRT, .int (nI T.2.2.2.2.2.2), .ref aO, .ref aA, .ref aBt, .ref aD, .ref aT, .int (nI T.2.2.2.2.2.1), .ref aS, .int (nI nr), .ref aR, .int (nI ns), .ref aE, .int (bI fr), .ref aK, .ref aIV, .ref aIN, .int (bI on), .ref aOp, .int oP, .int oA, .int (nI tk), .ref aRw, .ref aGn]))] (S := Unit) (fun r _ => r = nI (cn n 6)) (fun _ => [(m0, .inr (6, [.int (nI P), .ref aV, .ref aB, .int (nI nk), .ref aRS, .ref aRT, .int (nI T.2.2.2.2.2.2), .ref aO, .ref aA, .ref aBt, .ref aD, .ref aT, .int (nI T.2.2.2.2.2.1), .ref aS, .int (nI nr), .ref aR, .int (nI ns), .ref aE, .int (bI fr), .ref aK, .ref aIV, .ref aIN, .int (bI on), .ref aOp, .int oP, .int oA, .int (nI tk), .ref aRw, .ref aGn]))]) 0 0 := by
  refine metI (by decide) (Nat.le_of_ble_eq_true rfl) ?_
  intro p e s m below meth c A ls hB hl
  obtain ⟨hx, hb, hr, hml, hown, hlk, hin, hg, hA, hD, hP, hE⟩ := hB
  have hS : va_S A s.heap s.heap [] := va_S.rf
  have hl : lv_has ls 4 [(0, .ref m0), (1, .int (nI n))] := hl
  refine lv_iconst (v := nI 0) hx hb d_Mo_size_0 (by decide) ?_
  refine lv_istore_n hx hb d_Mo_size_1 rfl hl (by decide) rfl (fun ls hl => ?_)
  have hl : lv_has ls 4 [(2, .int (nI 0)), (0, .ref m0), (1, .int (nI n))] := hl
  refine lv_iconst (v := nI 0) hx hb d_Mo_size_2 (by decide) ?_
  refine lv_istore_n hx hb d_Mo_size_3 rfl hl (by decide) rfl (fun ls hl => ?_)
  have hl : lv_has ls 4 [(3, .int (nI 0)), (2, .int (nI 0)), (0, .ref m0), (1, .int (nI n))] := hl
  refine wLoop (nL := 4) (σ := (Nat)) (fun i => 6 - i) (fun i => i ≤ 6) (fun i => [(m0, .inr (6, [.int (nI P), .ref aV, .ref aB, .int (nI nk), .ref aRS, .ref aRT, .int (nI T.2.2.2.2.2.2), .ref aO, .ref aA, .ref aBt, .ref aD, .ref aT, .int (nI T.2.2.2.2.2.1), .ref aS, .int (nI nr), .ref aR, .int (nI ns), .ref aE, .int (bI fr), .ref aK, .ref aIV, .ref aIN, .int (bI on), .ref aOp, .int oP, .int oA, .int (nI tk), .ref aRw, .ref aGn]))]) (fun i => [(0, .ref m0), (1, .int (nI n)), (2, .int (nI (cn n i))), (3, .int (nI i))]) ?_ 0 (by omega) hP hD hS (lv_sub hl [2, 3, 1, 0] rfl)
  rintro i H locs ls hJ hP hD hS hl ih4
  have hJ : i ≤ 6 := hJ
  have hP : va_P X.1 classes [(m0, .inr (6, [.int (nI P), .ref aV, .ref aB, .int (nI nk), .ref aRS, .ref aRT, .int (nI T.2.2.2.2.2.2), .ref aO, .ref aA, .ref aBt, .ref aD, .ref aT, .int (nI T.2.2.2.2.2.1), .ref aS, .int (nI nr), .ref aR, .int (nI ns), .ref aE, .int (bI fr), .ref aK, .ref aIV, .ref aIN, .int (bI on), .ref aOp, .int oP, .int oA, .int (nI tk), .ref aRw, .ref aGn]))] H := hP
  have hD : va_D A [(m0, .inr (6, [.int (nI P), .ref aV, .ref aB, .int (nI nk), .ref aRS, .ref aRT, .int (nI T.2.2.2.2.2.2), .ref aO, .ref aA, .ref aBt, .ref aD, .ref aT, .int (nI T.2.2.2.2.2.1), .ref aS, .int (nI nr), .ref aR, .int (nI ns), .ref aE, .int (bI fr), .ref aK, .ref aIV, .ref aIN, .int (bI on), .ref aOp, .int oP, .int oA, .int (nI tk), .ref aRw, .ref aGn]))] := hD
  have hl : lv_has ls 4 [(0, .ref m0), (1, .int (nI n)), (2, .int (nI (cn n i))), (3, .int (nI i))] := hl
  refine lv_iload_n hx hb d_Mo_size_4 rfl (lv_at hl 3 rfl) ?_
  refine lv_bipush (v := nI 6) hx hb d_Mo_size_5 (by decide) ?_
  refine lv_icmp_ge (tgt := 24) hx hb d_Mo_size_7 (by decide) (fun hc7 => ?_) (fun hc7 => ?_)
  · rw [nI_leI (by omega) (by omega)] at hc7
    obtain rfl : i = 6 := by omega
    refine lv_iload_n hx hb d_Mo_size_24 rfl (lv_at hl 2 rfl) ?_
    exact retI (u := ()) hx hb hr hlk hP hD hS (rfl) d_Mo_size_25
  · rw [nI_leI (by omega) (by omega)] at hc7
    refine lv_iload_n hx hb d_Mo_size_10 rfl (lv_at hl 2 rfl) ?_
    refine lv_iload_n hx hb d_Mo_size_11 rfl (lv_at hl 1 rfl) ?_
    refine lv_iload_n hx hb d_Mo_size_12 rfl (lv_at hl 3 rfl) ?_
    refine lv_ishr hx hb d_Mo_size_13 ?_
    refine topI (shrN (by omega) (by omega)) ?_
    refine lv_iconst (v := nI 1) hx hb d_Mo_size_14 (by decide) ?_
    refine lv_iand hx hb d_Mo_size_15 ?_
    refine topI (nx_and _ _) ?_
    refine lv_iadd hx hb d_Mo_size_16 ?_
    refine topI (y := nI (cn n (i + 1))) (cn_step n i) ?_
    refine lv_istore_n hx hb d_Mo_size_17 rfl hl (by decide) rfl (fun ls hl => ?_)
    have hl : lv_has ls 4 [(2, .int (nI (cn n (i + 1)))), (0, .ref m0), (1, .int (nI n)), (3, .int (nI i))] := hl
    refine lv_iinc (k := 3) (v := nI (i + 1)) hx hb d_Mo_size_18 hl rfl (nI_1 _) (by decide) rfl (fun ls hl => ?_)
    have hl : lv_has ls 4 [(3, .int (nI (i + 1))), (2, .int (nI (cn n (i + 1)))), (0, .ref m0), (1, .int (nI n))] := hl
    refine lv_goto (tgt := 4) hx hb d_Mo_size_21 (by decide) ?_
    exact ih4 (i + 1) H locs ls (by (try dsimp only); omega) (by (try dsimp only); omega) hP hD hS (lv_sub hl [2, 3, 1, 0] rfl)
set_option maxHeartbeats 4000000 in
set_option maxRecDepth 100000 in
theorem k_Mo_place (l : Launch) (X : Cx) (m0 aV aB aRS aRT aO aA aBt aD aT aS aR aE aK aIV aIN aOp aRw aGn : Nat) (P nk nr ns : Nat) (oP : Int32) (tk : Nat) (oA : Int32) (T : TS) (fr on : Bool) (n rr : Nat) (hn : n < 64) (hr4 : rr < 4096) : CtI l X (TY X) y_Mo_place cw_Mo_place ({ frames := 0, cells := 0, slots := 0, locals := 0 } : Room) [.ref m0, .int (nI rr), .int (nI n)] [(m0, .inr (6, [.int (nI P), .ref aV, .ref aB, .int (nI nk), .ref aRS, .ref aRT, .int (nI T.2.2.2.2.2.2), .ref aO, .ref aA, .ref aBt, .ref aD, .ref aT, .int (nI T.2.2.2.2.2.1), .ref aS, .int (nI nr), .ref aR, .int (nI ns), .ref aE, .int (bI fr), .ref aK, .ref aIV, .ref aIN, .int (bI on), .ref aOp, .int oP, .int oA, .int (nI tk), .ref aRw, .ref aGn]))] (S := Unit) (fun r _ => r = nI (64 * n + tp n rr)) (fun _ => [(m0, .inr (6, [.int (nI P), .ref aV, .ref aB, .int (nI nk), .ref aRS, .ref aRT, .int (nI T.2.2.2.2.2.2), .ref aO, .ref aA, .ref aBt, .ref aD, .ref aT, .int (nI T.2.2.2.2.2.1), .ref aS, .int (nI nr), .ref aR, .int (nI ns), .ref aE, .int (bI fr), .ref aK, .ref aIV, .ref aIN, .int (bI on), .ref aOp, .int oP, .int oA, .int (nI tk), .ref aRw, .ref aGn]))]) 0 0 := by
  refine metI (by decide) (Nat.le_of_ble_eq_true rfl) ?_
  intro p e s m below meth c A ls hB hl
  obtain ⟨hx, hb, hr, hml, hown, hlk, hin, hg, hA, hD, hP, hE⟩ := hB
  have hS : va_S A s.heap s.heap [] := va_S.rf
  have hl : lv_has ls 6 [(0, .ref m0), (1, .int (nI rr)), (2, .int (nI n))] := hl
  refine lv_iconst (v := nI 0) hx hb d_Mo_place_0 (by decide) ?_
  refine lv_istore_n hx hb d_Mo_place_1 rfl hl (by decide) rfl (fun ls hl => ?_)
  have hl : lv_has ls 6 [(3, .int (nI 0)), (0, .ref m0), (1, .int (nI rr)), (2, .int (nI n))] := hl
  refine lv_iconst (v := nI 0) hx hb d_Mo_place_2 (by decide) ?_
  refine lv_istore hx hb d_Mo_place_3 hl (by decide) rfl (fun ls hl => ?_)
  have hl : lv_has ls 6 [(4, .int (nI 0)), (3, .int (nI 0)), (0, .ref m0), (1, .int (nI rr)), (2, .int (nI n))] := hl
  refine lv_iconst (v := nI 0) hx hb d_Mo_place_5 (by decide) ?_
  refine lv_istore hx hb d_Mo_place_6 hl (by decide) rfl (fun ls hl => ?_)
  have hl : lv_has ls 6 [(5, .int (nI 0)), (4, .int (nI 0)), (3, .int (nI 0)), (0, .ref m0), (1, .int (nI rr)), (2, .int (nI n))] := hl
  refine wLoop (nL := 6) (σ := (Nat)) (fun i => 6 - i) (fun i => i ≤ 6) (fun i => [(m0, .inr (6, [.int (nI P), .ref aV, .ref aB, .int (nI nk), .ref aRS, .ref aRT, .int (nI T.2.2.2.2.2.2), .ref aO, .ref aA, .ref aBt, .ref aD, .ref aT, .int (nI T.2.2.2.2.2.1), .ref aS, .int (nI nr), .ref aR, .int (nI ns), .ref aE, .int (bI fr), .ref aK, .ref aIV, .ref aIN, .int (bI on), .ref aOp, .int oP, .int oA, .int (nI tk), .ref aRw, .ref aGn]))]) (fun i => [(0, .ref m0), (1, .int (nI rr)), (2, .int (nI n)), (3, .int (nI (tpU n rr i))), (4, .int (nI (2 * cn n i))), (5, .int (nI i))]) ?_ 0 (by omega) hP hD hS (lv_sub hl [3, 4, 5, 2, 1, 0] rfl)
  rintro i H locs ls hJ hP hD hS hl ih8
  have hJ : i ≤ 6 := hJ
  have hcn := cn_le n i
  have hd4 := dg_lt rr i
  have hP : va_P X.1 classes [(m0, .inr (6, [.int (nI P), .ref aV, .ref aB, .int (nI nk), .ref aRS, .ref aRT, .int (nI T.2.2.2.2.2.2), .ref aO, .ref aA, .ref aBt, .ref aD, .ref aT, .int (nI T.2.2.2.2.2.1), .ref aS, .int (nI nr), .ref aR, .int (nI ns), .ref aE, .int (bI fr), .ref aK, .ref aIV, .ref aIN, .int (bI on), .ref aOp, .int oP, .int oA, .int (nI tk), .ref aRw, .ref aGn]))] H := hP
  have hD : va_D A [(m0, .inr (6, [.int (nI P), .ref aV, .ref aB, .int (nI nk), .ref aRS, .ref aRT, .int (nI T.2.2.2.2.2.2), .ref aO, .ref aA, .ref aBt, .ref aD, .ref aT, .int (nI T.2.2.2.2.2.1), .ref aS, .int (nI nr), .ref aR, .int (nI ns), .ref aE, .int (bI fr), .ref aK, .ref aIV, .ref aIN, .int (bI on), .ref aOp, .int oP, .int oA, .int (nI tk), .ref aRw, .ref aGn]))] := hD
  have hl : lv_has ls 6 [(0, .ref m0), (1, .int (nI rr)), (2, .int (nI n)), (3, .int (nI (tpU n rr i))), (4, .int (nI (2 * cn n i))), (5, .int (nI i))] := hl
  refine lv_iload hx hb d_Mo_place_8 (lv_at hl 5 rfl) ?_
  refine lv_bipush (v := nI 6) hx hb d_Mo_place_10 (by decide) ?_
  refine lv_icmp_ge (tgt := 51) hx hb d_Mo_place_12 (by decide) (fun hc12 => ?_) (fun hc12 => ?_)
  · rw [nI_leI (by omega) (by omega)] at hc12
    obtain rfl : i = 6 := by omega
    refine lv_bipush (v := nI 64) hx hb d_Mo_place_51 (by decide) ?_
    refine lv_iload_n hx hb d_Mo_place_53 rfl (lv_at hl 2 rfl) ?_
    refine lv_imul hx hb d_Mo_place_54 ?_
    refine topI (pk_mul _ _) ?_
    refine lv_iload_n hx hb d_Mo_place_55 rfl (lv_at hl 3 rfl) ?_
    refine lv_iadd hx hb d_Mo_place_56 ?_
    refine topI (nI_add _ _) ?_
    exact retI (u := ()) hx hb hr hlk hP hD hS (rfl) d_Mo_place_57
  · rw [nI_leI (by omega) (by omega)] at hc12
    refine lv_iload_n hx hb d_Mo_place_15 rfl (lv_at hl 2 rfl) ?_
    refine lv_iload hx hb d_Mo_place_16 (lv_at hl 5 rfl) ?_
    refine lv_ishr hx hb d_Mo_place_18 ?_
    refine topI (shrN (by omega) (by omega)) ?_
    refine lv_iconst (v := nI 1) hx hb d_Mo_place_19 (by decide) ?_
    refine lv_iand hx hb d_Mo_place_20 ?_
    refine topI (nx_and _ _) ?_
    refine lv_iconst (v := nI 1) hx hb d_Mo_place_21 (by decide) ?_
    refine lv_icmp_ne (tgt := 45) hx hb d_Mo_place_22 (by decide) (fun hc22 => ?_) (fun hc22 => ?_)
    · rw [tb_1] at hc22
      have hl : lv_has ls 6 [(0, .ref m0), (1, .int (nI rr)), (2, .int (nI n)), (3, .int (nI (tpU n rr (i + 1)))), (4, .int (nI (2 * cn n (i + 1)))), (5, .int (nI i))] := by rw [tpU_f (ts_nt hc22), cn_f (ts_nt hc22)]; exact hl
      refine lv_iinc (k := 5) (v := nI (i + 1)) hx hb d_Mo_place_45 hl rfl (nI_1 _) (by decide) rfl (fun ls hl => ?_)
      have hl : lv_has ls 6 [(5, .int (nI (i + 1))), (0, .ref m0), (1, .int (nI rr)), (2, .int (nI n)), (3, .int (nI (tpU n rr (i + 1)))), (4, .int (nI (2 * cn n (i + 1))))] := hl
      refine lv_goto (tgt := 8) hx hb d_Mo_place_48 (by decide) ?_
      exact ih8 (i + 1) H locs ls (by (try dsimp only); omega) (by (try dsimp only); omega) hP hD hS (lv_sub hl [1, 2, 3, 4, 5, 0] rfl)
    · rw [tb_1] at hc22
      refine lv_iload_n hx hb d_Mo_place_25 rfl (lv_at hl 3 rfl) ?_
      refine lv_iload_n hx hb d_Mo_place_26 rfl (lv_at hl 1 rfl) ?_
      refine lv_iconst (v := nI 2) hx hb d_Mo_place_27 (by decide) ?_
      refine lv_iload hx hb d_Mo_place_28 (lv_at hl 5 rfl) ?_
      refine lv_imul hx hb d_Mo_place_30 ?_
      refine topI (pk_mul _ _) ?_
      refine lv_ishr hx hb d_Mo_place_31 ?_
      refine topI (shrN (by omega) (by omega)) ?_
      refine lv_iconst (v := nI 3) hx hb d_Mo_place_32 (by decide) ?_
      refine lv_iand hx hb d_Mo_place_33 ?_
      refine topI (y := nI (dg rr i)) ((nx_and _ _).trans (congrArg nI (dg_eq rr i).symm)) ?_
      refine lv_iload hx hb d_Mo_place_34 (lv_at hl 4 rfl) ?_
      refine lv_ishl hx hb d_Mo_place_36 ?_
      refine topI (shlN (by omega) (v4q hd4 (by omega))) ?_
      refine lv_ior hx hb d_Mo_place_37 ?_
      refine topI (y := nI (tpU n rr (i + 1))) (by rw [nx_or, tpU_or hc22]) ?_
      refine lv_istore_n hx hb d_Mo_place_38 rfl hl (by decide) rfl (fun ls hl => ?_)
      have hl : lv_has ls 6 [(3, .int (nI (tpU n rr (i + 1)))), (0, .ref m0), (1, .int (nI rr)), (2, .int (nI n)), (4, .int (nI (2 * cn n i))), (5, .int (nI i))] := hl
      refine lv_iload hx hb d_Mo_place_39 (lv_at hl 4 rfl) ?_
      refine lv_iconst (v := nI 2) hx hb d_Mo_place_41 (by decide) ?_
      refine lv_iadd hx hb d_Mo_place_42 ?_
      refine topI (y := nI (2 * cn n (i + 1))) (by rw [nI_add, cn_s2 hc22]) ?_
      refine lv_istore hx hb d_Mo_place_43 hl (by decide) rfl (fun ls hl => ?_)
      have hl : lv_has ls 6 [(4, .int (nI (2 * cn n (i + 1)))), (3, .int (nI (tpU n rr (i + 1)))), (0, .ref m0), (1, .int (nI rr)), (2, .int (nI n)), (5, .int (nI i))] := hl
      refine lv_iinc (k := 5) (v := nI (i + 1)) hx hb d_Mo_place_45 hl rfl (nI_1 _) (by decide) rfl (fun ls hl => ?_)
      have hl : lv_has ls 6 [(5, .int (nI (i + 1))), (4, .int (nI (2 * cn n (i + 1)))), (3, .int (nI (tpU n rr (i + 1)))), (0, .ref m0), (1, .int (nI rr)), (2, .int (nI n))] := hl
      refine lv_goto (tgt := 8) hx hb d_Mo_place_48 (by decide) ?_
      exact ih8 (i + 1) H locs ls (by (try dsimp only); omega) (by (try dsimp only); omega) hP hD hS (lv_sub hl [3, 4, 5, 2, 1, 0] rfl)
set_option maxHeartbeats 4000000 in
set_option maxRecDepth 100000 in
theorem k_Mo_wrong (l : Launch) (X : Cx) (m0 aV aB aRS aRT aO aA aBt aD aT aS aR aE aK aIV aIN aOp aRw aGn : Nat) (P nk nr ns : Nat) (oP : Int32) (tk : Nat) (oA : Int32) (T : TS) (fr on : Bool) (vl iv : Nat → Nat) (hP6 : P ≤ 6) (hvl : ∀ p, p < 6 → 1 ≤ vl p ∧ vl p ≤ 4) (n t : Nat) (hn : n < 2 ^ P) (ht : t < 64) : CtI l X (TY X) y_Mo_wrong cw_Mo_wrong ({ frames := 0, cells := 0, slots := 0, locals := 0 } : Room) [.ref m0, .int (nI (64 * n + t))] [(m0, .inr (6, [.int (nI P), .ref aV, .ref aB, .int (nI nk), .ref aRS, .ref aRT, .int (nI T.2.2.2.2.2.2), .ref aO, .ref aA, .ref aBt, .ref aD, .ref aT, .int (nI T.2.2.2.2.2.1), .ref aS, .int (nI nr), .ref aR, .int (nI ns), .ref aE, .int (bI fr), .ref aK, .ref aIV, .ref aIN, .int (bI on), .ref aOp, .int oP, .int oA, .int (nI tk), .ref aRw, .ref aGn])), (aV, .inl (X.2 0, 6, .inl (ia (rv P vl)))), (aB, .inl (X.2 2, 24, .inl (ba (bdF iv))))] (S := Unit) (fun r _ => r = wgI vl iv n t) (fun _ => [(m0, .inr (6, [.int (nI P), .ref aV, .ref aB, .int (nI nk), .ref aRS, .ref aRT, .int (nI T.2.2.2.2.2.2), .ref aO, .ref aA, .ref aBt, .ref aD, .ref aT, .int (nI T.2.2.2.2.2.1), .ref aS, .int (nI nr), .ref aR, .int (nI ns), .ref aE, .int (bI fr), .ref aK, .ref aIV, .ref aIN, .int (bI on), .ref aOp, .int oP, .int oA, .int (nI tk), .ref aRw, .ref aGn])), (aV, .inl (X.2 0, 6, .inl (ia (rv P vl)))), (aB, .inl (X.2 2, 24, .inl (ba (bdF iv))))]) 0 0 := by
  refine metI (by decide) (Nat.le_of_ble_eq_true rfl) ?_
  intro p e s m below meth c A ls hB hl
  obtain ⟨hx, hb, hr, hml, hown, hlk, hin, hg, hA, hD, hP, hE⟩ := hB
  have hS : va_S A s.heap s.heap [] := va_S.rf
  have hl : lv_has ls 7 [(0, .ref m0), (1, .int (nI (64 * n + t)))] := hl
  have h64 := pw2le hP6
  refine lv_iload_n hx hb d_Mo_wrong_0 rfl (lv_at hl 1 rfl) ?_
  refine lv_bipush (v := nI 64) hx hb d_Mo_wrong_1 (by decide) ?_
  refine lv_idiv hx hb d_Mo_wrong_3 (by decide) ?_
  refine topI (y := nI n) ((pk_div (by omega) (by decide) (by decide)).trans (congrArg nI (by omega))) ?_
  refine lv_istore_n hx hb d_Mo_wrong_4 rfl hl (by decide) rfl (fun ls hl => ?_)
  have hl : lv_has ls 7 [(2, .int (nI n)), (0, .ref m0), (1, .int (nI (64 * n + t)))] := hl
  refine lv_iload_n hx hb d_Mo_wrong_5 rfl (lv_at hl 2 rfl) ?_
  refine lv_bipush (v := nI 64) hx hb d_Mo_wrong_6 (by decide) ?_
  refine lv_irem hx hb d_Mo_wrong_8 (by decide) ?_
  refine topI (y := nI (t / 4 ^ cn n 0)) ((pk_rem (by omega) (by decide) (by decide)).trans (congrArg nI (by show _ = t / 1; omega))) ?_
  refine lv_istore_n hx hb d_Mo_wrong_9 rfl hl (by decide) rfl (fun ls hl => ?_)
  have hl : lv_has ls 7 [(3, .int (nI (t / 4 ^ cn n 0))), (2, .int (nI n)), (0, .ref m0), (1, .int (nI (64 * n + t)))] := hl
  refine lv_iconst (v := nI 0) hx hb d_Mo_wrong_10 (by decide) ?_
  refine lv_istore hx hb d_Mo_wrong_11 hl (by decide) rfl (fun ls hl => ?_)
  have hl : lv_has ls 7 [(4, .int (nI 0)), (3, .int (nI (t / 4 ^ cn n 0))), (2, .int (nI n)), (0, .ref m0), (1, .int (nI (64 * n + t)))] := hl
  refine lv_iconst (v := nI 0) hx hb d_Mo_wrong_13 (by decide) ?_
  refine lv_istore hx hb d_Mo_wrong_14 hl (by decide) rfl (fun ls hl => ?_)
  have hl : lv_has ls 7 [(5, .int (nI 0)), (4, .int (nI 0)), (3, .int (nI (t / 4 ^ cn n 0))), (2, .int (nI n)), (0, .ref m0), (1, .int (nI (64 * n + t)))] := hl
  refine wLoop (nL := 7) (σ := (Nat)) (fun i => 6 - i) (fun i => i ≤ 6 ∧ okT vl n t i = true) (fun i => [(m0, .inr (6, [.int (nI P), .ref aV, .ref aB, .int (nI nk), .ref aRS, .ref aRT, .int (nI T.2.2.2.2.2.2), .ref aO, .ref aA, .ref aBt, .ref aD, .ref aT, .int (nI T.2.2.2.2.2.1), .ref aS, .int (nI nr), .ref aR, .int (nI ns), .ref aE, .int (bI fr), .ref aK, .ref aIV, .ref aIN, .int (bI on), .ref aOp, .int oP, .int oA, .int (nI tk), .ref aRw, .ref aGn])), (aV, .inl (X.2 0, 6, .inl (ia (rv P vl)))), (aB, .inl (X.2 2, 24, .inl (ba (bdF iv))))]) (fun i => [(0, .ref m0), (1, .int (nI (64 * n + t))), (2, .int (nI n)), (3, .int (nI (t / 4 ^ cn n i))), (4, .int (nI (wT iv n t i))), (5, .int (nI i))]) ?_ 0 (⟨by omega, rfl⟩) hP hD hS (lv_sub hl [4, 5, 3, 2, 1, 0] rfl)
  rintro i H locs ls hJ hP hD hS hl ih16
  have hJ : i ≤ 6 ∧ okT vl n t i = true := hJ
  obtain ⟨hi6, hok⟩ := hJ
  have hd4 := dg_lt t (cn n i)
  have hdl : t / 4 ^ cn n i ≤ t := Nat.div_le_self _ _
  have hwl := wT_le iv n t i
  have hP : va_P X.1 classes [(m0, .inr (6, [.int (nI P), .ref aV, .ref aB, .int (nI nk), .ref aRS, .ref aRT, .int (nI T.2.2.2.2.2.2), .ref aO, .ref aA, .ref aBt, .ref aD, .ref aT, .int (nI T.2.2.2.2.2.1), .ref aS, .int (nI nr), .ref aR, .int (nI ns), .ref aE, .int (bI fr), .ref aK, .ref aIV, .ref aIN, .int (bI on), .ref aOp, .int oP, .int oA, .int (nI tk), .ref aRw, .ref aGn])), (aV, .inl (X.2 0, 6, .inl (ia (rv P vl)))), (aB, .inl (X.2 2, 24, .inl (ba (bdF iv))))] H := hP
  have hD : va_D A [(m0, .inr (6, [.int (nI P), .ref aV, .ref aB, .int (nI nk), .ref aRS, .ref aRT, .int (nI T.2.2.2.2.2.2), .ref aO, .ref aA, .ref aBt, .ref aD, .ref aT, .int (nI T.2.2.2.2.2.1), .ref aS, .int (nI nr), .ref aR, .int (nI ns), .ref aE, .int (bI fr), .ref aK, .ref aIV, .ref aIN, .int (bI on), .ref aOp, .int oP, .int oA, .int (nI tk), .ref aRw, .ref aGn])), (aV, .inl (X.2 0, 6, .inl (ia (rv P vl)))), (aB, .inl (X.2 2, 24, .inl (ba (bdF iv))))] := hD
  have hl : lv_has ls 7 [(0, .ref m0), (1, .int (nI (64 * n + t))), (2, .int (nI n)), (3, .int (nI (t / 4 ^ cn n i))), (4, .int (nI (wT iv n t i))), (5, .int (nI i))] := hl
  refine lv_iload hx hb d_Mo_wrong_16 (lv_at hl 5 rfl) ?_
  refine lv_bipush (v := nI 6) hx hb d_Mo_wrong_18 (by decide) ?_
  refine lv_icmp_ge (tgt := 87) hx hb d_Mo_wrong_20 (by decide) (fun hc20 => ?_) (fun hc20 => ?_)
  · rw [nI_leI (by omega) (by omega)] at hc20
    obtain rfl : i = 6 := by omega
    refine lv_iload_n hx hb d_Mo_wrong_87 rfl (lv_at hl 3 rfl) ?_
    refine lv_if_le (tgt := 95) hx hb d_Mo_wrong_88 (by decide) (fun hc88 => ?_) (fun hc88 => ?_)
    · rw [n_le0 (by omega)] at hc88
      refine lv_iload hx hb d_Mo_wrong_95 (lv_at hl 4 rfl) ?_
      exact retI (u := ()) hx hb hr hlk hP hD hS (wg_1 hok hc88) d_Mo_wrong_97
    · rw [n_le0 (by omega)] at hc88
      refine lv_iconst (v := (-1)) hx hb d_Mo_wrong_91 (by decide) ?_
      refine lv_goto (tgt := 97) hx hb d_Mo_wrong_92 (by decide) ?_
      exact retI (u := ()) hx hb hr hlk hP hD hS (wg_hi hc88) d_Mo_wrong_97
  · rw [nI_leI (by omega) (by omega)] at hc20
    refine lv_iload_n hx hb d_Mo_wrong_23 rfl (lv_at hl 2 rfl) ?_
    refine lv_iload hx hb d_Mo_wrong_24 (lv_at hl 5 rfl) ?_
    refine lv_ishr hx hb d_Mo_wrong_26 ?_
    refine topI (shrN (by omega) (by omega)) ?_
    refine lv_iconst (v := nI 1) hx hb d_Mo_wrong_27 (by decide) ?_
    refine lv_iand hx hb d_Mo_wrong_28 ?_
    refine topI (nx_and _ _) ?_
    refine lv_iconst (v := nI 1) hx hb d_Mo_wrong_29 (by decide) ?_
    refine lv_icmp_ne (tgt := 81) hx hb d_Mo_wrong_30 (by decide) (fun hc30 => ?_) (fun hc30 => ?_)
    · rw [tb_1] at hc30
      have hl : lv_has ls 7 [(0, .ref m0), (1, .int (nI (64 * n + t))), (2, .int (nI n)), (3, .int (nI (t / 4 ^ cn n (i + 1)))), (4, .int (nI (wT iv n t (i + 1)))), (5, .int (nI i))] := by rw [cn_f (ts_nt hc30), wT_f (ts_nt hc30)]; exact hl
      refine lv_iinc (k := 5) (v := nI (i + 1)) hx hb d_Mo_wrong_81 hl rfl (nI_1 _) (by decide) rfl (fun ls hl => ?_)
      have hl : lv_has ls 7 [(5, .int (nI (i + 1))), (0, .ref m0), (1, .int (nI (64 * n + t))), (2, .int (nI n)), (3, .int (nI (t / 4 ^ cn n (i + 1)))), (4, .int (nI (wT iv n t (i + 1))))] := hl
      refine lv_goto (tgt := 16) hx hb d_Mo_wrong_84 (by decide) ?_
      exact ih16 (i + 1) H locs ls (by (try dsimp only); omega) (⟨by (try dsimp only); omega, by first | exact okT_t hok hc51 | exact okT_f hok (ts_nt hc30)⟩) hP hD hS (lv_sub hl [1, 2, 3, 4, 5, 0] rfl)
    · rw [tb_1] at hc30
      have hiP := tb_P hn hc30
      have hvi := hvl i (by omega)
      refine lv_iload_n hx hb d_Mo_wrong_33 rfl (lv_at hl 3 rfl) ?_
      refine lv_iconst (v := nI 3) hx hb d_Mo_wrong_34 (by decide) ?_
      refine lv_iand hx hb d_Mo_wrong_35 ?_
      refine topI (y := nI (dg t (cn n i))) (dgA t (cn n i)) ?_
      refine lv_istore hx hb d_Mo_wrong_36 hl (by decide) rfl (fun ls hl => ?_)
      have hl : lv_has ls 7 [(6, .int (nI (dg t (cn n i)))), (0, .ref m0), (1, .int (nI (64 * n + t))), (2, .int (nI n)), (3, .int (nI (t / 4 ^ cn n i))), (4, .int (nI (wT iv n t i))), (5, .int (nI i))] := hl
      refine lv_iload_n hx hb d_Mo_wrong_38 rfl (lv_at hl 4 rfl) ?_
      refine lv_iconst (v := nI 2) hx hb d_Mo_wrong_39 (by decide) ?_
      refine lv_ishr hx hb d_Mo_wrong_40 ?_
      refine topI (y := nI (t / 4 ^ cn n (i + 1))) (by rw [cn_t hc30]; exact dvA (by omega)) ?_
      refine lv_istore_n hx hb d_Mo_wrong_41 rfl hl (by decide) rfl (fun ls hl => ?_)
      have hl : lv_has ls 7 [(3, .int (nI (t / 4 ^ cn n (i + 1)))), (6, .int (nI (dg t (cn n i)))), (0, .ref m0), (1, .int (nI (64 * n + t))), (2, .int (nI n)), (4, .int (nI (wT iv n t i))), (5, .int (nI i))] := hl
      refine lv_iload hx hb d_Mo_wrong_42 (lv_at hl 1 rfl) ?_
      refine lv_aload_n hx hb d_Mo_wrong_44 rfl (lv_at hl 2 rfl) ?_
      refine va_get (D := X.1) (ci := 6) (v := .ref aV) (C := R_Mo) (T := F_Mo) (N := 29) hx hb hg in_Mo hown hE.1 hP 0 rfl rfl 1 (by decide) (hg _ m_476) (fun _ h9 => h9) rfl d_Mo_wrong_45 ?_
      refine lv_iload hx hb d_Mo_wrong_48 (lv_at hl 6 rfl) ?_
      refine va_iald hx hb hE.1 hP 1 0 rfl rfl (vp_in_nI (by omega) (by decide)) d_Mo_wrong_50 ?_
      refine topI (y := (ia (rv P vl)) i) (by rw [nI_clamp (by omega)]) ?_
      refine topI (y := nI (vl i)) (congrArg nI (rv_i hiP)) ?_
      refine lv_icmp_lt (tgt := 56) hx hb d_Mo_wrong_51 (by decide) (fun hc51 => ?_) (fun hc51 => ?_)
      · rw [nI_ltI (by omega) (by omega)] at hc51
        refine lv_iload hx hb d_Mo_wrong_56 (lv_at hl 5 rfl) ?_
        refine lv_aload_n hx hb d_Mo_wrong_58 rfl (lv_at hl 2 rfl) ?_
        refine va_get (D := X.1) (ci := 6) (v := .ref aB) (C := R_Mo) (T := F_Mo) (N := 29) hx hb hg in_Mo hown hE.1 hP 0 rfl rfl 2 (by decide) (hg _ m_477) (fun _ h9 => h9) rfl d_Mo_wrong_59 ?_
        refine lv_iconst (v := nI 4) hx hb d_Mo_wrong_62 (by decide) ?_
        refine lv_iload hx hb d_Mo_wrong_63 (lv_at hl 6 rfl) ?_
        refine lv_imul hx hb d_Mo_wrong_65 ?_
        refine topI (pk_mul _ _) ?_
        refine lv_iload hx hb d_Mo_wrong_66 (lv_at hl 1 rfl) ?_
        refine lv_iadd hx hb d_Mo_wrong_68 ?_
        refine topI (nI_add _ _) ?_
        refine va_zald hx hb hE.1 hP 2 2 rfl rfl (vp_in_nI (by omega) (by decide)) d_Mo_wrong_69 ?_
        refine topI (y := (ba (bdF iv)) ((4 * i) + (dg t (cn n i)))) (by rw [nI_clamp (by omega)]) ?_
        refine topI (y := bI ((iv i).testBit (dg t (cn n i)))) (congrArg bI (bd_at hd4)) ?_
        refine lv_if_eq (tgt := 77) hx hb d_Mo_wrong_70 (by decide) (fun hc70 => ?_) (fun hc70 => ?_)
        · rw [bI_z] at hc70
          refine lv_iconst (v := nI 0) hx hb d_Mo_wrong_77 (by decide) ?_
          refine lv_iadd hx hb d_Mo_wrong_78 ?_
          refine topI (y := nI (wT iv n t (i + 1))) (by first | exact wT_0 hc70 | exact wT_1 hc30 hc70) ?_
          refine lv_istore hx hb d_Mo_wrong_79 hl (by decide) rfl (fun ls hl => ?_)
          have hl : lv_has ls 7 [(4, .int (nI (wT iv n t (i + 1)))), (3, .int (nI (t / 4 ^ cn n (i + 1)))), (6, .int (nI (dg t (cn n i)))), (0, .ref m0), (1, .int (nI (64 * n + t))), (2, .int (nI n)), (5, .int (nI i))] := hl
          refine lv_iinc (k := 6) (v := nI (i + 1)) hx hb d_Mo_wrong_81 hl rfl (nI_1 _) (by decide) rfl (fun ls hl => ?_)
          have hl : lv_has ls 7 [(5, .int (nI (i + 1))), (4, .int (nI (wT iv n t (i + 1)))), (3, .int (nI (t / 4 ^ cn n (i + 1)))), (6, .int (nI (dg t (cn n i)))), (0, .ref m0), (1, .int (nI (64 * n + t))), (2, .int (nI n))] := hl
          refine lv_goto (tgt := 16) hx hb d_Mo_wrong_84 (by decide) ?_
          exact ih16 (i + 1) H locs ls (by (try dsimp only); omega) (⟨by (try dsimp only); omega, by first | exact okT_t hok hc51 | exact okT_f hok (ts_nt hc30)⟩) hP hD hS (lv_sub hl [4, 5, 6, 2, 1, 0] rfl)
        · rw [bI_z] at hc70
          refine lv_iconst (v := nI 1) hx hb d_Mo_wrong_73 (by decide) ?_
          refine lv_goto (tgt := 78) hx hb d_Mo_wrong_74 (by decide) ?_
          refine lv_iadd hx hb d_Mo_wrong_78 ?_
          refine topI (y := nI (wT iv n t (i + 1))) (by first | exact wT_0 hc70 | exact wT_1 hc30 hc70) ?_
          refine lv_istore hx hb d_Mo_wrong_79 hl (by decide) rfl (fun ls hl => ?_)
          have hl : lv_has ls 7 [(4, .int (nI (wT iv n t (i + 1)))), (3, .int (nI (t / 4 ^ cn n (i + 1)))), (6, .int (nI (dg t (cn n i)))), (0, .ref m0), (1, .int (nI (64 * n + t))), (2, .int (nI n)), (5, .int (nI i))] := hl
          refine lv_iinc (k := 6) (v := nI (i + 1)) hx hb d_Mo_wrong_81 hl rfl (nI_1 _) (by decide) rfl (fun ls hl => ?_)
          have hl : lv_has ls 7 [(5, .int (nI (i + 1))), (4, .int (nI (wT iv n t (i + 1)))), (3, .int (nI (t / 4 ^ cn n (i + 1)))), (6, .int (nI (dg t (cn n i)))), (0, .ref m0), (1, .int (nI (64 * n + t))), (2, .int (nI n))] := hl
          refine lv_goto (tgt := 16) hx hb d_Mo_wrong_84 (by decide) ?_
          exact ih16 (i + 1) H locs ls (by (try dsimp only); omega) (⟨by (try dsimp only); omega, by first | exact okT_t hok hc51 | exact okT_f hok (ts_nt hc30)⟩) hP hD hS (lv_sub hl [4, 5, 6, 2, 1, 0] rfl)
      · rw [nI_ltI (by omega) (by omega)] at hc51
        refine lv_iconst (v := (-1)) hx hb d_Mo_wrong_54 (by decide) ?_
        exact retI (u := ()) hx hb hr hlk hP hD hS (wg_no (by omega) hc30 hc51) d_Mo_wrong_55
set_option maxHeartbeats 4000000 in
set_option maxRecDepth 100000 in
theorem k_Mo_asked (l : Launch) (X : Cx) (m0 aV aB aRS aRT aO aA aBt aD aT aS aR aE aK aIV aIN aOp aRw aGn : Nat) (P nk nr ns : Nat) (oP : Int32) (tk : Nat) (oA : Int32) (T : TS) (fr on : Bool) (rs rt : Nat → Nat) (hrs : ∀ k, rs k < 64) (hrt : ∀ k, rt k < 64) (hnk : nk ≤ 8) (n : Nat) (hn : n < 64) : CtI l X (TY X) y_Mo_asked cw_Mo_asked ({ frames := 1, cells := 0, slots := 0, locals := 23 } : Room) [.ref m0, .int (nI n)] [(m0, .inr (6, [.int (nI P), .ref aV, .ref aB, .int (nI nk), .ref aRS, .ref aRT, .int (nI T.2.2.2.2.2.2), .ref aO, .ref aA, .ref aBt, .ref aD, .ref aT, .int (nI T.2.2.2.2.2.1), .ref aS, .int (nI nr), .ref aR, .int (nI ns), .ref aE, .int (bI fr), .ref aK, .ref aIV, .ref aIN, .int (bI on), .ref aOp, .int oP, .int oA, .int (nI tk), .ref aRw, .ref aGn])), (aRS, .inl (X.2 0, 8, .inl (ia rs))), (aRT, .inl (X.2 0, 8, .inl (ia rt)))] (S := Unit) (fun r _ => r = bI (exB nk (akB rs rt n))) (fun _ => [(m0, .inr (6, [.int (nI P), .ref aV, .ref aB, .int (nI nk), .ref aRS, .ref aRT, .int (nI T.2.2.2.2.2.2), .ref aO, .ref aA, .ref aBt, .ref aD, .ref aT, .int (nI T.2.2.2.2.2.1), .ref aS, .int (nI nr), .ref aR, .int (nI ns), .ref aE, .int (bI fr), .ref aK, .ref aIV, .ref aIN, .int (bI on), .ref aOp, .int oP, .int oA, .int (nI tk), .ref aRw, .ref aGn])), (aRS, .inl (X.2 0, 8, .inl (ia rs))), (aRT, .inl (X.2 0, 8, .inl (ia rt)))]) 0 0 := by
  refine metI (by decide) (Nat.le_of_ble_eq_true rfl) ?_
  intro p e s m below meth c A ls hB hl
  obtain ⟨hx, hb, hr, hml, hown, hlk, hin, hg, hA, hD, hP, hE⟩ := hB
  have hS : va_S A s.heap s.heap [] := va_S.rf
  have hl : lv_has ls 4 [(0, .ref m0), (1, .int (nI n))] := hl
  refine lv_iconst (v := nI 0) hx hb d_Mo_asked_0 (by decide) ?_
  refine topI (y := bI (exB 0 (akB rs rt n))) (rfl) ?_
  refine lv_istore_n hx hb d_Mo_asked_1 rfl hl (by decide) rfl (fun ls hl => ?_)
  have hl : lv_has ls 4 [(2, .int (bI (exB 0 (akB rs rt n)))), (0, .ref m0), (1, .int (nI n))] := hl
  refine lv_iconst (v := nI 0) hx hb d_Mo_asked_2 (by decide) ?_
  refine lv_istore_n hx hb d_Mo_asked_3 rfl hl (by decide) rfl (fun ls hl => ?_)
  have hl : lv_has ls 4 [(3, .int (nI 0)), (2, .int (bI (exB 0 (akB rs rt n)))), (0, .ref m0), (1, .int (nI n))] := hl
  refine wLoop (nL := 4) (σ := (Nat)) (fun i => nk - i) (fun i => i ≤ nk) (fun i => [(m0, .inr (6, [.int (nI P), .ref aV, .ref aB, .int (nI nk), .ref aRS, .ref aRT, .int (nI T.2.2.2.2.2.2), .ref aO, .ref aA, .ref aBt, .ref aD, .ref aT, .int (nI T.2.2.2.2.2.1), .ref aS, .int (nI nr), .ref aR, .int (nI ns), .ref aE, .int (bI fr), .ref aK, .ref aIV, .ref aIN, .int (bI on), .ref aOp, .int oP, .int oA, .int (nI tk), .ref aRw, .ref aGn])), (aRS, .inl (X.2 0, 8, .inl (ia rs))), (aRT, .inl (X.2 0, 8, .inl (ia rt)))]) (fun i => [(0, .ref m0), (1, .int (nI n)), (2, .int (bI (exB i (akB rs rt n)))), (3, .int (nI i))]) ?_ 0 (Nat.zero_le _) hP hD hS (lv_sub hl [2, 3, 1, 0] rfl)
  rintro i H locs ls hJ hP hD hS hl ih4
  have hJ : i ≤ nk := hJ
  have hrsi := hrs i
  have hrti := hrt i
  have hP : va_P X.1 classes [(m0, .inr (6, [.int (nI P), .ref aV, .ref aB, .int (nI nk), .ref aRS, .ref aRT, .int (nI T.2.2.2.2.2.2), .ref aO, .ref aA, .ref aBt, .ref aD, .ref aT, .int (nI T.2.2.2.2.2.1), .ref aS, .int (nI nr), .ref aR, .int (nI ns), .ref aE, .int (bI fr), .ref aK, .ref aIV, .ref aIN, .int (bI on), .ref aOp, .int oP, .int oA, .int (nI tk), .ref aRw, .ref aGn])), (aRS, .inl (X.2 0, 8, .inl (ia rs))), (aRT, .inl (X.2 0, 8, .inl (ia rt)))] H := hP
  have hD : va_D A [(m0, .inr (6, [.int (nI P), .ref aV, .ref aB, .int (nI nk), .ref aRS, .ref aRT, .int (nI T.2.2.2.2.2.2), .ref aO, .ref aA, .ref aBt, .ref aD, .ref aT, .int (nI T.2.2.2.2.2.1), .ref aS, .int (nI nr), .ref aR, .int (nI ns), .ref aE, .int (bI fr), .ref aK, .ref aIV, .ref aIN, .int (bI on), .ref aOp, .int oP, .int oA, .int (nI tk), .ref aRw, .ref aGn])), (aRS, .inl (X.2 0, 8, .inl (ia rs))), (aRT, .inl (X.2 0, 8, .inl (ia rt)))] := hD
  have hl : lv_has ls 4 [(0, .ref m0), (1, .int (nI n)), (2, .int (bI (exB i (akB rs rt n)))), (3, .int (nI i))] := hl
  refine lv_iload_n hx hb d_Mo_asked_4 rfl (lv_at hl 3 rfl) ?_
  refine lv_aload_n hx hb d_Mo_asked_5 rfl (lv_at hl 0 rfl) ?_
  refine va_get (D := X.1) (ci := 6) (v := .int (nI nk)) (C := R_Mo) (T := F_Mo) (N := 29) hx hb hg in_Mo hown hE.1 hP 0 rfl rfl 3 (by decide) (hg _ m_478) (fun _ h9 => h9) rfl d_Mo_asked_6 ?_
  refine lv_icmp_ge (tgt := 55) hx hb d_Mo_asked_9 (by decide) (fun hc9 => ?_) (fun hc9 => ?_)
  · rw [nI_leI (by omega) (by omega)] at hc9
    obtain rfl : i = nk := by omega
    refine lv_iload_n hx hb d_Mo_asked_55 rfl (lv_at hl 2 rfl) ?_
    exact retZ (u := ()) hx hb hr hlk (bI_01 _) hP hD hS (rfl) d_Mo_asked_56
  · rw [nI_leI (by omega) (by omega)] at hc9
    refine lv_iload_n hx hb d_Mo_asked_12 rfl (lv_at hl 2 rfl) ?_
    refine lv_if_ne (tgt := 43) hx hb d_Mo_asked_13 (by decide) (fun hc13 => ?_) (fun hc13 => ?_)
    · rw [bI_z] at hc13
      refine lv_iconst (v := nI 1) hx hb d_Mo_asked_43 (by decide) ?_
      refine topI (y := bI (exB (i + 1) (akB rs rt n))) (by first | (rw [ak_t hc13]; rfl) | (rw [ak_c hc26 hc40]; rfl)) ?_
      refine lv_goto (tgt := 48) hx hb d_Mo_asked_44 (by decide) ?_
      refine lv_istore_n hx hb d_Mo_asked_48 rfl hl (by decide) rfl (fun ls hl => ?_)
      have hl : lv_has ls 4 [(2, .int (bI (exB (i + 1) (akB rs rt n)))), (0, .ref m0), (1, .int (nI n)), (3, .int (nI i))] := hl
      refine lv_iinc (k := 3) (v := nI (i + 1)) hx hb d_Mo_asked_49 hl rfl (nI_1 _) (by decide) rfl (fun ls hl => ?_)
      have hl : lv_has ls 4 [(3, .int (nI (i + 1))), (2, .int (bI (exB (i + 1) (akB rs rt n)))), (0, .ref m0), (1, .int (nI n))] := hl
      refine lv_goto (tgt := 4) hx hb d_Mo_asked_52 (by decide) ?_
      exact ih4 (i + 1) H locs ls (by (try dsimp only); omega) (by (try dsimp only); omega) hP hD hS (lv_sub hl [2, 3, 1, 0] rfl)
    · rw [bI_z] at hc13
      refine lv_iload_n hx hb d_Mo_asked_16 rfl (lv_at hl 1 rfl) ?_
      refine lv_aload_n hx hb d_Mo_asked_17 rfl (lv_at hl 0 rfl) ?_
      refine va_get (D := X.1) (ci := 6) (v := .ref aRS) (C := R_Mo) (T := F_Mo) (N := 29) hx hb hg in_Mo hown hE.1 hP 0 rfl rfl 4 (by decide) (hg _ m_479) (fun _ h9 => h9) rfl d_Mo_asked_18 ?_
      refine lv_iload_n hx hb d_Mo_asked_21 rfl (lv_at hl 3 rfl) ?_
      refine va_iald hx hb hE.1 hP 1 0 rfl rfl (vp_in_nI (by omega) (by decide)) d_Mo_asked_22 ?_
      refine topI (y := (ia rs) i) (by rw [nI_clamp (by omega)]) ?_
      refine topI (y := nI (rs i)) (rfl) ?_
      refine lv_iconst (v := (-1)) hx hb d_Mo_asked_23 (by decide) ?_
      refine lv_ixor hx hb d_Mo_asked_24 ?_
      refine lv_iand hx hb d_Mo_asked_25 ?_
      refine lv_if_ne (tgt := 47) hx hb d_Mo_asked_26 (by decide) (fun hc26 => ?_) (fun hc26 => ?_)
      · rw [sb13 hn hrsi] at hc26
        refine lv_iconst (v := nI 0) hx hb d_Mo_asked_47 (by decide) ?_
        refine topI (y := bI (exB (i + 1) (akB rs rt n))) (by first | (rw [ak_a hc13 hc26]; rfl) | (rw [ak_b hc13 hc40]; rfl)) ?_
        refine lv_istore_n hx hb d_Mo_asked_48 rfl hl (by decide) rfl (fun ls hl => ?_)
        have hl : lv_has ls 4 [(2, .int (bI (exB (i + 1) (akB rs rt n)))), (0, .ref m0), (1, .int (nI n)), (3, .int (nI i))] := hl
        refine lv_iinc (k := 3) (v := nI (i + 1)) hx hb d_Mo_asked_49 hl rfl (nI_1 _) (by decide) rfl (fun ls hl => ?_)
        have hl : lv_has ls 4 [(3, .int (nI (i + 1))), (2, .int (bI (exB (i + 1) (akB rs rt n)))), (0, .ref m0), (1, .int (nI n))] := hl
        refine lv_goto (tgt := 4) hx hb d_Mo_asked_52 (by decide) ?_
        exact ih4 (i + 1) H locs ls (by (try dsimp only); omega) (by (try dsimp only); omega) hP hD hS (lv_sub hl [2, 3, 1, 0] rfl)
      · rw [sb13 hn hrsi] at hc26
        refine lv_aload_n hx hb d_Mo_asked_29 rfl (lv_at hl 0 rfl) ?_
        refine lv_iload_n hx hb d_Mo_asked_30 rfl (lv_at hl 1 rfl) ?_
        refine clVI (n := 1) (As := [.int (nI n)]) (rest := []) (wc := [(m0, .inr (6, [.int (nI P), .ref aV, .ref aB, .int (nI nk), .ref aRS, .ref aRT, .int (nI T.2.2.2.2.2.2), .ref aO, .ref aA, .ref aBt, .ref aD, .ref aT, .int (nI T.2.2.2.2.2.1), .ref aS, .int (nI nr), .ref aR, .int (nI ns), .ref aE, .int (bI fr), .ref aK, .ref aIV, .ref aIN, .int (bI on), .ref aOp, .int oP, .int oA, .int (nI tk), .ref aRw, .ref aGn]))]) (wr := [(aRS, .inl (X.2 0, 8, .inl (ia rs))), (aRT, .inl (X.2 0, 8, .inl (ia rt)))]) hx hb hml hown hg hE hA hP hD hS (k_Mo_size l X m0 aV aB aRS aRT aO aA aBt aD aT aS aR aE aK aIV aIN aOp aRw aGn P nk nr ns oP tk oA T fr on n hn) (gcons m_582 (gcons m_584 (gcons ms_Mo_size (gcons m_8 (gcons m_585 gG))))) (by decide +kernel) [0] [1, 2] rfl rfl (by decide) (by decide) (by decide) 0 rfl rfl rfl hl.1 (Nat.le_of_ble_eq_true rfl) rfl d_Mo_asked_31 ⟨rfl, rfl, Nat.le_of_ble_eq_true rfl, Nat.le_of_ble_eq_true rfl⟩ (⟨Nat.le_of_ble_eq_true rfl, Nat.le_of_ble_eq_true rfl⟩) (fun r31 u31 H locs hq31 hP hD hS => ?_)
        have hq31 : r31 = nI (cn n 6) := hq31
        subst hq31
        have hP := hP.sub (ws' := [(m0, .inr (6, [.int (nI P), .ref aV, .ref aB, .int (nI nk), .ref aRS, .ref aRT, .int (nI T.2.2.2.2.2.2), .ref aO, .ref aA, .ref aBt, .ref aD, .ref aT, .int (nI T.2.2.2.2.2.1), .ref aS, .int (nI nr), .ref aR, .int (nI ns), .ref aE, .int (bI fr), .ref aK, .ref aIV, .ref aIN, .int (bI on), .ref aOp, .int oP, .int oA, .int (nI tk), .ref aRw, .ref aGn])), (aRS, .inl (X.2 0, 8, .inl (ia rs))), (aRT, .inl (X.2 0, 8, .inl (ia rt)))]) [2, 0, 1] rfl
        have hD := hD.sub (ws' := [(m0, .inr (6, [.int (nI P), .ref aV, .ref aB, .int (nI nk), .ref aRS, .ref aRT, .int (nI T.2.2.2.2.2.2), .ref aO, .ref aA, .ref aBt, .ref aD, .ref aT, .int (nI T.2.2.2.2.2.1), .ref aS, .int (nI nr), .ref aR, .int (nI ns), .ref aE, .int (bI fr), .ref aK, .ref aIV, .ref aIN, .int (bI on), .ref aOp, .int oP, .int oA, .int (nI tk), .ref aRw, .ref aGn])), (aRS, .inl (X.2 0, 8, .inl (ia rs))), (aRT, .inl (X.2 0, 8, .inl (ia rt)))]) [2, 0, 1] (by decide) rfl
        refine lv_aload_n hx hb d_Mo_asked_34 rfl (lv_at hl 0 rfl) ?_
        refine va_get (D := X.1) (ci := 6) (v := .ref aRT) (C := R_Mo) (T := F_Mo) (N := 29) hx hb hg in_Mo hown hE.1 hP 0 rfl rfl 5 (by decide) (hg _ m_480) (fun _ h9 => h9) rfl d_Mo_asked_35 ?_
        refine lv_iload_n hx hb d_Mo_asked_38 rfl (lv_at hl 3 rfl) ?_
        refine va_iald hx hb hE.1 hP 2 0 rfl rfl (vp_in_nI (by omega) (by decide)) d_Mo_asked_39 ?_
        refine topI (y := (ia rt) i) (by rw [nI_clamp (by omega)]) ?_
        refine topI (y := nI (rt i)) (rfl) ?_
        refine lv_icmp_ne (tgt := 47) hx hb d_Mo_asked_40 (by decide) (fun hc40 => ?_) (fun hc40 => ?_)
        · rw [nI_eq (cn31 _) (by omega)] at hc40
          refine lv_iconst (v := nI 0) hx hb d_Mo_asked_47 (by decide) ?_
          refine topI (y := bI (exB (i + 1) (akB rs rt n))) (by first | (rw [ak_a hc13 hc26]; rfl) | (rw [ak_b hc13 hc40]; rfl)) ?_
          refine lv_istore_n hx hb d_Mo_asked_48 rfl hl (by decide) rfl (fun ls hl => ?_)
          have hl : lv_has ls 4 [(2, .int (bI (exB (i + 1) (akB rs rt n)))), (0, .ref m0), (1, .int (nI n)), (3, .int (nI i))] := hl
          refine lv_iinc (k := 3) (v := nI (i + 1)) hx hb d_Mo_asked_49 hl rfl (nI_1 _) (by decide) rfl (fun ls hl => ?_)
          have hl : lv_has ls 4 [(3, .int (nI (i + 1))), (2, .int (bI (exB (i + 1) (akB rs rt n)))), (0, .ref m0), (1, .int (nI n))] := hl
          refine lv_goto (tgt := 4) hx hb d_Mo_asked_52 (by decide) ?_
          exact ih4 (i + 1) H locs ls (by (try dsimp only); omega) (by (try dsimp only); omega) hP hD hS (lv_sub hl [2, 3, 1, 0] rfl)
        · rw [nI_eq (cn31 _) (by omega)] at hc40
          refine lv_iconst (v := nI 1) hx hb d_Mo_asked_43 (by decide) ?_
          refine topI (y := bI (exB (i + 1) (akB rs rt n))) (by first | (rw [ak_t hc13]; rfl) | (rw [ak_c hc26 hc40]; rfl)) ?_
          refine lv_goto (tgt := 48) hx hb d_Mo_asked_44 (by decide) ?_
          refine lv_istore_n hx hb d_Mo_asked_48 rfl hl (by decide) rfl (fun ls hl => ?_)
          have hl : lv_has ls 4 [(2, .int (bI (exB (i + 1) (akB rs rt n)))), (0, .ref m0), (1, .int (nI n)), (3, .int (nI i))] := hl
          refine lv_iinc (k := 3) (v := nI (i + 1)) hx hb d_Mo_asked_49 hl rfl (nI_1 _) (by decide) rfl (fun ls hl => ?_)
          have hl : lv_has ls 4 [(3, .int (nI (i + 1))), (2, .int (bI (exB (i + 1) (akB rs rt n)))), (0, .ref m0), (1, .int (nI n))] := hl
          refine lv_goto (tgt := 4) hx hb d_Mo_asked_52 (by decide) ?_
          exact ih4 (i + 1) H locs ls (by (try dsimp only); omega) (by (try dsimp only); omega) hP hD hS (lv_sub hl [2, 3, 1, 0] rfl)
set_option maxHeartbeats 4000000 in
set_option maxRecDepth 100000 in
theorem k_Mo_noValue (l : Launch) (X : Cx) (m0 aV aB aRS aRT aO aA aBt aD aT aS aR aE aK aIV aIN aOp aRw aGn : Nat) (P nk nr ns : Nat) (oP : Int32) (tk : Nat) (oA : Int32) (T : TS) (fr on : Bool) (vl : Nat → Nat) (hP6 : P ≤ 6) (x y : Int32) : CtI l X (TY X) y_Mo_noValue cw_Mo_noValue ({ frames := 0, cells := 0, slots := 0, locals := 0 } : Room) [.ref m0, .int x, .int y] [(m0, .inr (6, [.int (nI P), .ref aV, .ref aB, .int (nI nk), .ref aRS, .ref aRT, .int (nI T.2.2.2.2.2.2), .ref aO, .ref aA, .ref aBt, .ref aD, .ref aT, .int (nI T.2.2.2.2.2.1), .ref aS, .int (nI nr), .ref aR, .int (nI ns), .ref aE, .int (bI fr), .ref aK, .ref aIV, .ref aIN, .int (bI on), .ref aOp, .int oP, .int oA, .int (nI tk), .ref aRw, .ref aGn])), (aV, .inl (X.2 0, 6, .inl (ia (rv P vl))))] (S := Unit) (fun r _ => r = bI (noB P vl x y)) (fun _ => [(m0, .inr (6, [.int (nI P), .ref aV, .ref aB, .int (nI nk), .ref aRS, .ref aRT, .int (nI T.2.2.2.2.2.2), .ref aO, .ref aA, .ref aBt, .ref aD, .ref aT, .int (nI T.2.2.2.2.2.1), .ref aS, .int (nI nr), .ref aR, .int (nI ns), .ref aE, .int (bI fr), .ref aK, .ref aIV, .ref aIN, .int (bI on), .ref aOp, .int oP, .int oA, .int (nI tk), .ref aRw, .ref aGn])), (aV, .inl (X.2 0, 6, .inl (ia (rv P vl))))]) 0 0 := by
  refine metI (by decide) (Nat.le_of_ble_eq_true rfl) ?_
  intro p e s m below meth c A ls hB hl
  obtain ⟨hx, hb, hr, hml, hown, hlk, hin, hg, hA, hD, hP, hE⟩ := hB
  have hS : va_S A s.heap s.heap [] := va_S.rf
  have hl : lv_has ls 3 [(0, .ref m0), (1, .int x), (2, .int y)] := hl
  refine lv_iload_n hx hb d_Mo_noValue_0 rfl (lv_at hl 1 rfl) ?_
  refine lv_if_lt (tgt := 26) hx hb d_Mo_noValue_1 (by decide) (fun hc1 => ?_) (fun hc1 => ?_)
  · refine lv_iconst (v := nI 1) hx hb d_Mo_noValue_26 (by decide) ?_
    refine lv_goto (tgt := 31) hx hb d_Mo_noValue_27 (by decide) ?_
    exact retZ (u := ()) hx hb hr hlk (by decide) hP hD hS (by first | exact no_a hc1 | exact no_b hc9 | exact no_c hc13 | exact no_d (by omega) hc23) d_Mo_noValue_31
  · refine lv_iload_n hx hb d_Mo_noValue_4 rfl (lv_at hl 1 rfl) ?_
    refine lv_aload_n hx hb d_Mo_noValue_5 rfl (lv_at hl 0 rfl) ?_
    refine va_get (D := X.1) (ci := 6) (v := .int (nI P)) (C := R_Mo) (T := F_Mo) (N := 29) hx hb hg in_Mo hown hE.1 hP 0 rfl rfl 0 (by decide) (hg _ m_475) (fun _ h9 => h9) rfl d_Mo_noValue_6 ?_
    refine lv_icmp_ge (tgt := 26) hx hb d_Mo_noValue_9 (by decide) (fun hc9 => ?_) (fun hc9 => ?_)
    · refine lv_iconst (v := nI 1) hx hb d_Mo_noValue_26 (by decide) ?_
      refine lv_goto (tgt := 31) hx hb d_Mo_noValue_27 (by decide) ?_
      exact retZ (u := ()) hx hb hr hlk (by decide) hP hD hS (by first | exact no_a hc1 | exact no_b hc9 | exact no_c hc13 | exact no_d (by omega) hc23) d_Mo_noValue_31
    · refine lv_iload_n hx hb d_Mo_noValue_12 rfl (lv_at hl 2 rfl) ?_
      refine lv_if_lt (tgt := 26) hx hb d_Mo_noValue_13 (by decide) (fun hc13 => ?_) (fun hc13 => ?_)
      · refine lv_iconst (v := nI 1) hx hb d_Mo_noValue_26 (by decide) ?_
        refine lv_goto (tgt := 31) hx hb d_Mo_noValue_27 (by decide) ?_
        exact retZ (u := ()) hx hb hr hlk (by decide) hP hD hS (by first | exact no_a hc1 | exact no_b hc9 | exact no_c hc13 | exact no_d (by omega) hc23) d_Mo_noValue_31
      · refine lv_iload_n hx hb d_Mo_noValue_16 rfl (lv_at hl 2 rfl) ?_
        refine lv_aload_n hx hb d_Mo_noValue_17 rfl (lv_at hl 0 rfl) ?_
        refine va_get (D := X.1) (ci := 6) (v := .ref aV) (C := R_Mo) (T := F_Mo) (N := 29) hx hb hg in_Mo hown hE.1 hP 0 rfl rfl 1 (by decide) (hg _ m_476) (fun _ h9 => h9) rfl d_Mo_noValue_18 ?_
        refine lv_iload_n hx hb d_Mo_noValue_21 rfl (lv_at hl 1 rfl) ?_
        obtain ⟨q, hq, rfl⟩ := nI_below hP6 hc1 hc9
        refine va_iald hx hb hE.1 hP 1 0 rfl rfl (vp_in_nI (by omega) (by decide)) d_Mo_noValue_22 ?_
        refine topI (y := (ia (rv P vl)) q) (by rw [nI_clamp (by omega)]) ?_
        refine topI (y := nI (vl q)) (congrArg nI (rv_i hq)) ?_
        refine lv_icmp_lt (tgt := 30) hx hb d_Mo_noValue_23 (by decide) (fun hc23 => ?_) (fun hc23 => ?_)
        · refine lv_iconst (v := nI 0) hx hb d_Mo_noValue_30 (by decide) ?_
          exact retZ (u := ()) hx hb hr hlk (by decide) hP hD hS (no_1 (by omega) hc1 hc9 hc13 hc23) d_Mo_noValue_31
        · refine lv_iconst (v := nI 1) hx hb d_Mo_noValue_26 (by decide) ?_
          refine lv_goto (tgt := 31) hx hb d_Mo_noValue_27 (by decide) ?_
          exact retZ (u := ()) hx hb hr hlk (by decide) hP hD hS (by first | exact no_a hc1 | exact no_b hc9 | exact no_c hc13 | exact no_d (by omega) hc23) d_Mo_noValue_31
set_option maxHeartbeats 4000000 in
set_option maxRecDepth 100000 in
theorem k_Mo_noRow (l : Launch) (X : Cx) (m0 aV aB aRS aRT aO aA aBt aD aT aS aR aE aK aIV aIN aOp aRw aGn : Nat) (P nk nr ns : Nat) (oP : Int32) (tk : Nat) (oA : Int32) (T : TS) (fr on : Bool) (x : Int32) : CtI l X (TY X) y_Mo_noRow cw_Mo_noRow ({ frames := 0, cells := 0, slots := 0, locals := 0 } : Room) [.ref m0, .int x] [(m0, .inr (6, [.int (nI P), .ref aV, .ref aB, .int (nI nk), .ref aRS, .ref aRT, .int (nI T.2.2.2.2.2.2), .ref aO, .ref aA, .ref aBt, .ref aD, .ref aT, .int (nI T.2.2.2.2.2.1), .ref aS, .int (nI nr), .ref aR, .int (nI ns), .ref aE, .int (bI fr), .ref aK, .ref aIV, .ref aIN, .int (bI on), .ref aOp, .int oP, .int oA, .int (nI tk), .ref aRw, .ref aGn]))] (S := Unit) (fun r _ => r = bI (!(itB on tk x))) (fun _ => [(m0, .inr (6, [.int (nI P), .ref aV, .ref aB, .int (nI nk), .ref aRS, .ref aRT, .int (nI T.2.2.2.2.2.2), .ref aO, .ref aA, .ref aBt, .ref aD, .ref aT, .int (nI T.2.2.2.2.2.1), .ref aS, .int (nI nr), .ref aR, .int (nI ns), .ref aE, .int (bI fr), .ref aK, .ref aIV, .ref aIN, .int (bI on), .ref aOp, .int oP, .int oA, .int (nI tk), .ref aRw, .ref aGn]))]) 0 0 := by
  refine metI (by decide) (Nat.le_of_ble_eq_true rfl) ?_
  intro p e s m below meth c A ls hB hl
  obtain ⟨hx, hb, hr, hml, hown, hlk, hin, hg, hA, hD, hP, hE⟩ := hB
  have hS : va_S A s.heap s.heap [] := va_S.rf
  have hl : lv_has ls 2 [(0, .ref m0), (1, .int x)] := hl
  refine lv_aload_n hx hb d_Mo_noRow_0 rfl (lv_at hl 0 rfl) ?_
  refine va_get (D := X.1) (ci := 6) (v := .int (bI on)) (C := R_Mo) (T := F_Mo) (N := 29) hx hb hg in_Mo hown hE.1 hP 0 rfl rfl 22 (by decide) (hg _ m_497) (fun _ h9 => h9) rfl d_Mo_noRow_1 ?_
  refine lv_if_eq (tgt := 19) hx hb d_Mo_noRow_4 (by decide) (fun hc4 => ?_) (fun hc4 => ?_)
  · rw [bI_z] at hc4
    refine lv_iconst (v := nI 1) hx hb d_Mo_noRow_19 (by decide) ?_
    refine lv_goto (tgt := 24) hx hb d_Mo_noRow_20 (by decide) ?_
    exact retZ (u := ()) hx hb hr hlk (by decide) hP hD hS (by first | exact nr_a hc4 | exact nr_b hc8 | exact nr_c hc16) d_Mo_noRow_24
  · rw [bI_z] at hc4
    refine lv_iload_n hx hb d_Mo_noRow_7 rfl (lv_at hl 1 rfl) ?_
    refine lv_if_lt (tgt := 19) hx hb d_Mo_noRow_8 (by decide) (fun hc8 => ?_) (fun hc8 => ?_)
    · refine lv_iconst (v := nI 1) hx hb d_Mo_noRow_19 (by decide) ?_
      refine lv_goto (tgt := 24) hx hb d_Mo_noRow_20 (by decide) ?_
      exact retZ (u := ()) hx hb hr hlk (by decide) hP hD hS (by first | exact nr_a hc4 | exact nr_b hc8 | exact nr_c hc16) d_Mo_noRow_24
    · refine lv_iload_n hx hb d_Mo_noRow_11 rfl (lv_at hl 1 rfl) ?_
      refine lv_aload_n hx hb d_Mo_noRow_12 rfl (lv_at hl 0 rfl) ?_
      refine va_get (D := X.1) (ci := 6) (v := .int (nI tk)) (C := R_Mo) (T := F_Mo) (N := 29) hx hb hg in_Mo hown hE.1 hP 0 rfl rfl 26 (by decide) (hg _ m_501) (fun _ h9 => h9) rfl d_Mo_noRow_13 ?_
      refine lv_icmp_lt (tgt := 23) hx hb d_Mo_noRow_16 (by decide) (fun hc16 => ?_) (fun hc16 => ?_)
      · refine lv_iconst (v := nI 0) hx hb d_Mo_noRow_23 (by decide) ?_
        exact retZ (u := ()) hx hb hr hlk (by decide) hP hD hS (nr_1 hc4 hc8 hc16) d_Mo_noRow_24
      · refine lv_iconst (v := nI 1) hx hb d_Mo_noRow_19 (by decide) ?_
        refine lv_goto (tgt := 24) hx hb d_Mo_noRow_20 (by decide) ?_
        exact retZ (u := ()) hx hb hr hlk (by decide) hP hD hS (by first | exact nr_a hc4 | exact nr_b hc8 | exact nr_c hc16) d_Mo_noRow_24
set_option maxHeartbeats 4000000 in
set_option maxRecDepth 100000 in
theorem k_Mo_end (l : Launch) (X : Cx) (m0 aV aB aRS aRT aO aA aBt aD aT aS aR aE aK aIV aIN aOp aRw aGn : Nat) (P nk nr ns : Nat) (oP : Int32) (tk : Nat) (oA : Int32) (T : TS) (fr on : Bool) : CtI l X (TY X) y_Mo_end cw_Mo_end ({ frames := 0, cells := 0, slots := 0, locals := 0 } : Room) [.ref m0] [(m0, .inr (6, [.int (nI P), .ref aV, .ref aB, .int (nI nk), .ref aRS, .ref aRT, .int (nI T.2.2.2.2.2.2), .ref aO, .ref aA, .ref aBt, .ref aD, .ref aT, .int (nI T.2.2.2.2.2.1), .ref aS, .int (nI nr), .ref aR, .int (nI ns), .ref aE, .int (bI fr), .ref aK, .ref aIV, .ref aIN, .int (bI on), .ref aOp, .int oP, .int oA, .int (nI tk), .ref aRw, .ref aGn]))] (S := Unit) (fun r _ => r = bI on) (fun _ => [(m0, .inr (6, [.int (nI P), .ref aV, .ref aB, .int (nI nk), .ref aRS, .ref aRT, .int (nI T.2.2.2.2.2.2), .ref aO, .ref aA, .ref aBt, .ref aD, .ref aT, .int (nI T.2.2.2.2.2.1), .ref aS, .int (nI nr), .ref aR, .int (nI ns), .ref aE, .int (bI fr), .ref aK, .ref aIV, .ref aIN, .int (bI false), .ref aOp, .int oP, .int oA, .int (nI tk), .ref aRw, .ref aGn]))]) 0 0 := by
  refine metI (by decide) (Nat.le_of_ble_eq_true rfl) ?_
  intro p e s m below meth c A ls hB hl
  obtain ⟨hx, hb, hr, hml, hown, hlk, hin, hg, hA, hD, hP, hE⟩ := hB
  have hS : va_S A s.heap s.heap [] := va_S.rf
  have hl : lv_has ls 2 [(0, .ref m0)] := hl
  refine lv_aload_n hx hb d_Mo_end_0 rfl (lv_at hl 0 rfl) ?_
  refine va_get (D := X.1) (ci := 6) (v := .int (bI on)) (C := R_Mo) (T := F_Mo) (N := 29) hx hb hg in_Mo hown hE.1 hP 0 rfl rfl 22 (by decide) (hg _ m_497) (fun _ h9 => h9) rfl d_Mo_end_1 ?_
  refine lv_istore_n hx hb d_Mo_end_4 rfl hl (by decide) rfl (fun ls hl => ?_)
  have hl : lv_has ls 2 [(1, .int (bI on)), (0, .ref m0)] := hl
  refine lv_aload_n hx hb d_Mo_end_5 rfl (lv_at hl 1 rfl) ?_
  refine lv_iconst (v := nI 0) hx hb d_Mo_end_6 (by decide) ?_
  refine va_put (D := X.1) (ci := 6) (v := .int (nI 0)) (ty := .boolean) (C := R_Mo) (T := F_Mo) (N := 29) hx hb hg in_Mo t_Mo t_Mo_ok n_Mo hown hE.1 hP hD hS 0 rfl rfl 22 (by decide) (hg _ m_497) (fun _ h9 => h9) rfl (by decide +kernel) rfl rfl (Nat.le_of_ble_eq_true rfl) d_Mo_end_7 (fun H locs hP hD hS => ?_)
  have hP : va_P X.1 classes [(m0, .inr (6, [.int (nI P), .ref aV, .ref aB, .int (nI nk), .ref aRS, .ref aRT, .int (nI T.2.2.2.2.2.2), .ref aO, .ref aA, .ref aBt, .ref aD, .ref aT, .int (nI T.2.2.2.2.2.1), .ref aS, .int (nI nr), .ref aR, .int (nI ns), .ref aE, .int (bI fr), .ref aK, .ref aIV, .ref aIN, .int (nI 0), .ref aOp, .int oP, .int oA, .int (nI tk), .ref aRw, .ref aGn]))] H := hP
  have hD : va_D A [(m0, .inr (6, [.int (nI P), .ref aV, .ref aB, .int (nI nk), .ref aRS, .ref aRT, .int (nI T.2.2.2.2.2.2), .ref aO, .ref aA, .ref aBt, .ref aD, .ref aT, .int (nI T.2.2.2.2.2.1), .ref aS, .int (nI nr), .ref aR, .int (nI ns), .ref aE, .int (bI fr), .ref aK, .ref aIV, .ref aIN, .int (nI 0), .ref aOp, .int oP, .int oA, .int (nI tk), .ref aRw, .ref aGn]))] := hD
  refine lv_iload_n hx hb d_Mo_end_10 rfl (lv_at hl 0 rfl) ?_
  exact retZ (u := ()) hx hb hr hlk (bI_01 _) hP hD hS (rfl) d_Mo_end_11
set_option maxHeartbeats 4000000 in
set_option maxRecDepth 100000 in
theorem k_Mo_rows (l : Launch) (X : Cx) (m0 aV aB aRS aRT aO aA aBt aD aT aS aR aE aK aIV aIN aOp aRw aGn : Nat) (P nk nr ns : Nat) (oP : Int32) (tk : Nat) (oA : Int32) (T : TS) (fr on : Bool) : CtI l X (TY X) y_Mo_rows cw_Mo_rows ({ frames := 0, cells := 0, slots := 0, locals := 0 } : Room) [.ref m0] [(m0, .inr (6, [.int (nI P), .ref aV, .ref aB, .int (nI nk), .ref aRS, .ref aRT, .int (nI T.2.2.2.2.2.2), .ref aO, .ref aA, .ref aBt, .ref aD, .ref aT, .int (nI T.2.2.2.2.2.1), .ref aS, .int (nI nr), .ref aR, .int (nI ns), .ref aE, .int (bI fr), .ref aK, .ref aIV, .ref aIN, .int (bI on), .ref aOp, .int oP, .int oA, .int (nI tk), .ref aRw, .ref aGn]))] (S := Unit) (fun r _ => r = (bif on then nI tk else nI 0)) (fun _ => [(m0, .inr (6, [.int (nI P), .ref aV, .ref aB, .int (nI nk), .ref aRS, .ref aRT, .int (nI T.2.2.2.2.2.2), .ref aO, .ref aA, .ref aBt, .ref aD, .ref aT, .int (nI T.2.2.2.2.2.1), .ref aS, .int (nI nr), .ref aR, .int (nI ns), .ref aE, .int (bI fr), .ref aK, .ref aIV, .ref aIN, .int (bI on), .ref aOp, .int oP, .int oA, .int (nI tk), .ref aRw, .ref aGn]))]) 0 0 := by
  refine metI (by decide) (Nat.le_of_ble_eq_true rfl) ?_
  intro p e s m below meth c A ls hB hl
  obtain ⟨hx, hb, hr, hml, hown, hlk, hin, hg, hA, hD, hP, hE⟩ := hB
  have hS : va_S A s.heap s.heap [] := va_S.rf
  have hl : lv_has ls 1 [(0, .ref m0)] := hl
  refine lv_aload_n hx hb d_Mo_rows_0 rfl (lv_at hl 0 rfl) ?_
  refine va_get (D := X.1) (ci := 6) (v := .int (bI on)) (C := R_Mo) (T := F_Mo) (N := 29) hx hb hg in_Mo hown hE.1 hP 0 rfl rfl 22 (by decide) (hg _ m_497) (fun _ h9 => h9) rfl d_Mo_rows_1 ?_
  refine lv_if_eq (tgt := 14) hx hb d_Mo_rows_4 (by decide) (fun hc4 => ?_) (fun hc4 => ?_)
  · rw [bI_z] at hc4
    refine lv_iconst (v := nI 0) hx hb d_Mo_rows_14 (by decide) ?_
    exact retI (u := ()) hx hb hr hlk hP hD hS (by rw [hc4]; rfl) d_Mo_rows_15
  · rw [bI_z] at hc4
    refine lv_aload_n hx hb d_Mo_rows_7 rfl (lv_at hl 0 rfl) ?_
    refine va_get (D := X.1) (ci := 6) (v := .int (nI tk)) (C := R_Mo) (T := F_Mo) (N := 29) hx hb hg in_Mo hown hE.1 hP 0 rfl rfl 26 (by decide) (hg _ m_501) (fun _ h9 => h9) rfl d_Mo_rows_8 ?_
    refine lv_goto (tgt := 15) hx hb d_Mo_rows_11 (by decide) ?_
    exact retI (u := ()) hx hb hr hlk hP hD hS (by rw [ts_nf hc4]; rfl) d_Mo_rows_15
set_option maxHeartbeats 4000000 in
set_option maxRecDepth 100000 in
theorem k_Mo_left (l : Launch) (X : Cx) (m0 aV aB aRS aRT aO aA aBt aD aT aS aR aE aK aIV aIN aOp aRw aGn : Nat) (P nk nr ns : Nat) (oP : Int32) (tk : Nat) (oA : Int32) (T : TS) (fr on : Bool) : CtI l X (TY X) y_Mo_left cw_Mo_left ({ frames := 0, cells := 0, slots := 0, locals := 0 } : Room) [.ref m0] [(m0, .inr (6, [.int (nI P), .ref aV, .ref aB, .int (nI nk), .ref aRS, .ref aRT, .int (nI T.2.2.2.2.2.2), .ref aO, .ref aA, .ref aBt, .ref aD, .ref aT, .int (nI T.2.2.2.2.2.1), .ref aS, .int (nI nr), .ref aR, .int (nI ns), .ref aE, .int (bI fr), .ref aK, .ref aIV, .ref aIN, .int (bI on), .ref aOp, .int oP, .int oA, .int (nI tk), .ref aRw, .ref aGn]))] (S := Unit) (fun r _ => r = (bif on then oA else -1)) (fun _ => [(m0, .inr (6, [.int (nI P), .ref aV, .ref aB, .int (nI nk), .ref aRS, .ref aRT, .int (nI T.2.2.2.2.2.2), .ref aO, .ref aA, .ref aBt, .ref aD, .ref aT, .int (nI T.2.2.2.2.2.1), .ref aS, .int (nI nr), .ref aR, .int (nI ns), .ref aE, .int (bI fr), .ref aK, .ref aIV, .ref aIN, .int (bI on), .ref aOp, .int oP, .int oA, .int (nI tk), .ref aRw, .ref aGn]))]) 0 0 := by
  refine metI (by decide) (Nat.le_of_ble_eq_true rfl) ?_
  intro p e s m below meth c A ls hB hl
  obtain ⟨hx, hb, hr, hml, hown, hlk, hin, hg, hA, hD, hP, hE⟩ := hB
  have hS : va_S A s.heap s.heap [] := va_S.rf
  have hl : lv_has ls 1 [(0, .ref m0)] := hl
  refine lv_aload_n hx hb d_Mo_left_0 rfl (lv_at hl 0 rfl) ?_
  refine va_get (D := X.1) (ci := 6) (v := .int (bI on)) (C := R_Mo) (T := F_Mo) (N := 29) hx hb hg in_Mo hown hE.1 hP 0 rfl rfl 22 (by decide) (hg _ m_497) (fun _ h9 => h9) rfl d_Mo_left_1 ?_
  refine lv_if_eq (tgt := 14) hx hb d_Mo_left_4 (by decide) (fun hc4 => ?_) (fun hc4 => ?_)
  · rw [bI_z] at hc4
    refine lv_iconst (v := (-1)) hx hb d_Mo_left_14 (by decide) ?_
    exact retI (u := ()) hx hb hr hlk hP hD hS (by rw [hc4]; rfl) d_Mo_left_15
  · rw [bI_z] at hc4
    refine lv_aload_n hx hb d_Mo_left_7 rfl (lv_at hl 0 rfl) ?_
    refine va_get (D := X.1) (ci := 6) (v := .int oA) (C := R_Mo) (T := F_Mo) (N := 29) hx hb hg in_Mo hown hE.1 hP 0 rfl rfl 25 (by decide) (hg _ m_500) (fun _ h9 => h9) rfl d_Mo_left_8 ?_
    refine lv_goto (tgt := 15) hx hb d_Mo_left_11 (by decide) ?_
    exact retI (u := ()) hx hb hr hlk hP hD hS (by rw [ts_nf hc4]; rfl) d_Mo_left_15
set_option maxHeartbeats 4000000 in
set_option maxRecDepth 100000 in
theorem k_Mo_row (l : Launch) (X : Cx) (m0 aV aB aRS aRT aO aA aBt aD aT aS aR aE aK aIV aIN aOp aRw aGn : Nat) (P nk nr ns : Nat) (oP : Int32) (tk : Nat) (oA : Int32) (T : TS) (fr on : Bool) (htk : tk ≤ 520) (rws : Nat → Nat) (x : Int32) : CtI l X (TY X) y_Mo_row cw_Mo_row ({ frames := 1, cells := 0, slots := 0, locals := 21 } : Room) [.ref m0, .int x] [(m0, .inr (6, [.int (nI P), .ref aV, .ref aB, .int (nI nk), .ref aRS, .ref aRT, .int (nI T.2.2.2.2.2.2), .ref aO, .ref aA, .ref aBt, .ref aD, .ref aT, .int (nI T.2.2.2.2.2.1), .ref aS, .int (nI nr), .ref aR, .int (nI ns), .ref aE, .int (bI fr), .ref aK, .ref aIV, .ref aIN, .int (bI on), .ref aOp, .int oP, .int oA, .int (nI tk), .ref aRw, .ref aGn])), (aRw, .inl (X.2 4, 528, .inl (ia rws)))] (S := Unit) (fun r _ => r = (bif itB on tk x then nI (rws x.toNatClampNeg) else -1)) (fun _ => [(m0, .inr (6, [.int (nI P), .ref aV, .ref aB, .int (nI nk), .ref aRS, .ref aRT, .int (nI T.2.2.2.2.2.2), .ref aO, .ref aA, .ref aBt, .ref aD, .ref aT, .int (nI T.2.2.2.2.2.1), .ref aS, .int (nI nr), .ref aR, .int (nI ns), .ref aE, .int (bI fr), .ref aK, .ref aIV, .ref aIN, .int (bI on), .ref aOp, .int oP, .int oA, .int (nI tk), .ref aRw, .ref aGn])), (aRw, .inl (X.2 4, 528, .inl (ia rws)))]) 0 0 := by
  refine metI (by decide) (Nat.le_of_ble_eq_true rfl) ?_
  intro p e s m below meth c A ls hB hl
  obtain ⟨hx, hb, hr, hml, hown, hlk, hin, hg, hA, hD, hP, hE⟩ := hB
  have hS : va_S A s.heap s.heap [] := va_S.rf
  have hl : lv_has ls 2 [(0, .ref m0), (1, .int x)] := hl
  refine lv_aload_n hx hb d_Mo_row_0 rfl (lv_at hl 0 rfl) ?_
  refine lv_iload_n hx hb d_Mo_row_1 rfl (lv_at hl 1 rfl) ?_
  refine clVI (n := 1) (As := [.int x]) (rest := []) (wc := [(m0, .inr (6, [.int (nI P), .ref aV, .ref aB, .int (nI nk), .ref aRS, .ref aRT, .int (nI T.2.2.2.2.2.2), .ref aO, .ref aA, .ref aBt, .ref aD, .ref aT, .int (nI T.2.2.2.2.2.1), .ref aS, .int (nI nr), .ref aR, .int (nI ns), .ref aE, .int (bI fr), .ref aK, .ref aIV, .ref aIN, .int (bI on), .ref aOp, .int oP, .int oA, .int (nI tk), .ref aRw, .ref aGn]))]) (wr := [(aRw, .inl (X.2 4, 528, .inl (ia rws)))]) hx hb hml hown hg hE hA hP hD hS (k_Mo_noRow l X m0 aV aB aRS aRT aO aA aBt aD aT aS aR aE aK aIV aIN aOp aRw aGn P nk nr ns oP tk oA T fr on x) (gcons m_662 (gcons m_664 (gcons ms_Mo_noRow (gcons m_8 (gcons m_665 gG))))) (by decide +kernel) [0] [1] rfl rfl (by decide) (by decide) (by decide) 0 rfl rfl rfl hl.1 (Nat.le_of_ble_eq_true rfl) rfl d_Mo_row_2 ⟨rfl, rfl, Nat.le_of_ble_eq_true rfl, Nat.le_of_ble_eq_true rfl⟩ (⟨Nat.le_of_ble_eq_true rfl, Nat.le_of_ble_eq_true rfl⟩) (fun r2 u2 H locs hq2 hP hD hS => ?_)
  have hq2 : r2 = bI (!(itB on tk x)) := hq2
  subst hq2
  have hP := hP.sub (ws' := [(m0, .inr (6, [.int (nI P), .ref aV, .ref aB, .int (nI nk), .ref aRS, .ref aRT, .int (nI T.2.2.2.2.2.2), .ref aO, .ref aA, .ref aBt, .ref aD, .ref aT, .int (nI T.2.2.2.2.2.1), .ref aS, .int (nI nr), .ref aR, .int (nI ns), .ref aE, .int (bI fr), .ref aK, .ref aIV, .ref aIN, .int (bI on), .ref aOp, .int oP, .int oA, .int (nI tk), .ref aRw, .ref aGn])), (aRw, .inl (X.2 4, 528, .inl (ia rws)))]) [1, 0] rfl
  have hD := hD.sub (ws' := [(m0, .inr (6, [.int (nI P), .ref aV, .ref aB, .int (nI nk), .ref aRS, .ref aRT, .int (nI T.2.2.2.2.2.2), .ref aO, .ref aA, .ref aBt, .ref aD, .ref aT, .int (nI T.2.2.2.2.2.1), .ref aS, .int (nI nr), .ref aR, .int (nI ns), .ref aE, .int (bI fr), .ref aK, .ref aIV, .ref aIN, .int (bI on), .ref aOp, .int oP, .int oA, .int (nI tk), .ref aRw, .ref aGn])), (aRw, .inl (X.2 4, 528, .inl (ia rws)))]) [1, 0] (by decide) rfl
  refine lv_if_eq (tgt := 12) hx hb d_Mo_row_5 (by decide) (fun hc5 => ?_) (fun hc5 => ?_)
  · rw [bI_z] at hc5
    refine lv_aload_n hx hb d_Mo_row_12 rfl (lv_at hl 0 rfl) ?_
    refine va_get (D := X.1) (ci := 6) (v := .ref aRw) (C := R_Mo) (T := F_Mo) (N := 29) hx hb hg in_Mo hown hE.1 hP 0 rfl rfl 27 (by decide) (hg _ m_502) (fun _ h9 => h9) rfl d_Mo_row_13 ?_
    refine lv_iload_n hx hb d_Mo_row_16 rfl (lv_at hl 1 rfl) ?_
    have hit := nt_f hc5
    obtain ⟨i, hi, rfl⟩ := it_of (on := on) (tk := tk) (x := x) (by omega) (fun z9 => by rw [z9] at hit; cases hit)
    refine va_sald hx hb hE.1 hP 1 4 rfl rfl (vp_in_nI (by omega) (by decide)) d_Mo_row_17 ?_
    refine topI (y := (ia rws) i) (by rw [nI_clamp (by omega)]) ?_
    refine topI (y := nI (rws i)) (rfl) ?_
    exact retI (u := ()) hx hb hr hlk hP hD hS (by rw [hit, nI_clamp (by omega)]; rfl) d_Mo_row_18
  · rw [bI_z] at hc5
    refine lv_iconst (v := (-1)) hx hb d_Mo_row_8 (by decide) ?_
    refine lv_goto (tgt := 18) hx hb d_Mo_row_9 (by decide) ?_
    exact retI (u := ()) hx hb hr hlk hP hD hS (by rw [nt_t hc5]; rfl) d_Mo_row_18
set_option maxHeartbeats 4000000 in
set_option maxRecDepth 100000 in
theorem k_Mo_gained (l : Launch) (X : Cx) (m0 aV aB aRS aRT aO aA aBt aD aT aS aR aE aK aIV aIN aOp aRw aGn : Nat) (P nk nr ns : Nat) (oP : Int32) (tk : Nat) (oA : Int32) (T : TS) (fr on : Bool) (htk : tk ≤ 520) (gds : Nat → Nat) (x : Int32) : CtI l X (TY X) y_Mo_gained cw_Mo_gained ({ frames := 1, cells := 0, slots := 0, locals := 21 } : Room) [.ref m0, .int x] [(m0, .inr (6, [.int (nI P), .ref aV, .ref aB, .int (nI nk), .ref aRS, .ref aRT, .int (nI T.2.2.2.2.2.2), .ref aO, .ref aA, .ref aBt, .ref aD, .ref aT, .int (nI T.2.2.2.2.2.1), .ref aS, .int (nI nr), .ref aR, .int (nI ns), .ref aE, .int (bI fr), .ref aK, .ref aIV, .ref aIN, .int (bI on), .ref aOp, .int oP, .int oA, .int (nI tk), .ref aRw, .ref aGn])), (aGn, .inl (X.2 4, 528, .inl (ia gds)))] (S := Unit) (fun r _ => r = (bif itB on tk x then nI (gds x.toNatClampNeg) else -1)) (fun _ => [(m0, .inr (6, [.int (nI P), .ref aV, .ref aB, .int (nI nk), .ref aRS, .ref aRT, .int (nI T.2.2.2.2.2.2), .ref aO, .ref aA, .ref aBt, .ref aD, .ref aT, .int (nI T.2.2.2.2.2.1), .ref aS, .int (nI nr), .ref aR, .int (nI ns), .ref aE, .int (bI fr), .ref aK, .ref aIV, .ref aIN, .int (bI on), .ref aOp, .int oP, .int oA, .int (nI tk), .ref aRw, .ref aGn])), (aGn, .inl (X.2 4, 528, .inl (ia gds)))]) 0 0 := by
  refine metI (by decide) (Nat.le_of_ble_eq_true rfl) ?_
  intro p e s m below meth c A ls hB hl
  obtain ⟨hx, hb, hr, hml, hown, hlk, hin, hg, hA, hD, hP, hE⟩ := hB
  have hS : va_S A s.heap s.heap [] := va_S.rf
  have hl : lv_has ls 2 [(0, .ref m0), (1, .int x)] := hl
  refine lv_aload_n hx hb d_Mo_gained_0 rfl (lv_at hl 0 rfl) ?_
  refine lv_iload_n hx hb d_Mo_gained_1 rfl (lv_at hl 1 rfl) ?_
  refine clVI (n := 1) (As := [.int x]) (rest := []) (wc := [(m0, .inr (6, [.int (nI P), .ref aV, .ref aB, .int (nI nk), .ref aRS, .ref aRT, .int (nI T.2.2.2.2.2.2), .ref aO, .ref aA, .ref aBt, .ref aD, .ref aT, .int (nI T.2.2.2.2.2.1), .ref aS, .int (nI nr), .ref aR, .int (nI ns), .ref aE, .int (bI fr), .ref aK, .ref aIV, .ref aIN, .int (bI on), .ref aOp, .int oP, .int oA, .int (nI tk), .ref aRw, .ref aGn]))]) (wr := [(aGn, .inl (X.2 4, 528, .inl (ia gds)))]) hx hb hml hown hg hE hA hP hD hS (k_Mo_noRow l X m0 aV aB aRS aRT aO aA aBt aD aT aS aR aE aK aIV aIN aOp aRw aGn P nk nr ns oP tk oA T fr on x) (gcons m_662 (gcons m_664 (gcons ms_Mo_noRow (gcons m_8 (gcons m_665 gG))))) (by decide +kernel) [0] [1] rfl rfl (by decide) (by decide) (by decide) 0 rfl rfl rfl hl.1 (Nat.le_of_ble_eq_true rfl) rfl d_Mo_gained_2 ⟨rfl, rfl, Nat.le_of_ble_eq_true rfl, Nat.le_of_ble_eq_true rfl⟩ (⟨Nat.le_of_ble_eq_true rfl, Nat.le_of_ble_eq_true rfl⟩) (fun r2 u2 H locs hq2 hP hD hS => ?_)
  have hq2 : r2 = bI (!(itB on tk x)) := hq2
  subst hq2
  have hP := hP.sub (ws' := [(m0, .inr (6, [.int (nI P), .ref aV, .ref aB, .int (nI nk), .ref aRS, .ref aRT, .int (nI T.2.2.2.2.2.2), .ref aO, .ref aA, .ref aBt, .ref aD, .ref aT, .int (nI T.2.2.2.2.2.1), .ref aS, .int (nI nr), .ref aR, .int (nI ns), .ref aE, .int (bI fr), .ref aK, .ref aIV, .ref aIN, .int (bI on), .ref aOp, .int oP, .int oA, .int (nI tk), .ref aRw, .ref aGn])), (aGn, .inl (X.2 4, 528, .inl (ia gds)))]) [1, 0] rfl
  have hD := hD.sub (ws' := [(m0, .inr (6, [.int (nI P), .ref aV, .ref aB, .int (nI nk), .ref aRS, .ref aRT, .int (nI T.2.2.2.2.2.2), .ref aO, .ref aA, .ref aBt, .ref aD, .ref aT, .int (nI T.2.2.2.2.2.1), .ref aS, .int (nI nr), .ref aR, .int (nI ns), .ref aE, .int (bI fr), .ref aK, .ref aIV, .ref aIN, .int (bI on), .ref aOp, .int oP, .int oA, .int (nI tk), .ref aRw, .ref aGn])), (aGn, .inl (X.2 4, 528, .inl (ia gds)))]) [1, 0] (by decide) rfl
  refine lv_if_eq (tgt := 12) hx hb d_Mo_gained_5 (by decide) (fun hc5 => ?_) (fun hc5 => ?_)
  · rw [bI_z] at hc5
    refine lv_aload_n hx hb d_Mo_gained_12 rfl (lv_at hl 0 rfl) ?_
    refine va_get (D := X.1) (ci := 6) (v := .ref aGn) (C := R_Mo) (T := F_Mo) (N := 29) hx hb hg in_Mo hown hE.1 hP 0 rfl rfl 28 (by decide) (hg _ m_503) (fun _ h9 => h9) rfl d_Mo_gained_13 ?_
    refine lv_iload_n hx hb d_Mo_gained_16 rfl (lv_at hl 1 rfl) ?_
    have hit := nt_f hc5
    obtain ⟨i, hi, rfl⟩ := it_of (on := on) (tk := tk) (x := x) (by omega) (fun z9 => by rw [z9] at hit; cases hit)
    refine va_sald hx hb hE.1 hP 1 4 rfl rfl (vp_in_nI (by omega) (by decide)) d_Mo_gained_17 ?_
    refine topI (y := (ia gds) i) (by rw [nI_clamp (by omega)]) ?_
    refine topI (y := nI (gds i)) (rfl) ?_
    exact retI (u := ()) hx hb hr hlk hP hD hS (by rw [hit, nI_clamp (by omega)]; rfl) d_Mo_gained_18
  · rw [bI_z] at hc5
    refine lv_iconst (v := (-1)) hx hb d_Mo_gained_8 (by decide) ?_
    refine lv_goto (tgt := 18) hx hb d_Mo_gained_9 (by decide) ?_
    exact retI (u := ()) hx hb hr hlk hP hD hS (by rw [nt_t hc5]; rfl) d_Mo_gained_18
set_option maxHeartbeats 4000000 in
set_option maxRecDepth 100000 in
theorem k_Mo_seed (l : Launch) (X : Cx) (m0 aV aB aRS aRT aO aA aBt aD aT aS aR aE aK aIV aIN aOp aRw aGn : Nat) (P nk nr ns : Nat) (oP : Int32) (tk : Nat) (oA : Int32) (T : TS) (fr on : Bool) (hns : ns ≤ 8) (se : Nat → Int32) (x : Int32) : CtI l X (TY X) y_Mo_seed cw_Mo_seed ({ frames := 0, cells := 0, slots := 0, locals := 0 } : Room) [.ref m0, .int x] [(m0, .inr (6, [.int (nI P), .ref aV, .ref aB, .int (nI nk), .ref aRS, .ref aRT, .int (nI T.2.2.2.2.2.2), .ref aO, .ref aA, .ref aBt, .ref aD, .ref aT, .int (nI T.2.2.2.2.2.1), .ref aS, .int (nI nr), .ref aR, .int (nI ns), .ref aE, .int (bI fr), .ref aK, .ref aIV, .ref aIN, .int (bI on), .ref aOp, .int oP, .int oA, .int (nI tk), .ref aRw, .ref aGn])), (aE, .inl (X.2 0, 8, .inl se))] (S := Nat × (Nat → Int32)) (fun r u => r = sdA on ns ∧ u.1 = (bif sdO on ns then ns + 1 else ns) ∧ u.2 = (bif sdO on ns then upd se ns x else se)) (fun u => [(m0, .inr (6, [.int (nI P), .ref aV, .ref aB, .int (nI nk), .ref aRS, .ref aRT, .int (nI T.2.2.2.2.2.2), .ref aO, .ref aA, .ref aBt, .ref aD, .ref aT, .int (nI T.2.2.2.2.2.1), .ref aS, .int (nI nr), .ref aR, .int (nI u.1), .ref aE, .int (bI fr), .ref aK, .ref aIV, .ref aIN, .int (bI on), .ref aOp, .int oP, .int oA, .int (nI tk), .ref aRw, .ref aGn])), (aE, .inl (X.2 0, 8, .inl u.2))]) 0 0 := by
  refine metI (by decide) (Nat.le_of_ble_eq_true rfl) ?_
  intro p e s m below meth c A ls hB hl
  obtain ⟨hx, hb, hr, hml, hown, hlk, hin, hg, hA, hD, hP, hE⟩ := hB
  have hS : va_S A s.heap s.heap [] := va_S.rf
  have hl : lv_has ls 2 [(0, .ref m0), (1, .int x)] := hl
  refine lv_aload_n hx hb d_Mo_seed_0 rfl (lv_at hl 0 rfl) ?_
  refine va_get (D := X.1) (ci := 6) (v := .int (bI on)) (C := R_Mo) (T := F_Mo) (N := 29) hx hb hg in_Mo hown hE.1 hP 0 rfl rfl 22 (by decide) (hg _ m_497) (fun _ h9 => h9) rfl d_Mo_seed_1 ?_
  refine lv_if_eq (tgt := 9) hx hb d_Mo_seed_4 (by decide) (fun hc4 => ?_) (fun hc4 => ?_)
  · rw [bI_z] at hc4
    refine lv_aload_n hx hb d_Mo_seed_9 rfl (lv_at hl 0 rfl) ?_
    refine va_get (D := X.1) (ci := 6) (v := .int (nI ns)) (C := R_Mo) (T := F_Mo) (N := 29) hx hb hg in_Mo hown hE.1 hP 0 rfl rfl 16 (by decide) (hg _ m_491) (fun _ h9 => h9) rfl d_Mo_seed_10 ?_
    refine lv_bipush (v := nI 8) hx hb d_Mo_seed_13 (by decide) ?_
    refine lv_icmp_ne (tgt := 21) hx hb d_Mo_seed_15 (by decide) (fun hc15 => ?_) (fun hc15 => ?_)
    · rw [nI_eq (by omega) (by omega)] at hc15
      refine lv_aload_n hx hb d_Mo_seed_21 rfl (lv_at hl 0 rfl) ?_
      refine va_get (D := X.1) (ci := 6) (v := .ref aE) (C := R_Mo) (T := F_Mo) (N := 29) hx hb hg in_Mo hown hE.1 hP 0 rfl rfl 17 (by decide) (hg _ m_492) (fun _ h9 => h9) rfl d_Mo_seed_22 ?_
      refine lv_aload_n hx hb d_Mo_seed_25 rfl (lv_at hl 0 rfl) ?_
      refine va_get (D := X.1) (ci := 6) (v := .int (nI ns)) (C := R_Mo) (T := F_Mo) (N := 29) hx hb hg in_Mo hown hE.1 hP 0 rfl rfl 16 (by decide) (hg _ m_491) (fun _ h9 => h9) rfl d_Mo_seed_26 ?_
      refine lv_iload_n hx hb d_Mo_seed_29 rfl (lv_at hl 1 rfl) ?_
      refine va_iast hx hb hE.1 hP hD hS 1 0 rfl rfl (vp_in_nI (by omega) (by decide)) d_Mo_seed_30 (fun H locs hP hD hS => ?_)
      have hP : va_P X.1 classes [(m0, .inr (6, [.int (nI P), .ref aV, .ref aB, .int (nI nk), .ref aRS, .ref aRT, .int (nI T.2.2.2.2.2.2), .ref aO, .ref aA, .ref aBt, .ref aD, .ref aT, .int (nI T.2.2.2.2.2.1), .ref aS, .int (nI nr), .ref aR, .int (nI ns), .ref aE, .int (bI fr), .ref aK, .ref aIV, .ref aIN, .int (bI on), .ref aOp, .int oP, .int oA, .int (nI tk), .ref aRw, .ref aGn])), (aE, .inl (X.2 0, 8, .inl (upd se (nI ns).toNatClampNeg x)))] H := hP
      have hD : va_D A [(m0, .inr (6, [.int (nI P), .ref aV, .ref aB, .int (nI nk), .ref aRS, .ref aRT, .int (nI T.2.2.2.2.2.2), .ref aO, .ref aA, .ref aBt, .ref aD, .ref aT, .int (nI T.2.2.2.2.2.1), .ref aS, .int (nI nr), .ref aR, .int (nI ns), .ref aE, .int (bI fr), .ref aK, .ref aIV, .ref aIN, .int (bI on), .ref aOp, .int oP, .int oA, .int (nI tk), .ref aRw, .ref aGn])), (aE, .inl (X.2 0, 8, .inl (upd se (nI ns).toNatClampNeg x)))] := hD
      rw [nI_clamp (show ns < 2 ^ 31 by omega)] at hP hD
      refine lv_aload_n hx hb d_Mo_seed_31 rfl (lv_at hl 0 rfl) ?_
      refine lv_dup hx hb d_Mo_seed_32 rfl ?_
      refine va_get (D := X.1) (ci := 6) (v := .int (nI ns)) (C := R_Mo) (T := F_Mo) (N := 29) hx hb hg in_Mo hown hE.1 hP 0 rfl rfl 16 (by decide) (hg _ m_491) (fun _ h9 => h9) rfl d_Mo_seed_33 ?_
      refine lv_iconst (v := nI 1) hx hb d_Mo_seed_36 (by decide) ?_
      refine lv_iadd hx hb d_Mo_seed_37 ?_
      refine topI (nI_add _ _) ?_
      refine va_put (D := X.1) (ci := 6) (v := .int (nI (ns + 1))) (ty := .int) (C := R_Mo) (T := F_Mo) (N := 29) hx hb hg in_Mo t_Mo t_Mo_ok n_Mo hown hE.1 hP hD hS 0 rfl rfl 16 (by decide) (hg _ m_491) (fun _ h9 => h9) rfl (by decide +kernel) rfl rfl (Nat.le_of_ble_eq_true rfl) d_Mo_seed_38 (fun H locs hP hD hS => ?_)
      have hP : va_P X.1 classes [(m0, .inr (6, [.int (nI P), .ref aV, .ref aB, .int (nI nk), .ref aRS, .ref aRT, .int (nI T.2.2.2.2.2.2), .ref aO, .ref aA, .ref aBt, .ref aD, .ref aT, .int (nI T.2.2.2.2.2.1), .ref aS, .int (nI nr), .ref aR, .int (nI (ns + 1)), .ref aE, .int (bI fr), .ref aK, .ref aIV, .ref aIN, .int (bI on), .ref aOp, .int oP, .int oA, .int (nI tk), .ref aRw, .ref aGn])), (aE, .inl (X.2 0, 8, .inl (upd se ns x)))] H := hP
      have hD : va_D A [(m0, .inr (6, [.int (nI P), .ref aV, .ref aB, .int (nI nk), .ref aRS, .ref aRT, .int (nI T.2.2.2.2.2.2), .ref aO, .ref aA, .ref aBt, .ref aD, .ref aT, .int (nI T.2.2.2.2.2.1), .ref aS, .int (nI nr), .ref aR, .int (nI (ns + 1)), .ref aE, .int (bI fr), .ref aK, .ref aIV, .ref aIN, .int (bI on), .ref aOp, .int oP, .int oA, .int (nI tk), .ref aRw, .ref aGn])), (aE, .inl (X.2 0, 8, .inl (upd se ns x)))] := hD
      refine lv_aload_n hx hb d_Mo_seed_41 rfl (lv_at hl 0 rfl) ?_
      refine va_get (D := X.1) (ci := 6) (v := .int (nI (ns + 1))) (C := R_Mo) (T := F_Mo) (N := 29) hx hb hg in_Mo hown hE.1 hP 0 rfl rfl 16 (by decide) (hg _ m_491) (fun _ h9 => h9) rfl d_Mo_seed_42 ?_
      exact retI (u := (ns + 1, upd se ns x)) hx hb hr hlk hP hD hS (by unfold sdA sdO; rw [hc4, beq_false_of_ne hc15]; exact ⟨rfl, rfl, rfl⟩) d_Mo_seed_45
    · rw [nI_eq (by omega) (by omega)] at hc15
      refine lv_bipush (v := (-2)) hx hb d_Mo_seed_18 (by decide) ?_
      exact retI (u := (ns, se)) hx hb hr hlk hP hD hS (by unfold sdA sdO; rw [hc4, hc15]; exact ⟨rfl, rfl, rfl⟩) d_Mo_seed_20
  · rw [bI_z] at hc4
    refine lv_iconst (v := (-1)) hx hb d_Mo_seed_7 (by decide) ?_
    exact retI (u := (ns, se)) hx hb hr hlk hP hD hS (by unfold sdA sdO; rw [ts_nf hc4]; exact ⟨rfl, rfl, rfl⟩) d_Mo_seed_8
set_option maxHeartbeats 4000000 in
set_option maxRecDepth 100000 in
theorem k_Mo_parameter (l : Launch) (X : Cx) (m0 aV aB aRS aRT aO aA aBt aD aT aS aR aE aK aIV aIN aOp aRw aGn : Nat) (P nk nr ns : Nat) (oP : Int32) (tk : Nat) (oA : Int32) (T : TS) (fr on : Bool) (vl : Nat → Nat) (hP6 : P ≤ 6) (x : Int32) : CtI l X (TY X) y_Mo_parameter cw_Mo_parameter ({ frames := 0, cells := 0, slots := 0, locals := 0 } : Room) [.ref m0, .int x] [(m0, .inr (6, [.int (nI P), .ref aV, .ref aB, .int (nI nk), .ref aRS, .ref aRT, .int (nI T.2.2.2.2.2.2), .ref aO, .ref aA, .ref aBt, .ref aD, .ref aT, .int (nI T.2.2.2.2.2.1), .ref aS, .int (nI nr), .ref aR, .int (nI ns), .ref aE, .int (bI fr), .ref aK, .ref aIV, .ref aIN, .int (bI on), .ref aOp, .int oP, .int oA, .int (nI tk), .ref aRw, .ref aGn])), (aV, .inl (X.2 0, 6, .inl (ia (rv P vl))))] (S := Nat × (Nat → Nat) × Bool) (fun r u => r = pmA on P x ∧ u.1 = (bif pmO on P x then P + 1 else P) ∧ u.2.1 = (bif pmO on P x then upN vl P x.toNatClampNeg else vl) ∧ u.2.2 = (bif pmO on P x then false else fr)) (fun u => [(m0, .inr (6, [.int (nI u.1), .ref aV, .ref aB, .int (nI nk), .ref aRS, .ref aRT, .int (nI T.2.2.2.2.2.2), .ref aO, .ref aA, .ref aBt, .ref aD, .ref aT, .int (nI T.2.2.2.2.2.1), .ref aS, .int (nI nr), .ref aR, .int (nI ns), .ref aE, .int (bI u.2.2), .ref aK, .ref aIV, .ref aIN, .int (bI on), .ref aOp, .int oP, .int oA, .int (nI tk), .ref aRw, .ref aGn])), (aV, .inl (X.2 0, 6, .inl (ia (rv u.1 u.2.1))))]) 0 0 := by
  refine metI (by decide) (Nat.le_of_ble_eq_true rfl) ?_
  intro p e s m below meth c A ls hB hl
  obtain ⟨hx, hb, hr, hml, hown, hlk, hin, hg, hA, hD, hP, hE⟩ := hB
  have hS : va_S A s.heap s.heap [] := va_S.rf
  have hl : lv_has ls 2 [(0, .ref m0), (1, .int x)] := hl
  refine lv_aload_n hx hb d_Mo_parameter_0 rfl (lv_at hl 0 rfl) ?_
  refine va_get (D := X.1) (ci := 6) (v := .int (bI on)) (C := R_Mo) (T := F_Mo) (N := 29) hx hb hg in_Mo hown hE.1 hP 0 rfl rfl 22 (by decide) (hg _ m_497) (fun _ h9 => h9) rfl d_Mo_parameter_1 ?_
  refine lv_if_eq (tgt := 9) hx hb d_Mo_parameter_4 (by decide) (fun hc4 => ?_) (fun hc4 => ?_)
  · rw [bI_z] at hc4
    refine lv_iload_n hx hb d_Mo_parameter_9 rfl (lv_at hl 1 rfl) ?_
    refine lv_iconst (v := nI 2) hx hb d_Mo_parameter_10 (by decide) ?_
    refine lv_icmp_lt (tgt := 28) hx hb d_Mo_parameter_11 (by decide) (fun hc11 => ?_) (fun hc11 => ?_)
    · refine lv_bipush (v := (-2)) hx hb d_Mo_parameter_28 (by decide) ?_
      exact retI (u := (P, vl, fr)) hx hb hr hlk hP hD hS (by first | exact ⟨pm_no hc4 (pmC_a hc11), by rw [pmO_c (pmC_a hc11)]; rfl, by rw [pmO_c (pmC_a hc11)]; rfl, by rw [pmO_c (pmC_a hc11)]; rfl⟩ | exact ⟨pm_no hc4 (pmC_b hc16), by rw [pmO_c (pmC_b hc16)]; rfl, by rw [pmO_c (pmC_b hc16)]; rfl, by rw [pmO_c (pmC_b hc16)]; rfl⟩ | exact ⟨pm_no hc4 (pmC_c hc25), by rw [pmO_c (pmC_c hc25)]; rfl, by rw [pmO_c (pmC_c hc25)]; rfl, by rw [pmO_c (pmC_c hc25)]; rfl⟩) d_Mo_parameter_30
    · refine lv_iload_n hx hb d_Mo_parameter_14 rfl (lv_at hl 1 rfl) ?_
      refine lv_iconst (v := nI 4) hx hb d_Mo_parameter_15 (by decide) ?_
      refine lv_icmp_gt (tgt := 28) hx hb d_Mo_parameter_16 (by decide) (fun hc16 => ?_) (fun hc16 => ?_)
      · refine lv_bipush (v := (-2)) hx hb d_Mo_parameter_28 (by decide) ?_
        exact retI (u := (P, vl, fr)) hx hb hr hlk hP hD hS (by first | exact ⟨pm_no hc4 (pmC_a hc11), by rw [pmO_c (pmC_a hc11)]; rfl, by rw [pmO_c (pmC_a hc11)]; rfl, by rw [pmO_c (pmC_a hc11)]; rfl⟩ | exact ⟨pm_no hc4 (pmC_b hc16), by rw [pmO_c (pmC_b hc16)]; rfl, by rw [pmO_c (pmC_b hc16)]; rfl, by rw [pmO_c (pmC_b hc16)]; rfl⟩ | exact ⟨pm_no hc4 (pmC_c hc25), by rw [pmO_c (pmC_c hc25)]; rfl, by rw [pmO_c (pmC_c hc25)]; rfl, by rw [pmO_c (pmC_c hc25)]; rfl⟩) d_Mo_parameter_30
      · refine lv_aload_n hx hb d_Mo_parameter_19 rfl (lv_at hl 0 rfl) ?_
        refine va_get (D := X.1) (ci := 6) (v := .int (nI P)) (C := R_Mo) (T := F_Mo) (N := 29) hx hb hg in_Mo hown hE.1 hP 0 rfl rfl 0 (by decide) (hg _ m_475) (fun _ h9 => h9) rfl d_Mo_parameter_20 ?_
        refine lv_bipush (v := nI 6) hx hb d_Mo_parameter_23 (by decide) ?_
        refine lv_icmp_ne (tgt := 31) hx hb d_Mo_parameter_25 (by decide) (fun hc25 => ?_) (fun hc25 => ?_)
        · rw [nI_eq (by omega) (by omega)] at hc25
          refine lv_aload_n hx hb d_Mo_parameter_31 rfl (lv_at hl 0 rfl) ?_
          refine va_get (D := X.1) (ci := 6) (v := .ref aV) (C := R_Mo) (T := F_Mo) (N := 29) hx hb hg in_Mo hown hE.1 hP 0 rfl rfl 1 (by decide) (hg _ m_476) (fun _ h9 => h9) rfl d_Mo_parameter_32 ?_
          refine lv_aload_n hx hb d_Mo_parameter_35 rfl (lv_at hl 0 rfl) ?_
          refine va_get (D := X.1) (ci := 6) (v := .int (nI P)) (C := R_Mo) (T := F_Mo) (N := 29) hx hb hg in_Mo hown hE.1 hP 0 rfl rfl 0 (by decide) (hg _ m_475) (fun _ h9 => h9) rfl d_Mo_parameter_36 ?_
          have hpc := pmC_1 hc11 hc16 hc25
          obtain ⟨v, hv2, hv4, rfl⟩ := x_mid (by decide) (by decide) hc11 hc16
          refine lv_iload_n hx hb d_Mo_parameter_39 rfl (lv_at hl 1 rfl) ?_
          refine va_iast hx hb hE.1 hP hD hS 1 0 rfl rfl (vp_in_nI (by omega) (by decide)) d_Mo_parameter_40 (fun H locs hP hD hS => ?_)
          have hP : va_P X.1 classes [(m0, .inr (6, [.int (nI P), .ref aV, .ref aB, .int (nI nk), .ref aRS, .ref aRT, .int (nI T.2.2.2.2.2.2), .ref aO, .ref aA, .ref aBt, .ref aD, .ref aT, .int (nI T.2.2.2.2.2.1), .ref aS, .int (nI nr), .ref aR, .int (nI ns), .ref aE, .int (bI fr), .ref aK, .ref aIV, .ref aIN, .int (bI on), .ref aOp, .int oP, .int oA, .int (nI tk), .ref aRw, .ref aGn])), (aV, .inl (X.2 0, 6, .inl (upd (ia (rv P vl)) (nI P).toNatClampNeg (nI v))))] H := hP
          have hD : va_D A [(m0, .inr (6, [.int (nI P), .ref aV, .ref aB, .int (nI nk), .ref aRS, .ref aRT, .int (nI T.2.2.2.2.2.2), .ref aO, .ref aA, .ref aBt, .ref aD, .ref aT, .int (nI T.2.2.2.2.2.1), .ref aS, .int (nI nr), .ref aR, .int (nI ns), .ref aE, .int (bI fr), .ref aK, .ref aIV, .ref aIN, .int (bI on), .ref aOp, .int oP, .int oA, .int (nI tk), .ref aRw, .ref aGn])), (aV, .inl (X.2 0, 6, .inl (upd (ia (rv P vl)) (nI P).toNatClampNeg (nI v))))] := hD
          rw [nI_clamp (show P < 2 ^ 31 by omega)] at hP hD
          have e9 : upd (ia (rv P vl)) P (nI v) = ia (rv (P + 1) (upN vl P v)) := (upd_ia _ _ _).trans (congrArg ia rv_up)
          rw [e9] at hP hD
          clear e9
          refine lv_aload_n hx hb d_Mo_parameter_41 rfl (lv_at hl 0 rfl) ?_
          refine lv_dup hx hb d_Mo_parameter_42 rfl ?_
          refine va_get (D := X.1) (ci := 6) (v := .int (nI P)) (C := R_Mo) (T := F_Mo) (N := 29) hx hb hg in_Mo hown hE.1 hP 0 rfl rfl 0 (by decide) (hg _ m_475) (fun _ h9 => h9) rfl d_Mo_parameter_43 ?_
          refine lv_iconst (v := nI 1) hx hb d_Mo_parameter_46 (by decide) ?_
          refine lv_iadd hx hb d_Mo_parameter_47 ?_
          refine topI (nI_add _ _) ?_
          refine va_put (D := X.1) (ci := 6) (v := .int (nI (P + 1))) (ty := .int) (C := R_Mo) (T := F_Mo) (N := 29) hx hb hg in_Mo t_Mo t_Mo_ok n_Mo hown hE.1 hP hD hS 0 rfl rfl 0 (by decide) (hg _ m_475) (fun _ h9 => h9) rfl (by decide +kernel) rfl rfl (Nat.le_of_ble_eq_true rfl) d_Mo_parameter_48 (fun H locs hP hD hS => ?_)
          have hP : va_P X.1 classes [(m0, .inr (6, [.int (nI (P + 1)), .ref aV, .ref aB, .int (nI nk), .ref aRS, .ref aRT, .int (nI T.2.2.2.2.2.2), .ref aO, .ref aA, .ref aBt, .ref aD, .ref aT, .int (nI T.2.2.2.2.2.1), .ref aS, .int (nI nr), .ref aR, .int (nI ns), .ref aE, .int (bI fr), .ref aK, .ref aIV, .ref aIN, .int (bI on), .ref aOp, .int oP, .int oA, .int (nI tk), .ref aRw, .ref aGn])), (aV, .inl (X.2 0, 6, .inl (ia (rv (P + 1) (upN vl P v)))))] H := hP
          have hD : va_D A [(m0, .inr (6, [.int (nI (P + 1)), .ref aV, .ref aB, .int (nI nk), .ref aRS, .ref aRT, .int (nI T.2.2.2.2.2.2), .ref aO, .ref aA, .ref aBt, .ref aD, .ref aT, .int (nI T.2.2.2.2.2.1), .ref aS, .int (nI nr), .ref aR, .int (nI ns), .ref aE, .int (bI fr), .ref aK, .ref aIV, .ref aIN, .int (bI on), .ref aOp, .int oP, .int oA, .int (nI tk), .ref aRw, .ref aGn])), (aV, .inl (X.2 0, 6, .inl (ia (rv (P + 1) (upN vl P v)))))] := hD
          refine lv_aload_n hx hb d_Mo_parameter_51 rfl (lv_at hl 0 rfl) ?_
          refine lv_iconst (v := nI 0) hx hb d_Mo_parameter_52 (by decide) ?_
          refine va_put (D := X.1) (ci := 6) (v := .int (nI 0)) (ty := .boolean) (C := R_Mo) (T := F_Mo) (N := 29) hx hb hg in_Mo t_Mo t_Mo_ok n_Mo hown hE.1 hP hD hS 0 rfl rfl 18 (by decide) (hg _ m_493) (fun _ h9 => h9) rfl (by decide +kernel) rfl rfl (Nat.le_of_ble_eq_true rfl) d_Mo_parameter_53 (fun H locs hP hD hS => ?_)
          have hP : va_P X.1 classes [(m0, .inr (6, [.int (nI (P + 1)), .ref aV, .ref aB, .int (nI nk), .ref aRS, .ref aRT, .int (nI T.2.2.2.2.2.2), .ref aO, .ref aA, .ref aBt, .ref aD, .ref aT, .int (nI T.2.2.2.2.2.1), .ref aS, .int (nI nr), .ref aR, .int (nI ns), .ref aE, .int (nI 0), .ref aK, .ref aIV, .ref aIN, .int (bI on), .ref aOp, .int oP, .int oA, .int (nI tk), .ref aRw, .ref aGn])), (aV, .inl (X.2 0, 6, .inl (ia (rv (P + 1) (upN vl P v)))))] H := hP
          have hD : va_D A [(m0, .inr (6, [.int (nI (P + 1)), .ref aV, .ref aB, .int (nI nk), .ref aRS, .ref aRT, .int (nI T.2.2.2.2.2.2), .ref aO, .ref aA, .ref aBt, .ref aD, .ref aT, .int (nI T.2.2.2.2.2.1), .ref aS, .int (nI nr), .ref aR, .int (nI ns), .ref aE, .int (nI 0), .ref aK, .ref aIV, .ref aIN, .int (bI on), .ref aOp, .int oP, .int oA, .int (nI tk), .ref aRw, .ref aGn])), (aV, .inl (X.2 0, 6, .inl (ia (rv (P + 1) (upN vl P v)))))] := hD
          refine lv_aload_n hx hb d_Mo_parameter_56 rfl (lv_at hl 0 rfl) ?_
          refine va_get (D := X.1) (ci := 6) (v := .int (nI (P + 1))) (C := R_Mo) (T := F_Mo) (N := 29) hx hb hg in_Mo hown hE.1 hP 0 rfl rfl 0 (by decide) (hg _ m_475) (fun _ h9 => h9) rfl d_Mo_parameter_57 ?_
          refine lv_iconst (v := nI 1) hx hb d_Mo_parameter_60 (by decide) ?_
          refine lv_isub hx hb d_Mo_parameter_61 ?_
          refine topI (y := nI P) (pk_sub (by omega)) ?_
          exact retI (u := (P + 1, upN vl P v, false)) hx hb hr hlk hP hD hS (⟨pm_yes hc4 hpc, by rw [pmO_1 hc4 hpc]; rfl, by rw [pmO_1 hc4 hpc, nI_clamp (by omega)]; rfl, by rw [pmO_1 hc4 hpc]; rfl⟩) d_Mo_parameter_62
        · rw [nI_eq (by omega) (by omega)] at hc25
          refine lv_bipush (v := (-2)) hx hb d_Mo_parameter_28 (by decide) ?_
          exact retI (u := (P, vl, fr)) hx hb hr hlk hP hD hS (by first | exact ⟨pm_no hc4 (pmC_a hc11), by rw [pmO_c (pmC_a hc11)]; rfl, by rw [pmO_c (pmC_a hc11)]; rfl, by rw [pmO_c (pmC_a hc11)]; rfl⟩ | exact ⟨pm_no hc4 (pmC_b hc16), by rw [pmO_c (pmC_b hc16)]; rfl, by rw [pmO_c (pmC_b hc16)]; rfl, by rw [pmO_c (pmC_b hc16)]; rfl⟩ | exact ⟨pm_no hc4 (pmC_c hc25), by rw [pmO_c (pmC_c hc25)]; rfl, by rw [pmO_c (pmC_c hc25)]; rfl, by rw [pmO_c (pmC_c hc25)]; rfl⟩) d_Mo_parameter_30
  · rw [bI_z] at hc4
    refine lv_iconst (v := (-1)) hx hb d_Mo_parameter_7 (by decide) ?_
    exact retI (u := (P, vl, fr)) hx hb hr hlk hP hD hS (⟨pm_a hc4, by rw [pmO_on hc4]; rfl, by rw [pmO_on hc4]; rfl, by rw [pmO_on hc4]; rfl⟩) d_Mo_parameter_8
set_option maxHeartbeats 4000000 in
set_option maxRecDepth 100000 in
theorem k_Mo_invalid (l : Launch) (X : Cx) (m0 aV aB aRS aRT aO aA aBt aD aT aS aR aE aK aIV aIN aOp aRw aGn : Nat) (P nk nr ns : Nat) (oP : Int32) (tk : Nat) (oA : Int32) (T : TS) (fr on : Bool) (vl iv : Nat → Nat) (hP6 : P ≤ 6) (hvl : ∀ p, p < 6 → 1 ≤ vl p ∧ vl p ≤ 4) (x y : Int32) : CtI l X (TY X) y_Mo_invalid cw_Mo_invalid ({ frames := 1, cells := 0, slots := 0, locals := 22 } : Room) [.ref m0, .int x, .int y] [(m0, .inr (6, [.int (nI P), .ref aV, .ref aB, .int (nI nk), .ref aRS, .ref aRT, .int (nI T.2.2.2.2.2.2), .ref aO, .ref aA, .ref aBt, .ref aD, .ref aT, .int (nI T.2.2.2.2.2.1), .ref aS, .int (nI nr), .ref aR, .int (nI ns), .ref aE, .int (bI fr), .ref aK, .ref aIV, .ref aIN, .int (bI on), .ref aOp, .int oP, .int oA, .int (nI tk), .ref aRw, .ref aGn])), (aV, .inl (X.2 0, 6, .inl (ia (rv P vl)))), (aB, .inl (X.2 2, 24, .inl (ba (bdF iv))))] (S := (Nat → Nat) × Bool) (fun r u => r = bI (ivO on P vl iv x y) ∧ u.1 = (bif ivO on P vl iv x y then ivN iv x y else iv) ∧ u.2 = (bif ivO on P vl iv x y then false else fr)) (fun u => [(m0, .inr (6, [.int (nI P), .ref aV, .ref aB, .int (nI nk), .ref aRS, .ref aRT, .int (nI T.2.2.2.2.2.2), .ref aO, .ref aA, .ref aBt, .ref aD, .ref aT, .int (nI T.2.2.2.2.2.1), .ref aS, .int (nI nr), .ref aR, .int (nI ns), .ref aE, .int (bI u.2), .ref aK, .ref aIV, .ref aIN, .int (bI on), .ref aOp, .int oP, .int oA, .int (nI tk), .ref aRw, .ref aGn])), (aV, .inl (X.2 0, 6, .inl (ia (rv P vl)))), (aB, .inl (X.2 2, 24, .inl (ba (bdF u.1))))]) 0 0 := by
  refine metI (by decide) (Nat.le_of_ble_eq_true rfl) ?_
  intro p e s m below meth c A ls hB hl
  obtain ⟨hx, hb, hr, hml, hown, hlk, hin, hg, hA, hD, hP, hE⟩ := hB
  have hS : va_S A s.heap s.heap [] := va_S.rf
  have hl : lv_has ls 3 [(0, .ref m0), (1, .int x), (2, .int y)] := hl
  refine lv_aload_n hx hb d_Mo_invalid_0 rfl (lv_at hl 0 rfl) ?_
  refine va_get (D := X.1) (ci := 6) (v := .int (bI on)) (C := R_Mo) (T := F_Mo) (N := 29) hx hb hg in_Mo hown hE.1 hP 0 rfl rfl 22 (by decide) (hg _ m_497) (fun _ h9 => h9) rfl d_Mo_invalid_1 ?_
  refine lv_if_ne (tgt := 29) hx hb d_Mo_invalid_4 (by decide) (fun hc4 => ?_) (fun hc4 => ?_)
  · rw [bI_z] at hc4
    refine lv_iconst (v := nI 0) hx hb d_Mo_invalid_29 (by decide) ?_
    exact retZ (u := (iv, fr)) hx hb hr hlk (by decide) hP hD hS (by first | exact ⟨by rw [iv_on hc4]; rfl, by rw [iv_on hc4]; rfl, by rw [iv_on hc4]; rfl⟩ | exact ⟨by rw [iv_in (by omega) (by omega) hc26]; rfl, by rw [iv_in (by omega) (by omega) hc26]; rfl, by rw [iv_in (by omega) (by omega) hc26]; rfl⟩ | exact ⟨by rw [iv_hv (no_t hc13)]; rfl, by rw [iv_hv (no_t hc13)]; rfl, by rw [iv_hv (no_t hc13)]; rfl⟩) d_Mo_invalid_30
  · rw [bI_z] at hc4
    refine lv_aload_n hx hb d_Mo_invalid_7 rfl (lv_at hl 0 rfl) ?_
    refine lv_iload_n hx hb d_Mo_invalid_8 rfl (lv_at hl 1 rfl) ?_
    refine lv_iload_n hx hb d_Mo_invalid_9 rfl (lv_at hl 2 rfl) ?_
    refine clVI (n := 2) (As := [.int x, .int y]) (rest := []) (wc := [(m0, .inr (6, [.int (nI P), .ref aV, .ref aB, .int (nI nk), .ref aRS, .ref aRT, .int (nI T.2.2.2.2.2.2), .ref aO, .ref aA, .ref aBt, .ref aD, .ref aT, .int (nI T.2.2.2.2.2.1), .ref aS, .int (nI nr), .ref aR, .int (nI ns), .ref aE, .int (bI fr), .ref aK, .ref aIV, .ref aIN, .int (bI on), .ref aOp, .int oP, .int oA, .int (nI tk), .ref aRw, .ref aGn])), (aV, .inl (X.2 0, 6, .inl (ia (rv P vl))))]) (wr := [(aB, .inl (X.2 2, 24, .inl (ba (bdF iv))))]) hx hb hml hown hg hE hA hP hD hS (k_Mo_noValue l X m0 aV aB aRS aRT aO aA aBt aD aT aS aR aE aK aIV aIN aOp aRw aGn P nk nr ns oP tk oA T fr on vl hP6 x y) (gcons m_574 (gcons m_576 (gcons ms_Mo_noValue (gcons m_8 (gcons m_577 gG))))) (by decide +kernel) [0, 1] [2] rfl rfl (by decide) (by decide) (by decide) 0 rfl rfl rfl hl.1 (Nat.le_of_ble_eq_true rfl) rfl d_Mo_invalid_10 ⟨rfl, rfl, Nat.le_of_ble_eq_true rfl, Nat.le_of_ble_eq_true rfl⟩ (⟨Nat.le_of_ble_eq_true rfl, Nat.le_of_ble_eq_true rfl⟩) (fun r10 u10 H locs hq10 hP hD hS => ?_)
    have hq10 : r10 = bI (noB P vl x y) := hq10
    subst hq10
    have hP := hP.sub (ws' := [(m0, .inr (6, [.int (nI P), .ref aV, .ref aB, .int (nI nk), .ref aRS, .ref aRT, .int (nI T.2.2.2.2.2.2), .ref aO, .ref aA, .ref aBt, .ref aD, .ref aT, .int (nI T.2.2.2.2.2.1), .ref aS, .int (nI nr), .ref aR, .int (nI ns), .ref aE, .int (bI fr), .ref aK, .ref aIV, .ref aIN, .int (bI on), .ref aOp, .int oP, .int oA, .int (nI tk), .ref aRw, .ref aGn])), (aV, .inl (X.2 0, 6, .inl (ia (rv P vl)))), (aB, .inl (X.2 2, 24, .inl (ba (bdF iv))))]) [1, 2, 0] rfl
    have hD := hD.sub (ws' := [(m0, .inr (6, [.int (nI P), .ref aV, .ref aB, .int (nI nk), .ref aRS, .ref aRT, .int (nI T.2.2.2.2.2.2), .ref aO, .ref aA, .ref aBt, .ref aD, .ref aT, .int (nI T.2.2.2.2.2.1), .ref aS, .int (nI nr), .ref aR, .int (nI ns), .ref aE, .int (bI fr), .ref aK, .ref aIV, .ref aIN, .int (bI on), .ref aOp, .int oP, .int oA, .int (nI tk), .ref aRw, .ref aGn])), (aV, .inl (X.2 0, 6, .inl (ia (rv P vl)))), (aB, .inl (X.2 2, 24, .inl (ba (bdF iv))))]) [1, 2, 0] (by decide) rfl
    refine lv_if_ne (tgt := 29) hx hb d_Mo_invalid_13 (by decide) (fun hc13 => ?_) (fun hc13 => ?_)
    · rw [bI_z] at hc13
      refine lv_iconst (v := nI 0) hx hb d_Mo_invalid_29 (by decide) ?_
      exact retZ (u := (iv, fr)) hx hb hr hlk (by decide) hP hD hS (by first | exact ⟨by rw [iv_on hc4]; rfl, by rw [iv_on hc4]; rfl, by rw [iv_on hc4]; rfl⟩ | exact ⟨by rw [iv_in (by omega) (by omega) hc26]; rfl, by rw [iv_in (by omega) (by omega) hc26]; rfl, by rw [iv_in (by omega) (by omega) hc26]; rfl⟩ | exact ⟨by rw [iv_hv (no_t hc13)]; rfl, by rw [iv_hv (no_t hc13)]; rfl, by rw [iv_hv (no_t hc13)]; rfl⟩) d_Mo_invalid_30
    · rw [bI_z] at hc13
      refine lv_aload_n hx hb d_Mo_invalid_16 rfl (lv_at hl 0 rfl) ?_
      refine va_get (D := X.1) (ci := 6) (v := .ref aB) (C := R_Mo) (T := F_Mo) (N := 29) hx hb hg in_Mo hown hE.1 hP 0 rfl rfl 2 (by decide) (hg _ m_477) (fun _ h9 => h9) rfl d_Mo_invalid_17 ?_
      have hhv := no_f hc13
      obtain ⟨q, v, hqP, hvv, hv4, rfl, rfl⟩ := hv_of hP6 hvl hhv
      refine lv_iconst (v := nI 4) hx hb d_Mo_invalid_20 (by decide) ?_
      refine lv_iload_n hx hb d_Mo_invalid_21 rfl (lv_at hl 1 rfl) ?_
      refine lv_imul hx hb d_Mo_invalid_22 ?_
      refine topI (pk_mul _ _) ?_
      refine lv_iload_n hx hb d_Mo_invalid_23 rfl (lv_at hl 2 rfl) ?_
      refine lv_iadd hx hb d_Mo_invalid_24 ?_
      refine topI (nI_add _ _) ?_
      refine va_zald hx hb hE.1 hP 2 2 rfl rfl (vp_in_nI (by omega) (by decide)) d_Mo_invalid_25 ?_
      refine topI (y := (ba (bdF iv)) ((4 * q) + v)) (by rw [nI_clamp (by omega)]) ?_
      refine topI (y := bI ((iv q).testBit v)) (congrArg bI (bd_at hv4)) ?_
      refine lv_if_eq (tgt := 31) hx hb d_Mo_invalid_26 (by decide) (fun hc26 => ?_) (fun hc26 => ?_)
      · rw [bI_z] at hc26
        refine lv_aload_n hx hb d_Mo_invalid_31 rfl (lv_at hl 0 rfl) ?_
        refine va_get (D := X.1) (ci := 6) (v := .ref aB) (C := R_Mo) (T := F_Mo) (N := 29) hx hb hg in_Mo hown hE.1 hP 0 rfl rfl 2 (by decide) (hg _ m_477) (fun _ h9 => h9) rfl d_Mo_invalid_32 ?_
        refine lv_iconst (v := nI 4) hx hb d_Mo_invalid_35 (by decide) ?_
        refine lv_iload_n hx hb d_Mo_invalid_36 rfl (lv_at hl 1 rfl) ?_
        refine lv_imul hx hb d_Mo_invalid_37 ?_
        refine topI (pk_mul _ _) ?_
        refine lv_iload_n hx hb d_Mo_invalid_38 rfl (lv_at hl 2 rfl) ?_
        refine lv_iadd hx hb d_Mo_invalid_39 ?_
        refine topI (nI_add _ _) ?_
        refine lv_iconst (v := nI 1) hx hb d_Mo_invalid_40 (by decide) ?_
        refine va_zast hx hb hE.1 hP hD hS 2 2 rfl rfl (vp_in_nI (by omega) (by decide)) d_Mo_invalid_41 (fun H locs hP hD hS => ?_)
        have hP : va_P X.1 classes [(m0, .inr (6, [.int (nI P), .ref aV, .ref aB, .int (nI nk), .ref aRS, .ref aRT, .int (nI T.2.2.2.2.2.2), .ref aO, .ref aA, .ref aBt, .ref aD, .ref aT, .int (nI T.2.2.2.2.2.1), .ref aS, .int (nI nr), .ref aR, .int (nI ns), .ref aE, .int (bI fr), .ref aK, .ref aIV, .ref aIN, .int (bI on), .ref aOp, .int oP, .int oA, .int (nI tk), .ref aRw, .ref aGn])), (aV, .inl (X.2 0, 6, .inl (ia (rv P vl)))), (aB, .inl (X.2 2, 24, .inl (upd (ba (bdF iv)) (nI ((4 * q) + v)).toNatClampNeg (vp_nar .boolean (nI 1)))))] H := hP
        have hD : va_D A [(m0, .inr (6, [.int (nI P), .ref aV, .ref aB, .int (nI nk), .ref aRS, .ref aRT, .int (nI T.2.2.2.2.2.2), .ref aO, .ref aA, .ref aBt, .ref aD, .ref aT, .int (nI T.2.2.2.2.2.1), .ref aS, .int (nI nr), .ref aR, .int (nI ns), .ref aE, .int (bI fr), .ref aK, .ref aIV, .ref aIN, .int (bI on), .ref aOp, .int oP, .int oA, .int (nI tk), .ref aRw, .ref aGn])), (aV, .inl (X.2 0, 6, .inl (ia (rv P vl)))), (aB, .inl (X.2 2, 24, .inl (upd (ba (bdF iv)) (nI ((4 * q) + v)).toNatClampNeg (vp_nar .boolean (nI 1)))))] := hD
        rw [nI_clamp (show (4 * q) + v < 2 ^ 31 by omega)] at hP hD
        have e9 : upd (ba (bdF iv)) ((4 * q) + v) (vp_nar .boolean (nI 1)) = ba (bdF (upN iv q (iv q ||| 1 * 2 ^ v))) := (upd_b1 _ _).trans (congrArg ba (bd_up hv4))
        rw [e9] at hP hD
        clear e9
        refine lv_aload_n hx hb d_Mo_invalid_42 rfl (lv_at hl 0 rfl) ?_
        refine lv_iconst (v := nI 0) hx hb d_Mo_invalid_43 (by decide) ?_
        refine va_put (D := X.1) (ci := 6) (v := .int (nI 0)) (ty := .boolean) (C := R_Mo) (T := F_Mo) (N := 29) hx hb hg in_Mo t_Mo t_Mo_ok n_Mo hown hE.1 hP hD hS 0 rfl rfl 18 (by decide) (hg _ m_493) (fun _ h9 => h9) rfl (by decide +kernel) rfl rfl (Nat.le_of_ble_eq_true rfl) d_Mo_invalid_44 (fun H locs hP hD hS => ?_)
        have hP : va_P X.1 classes [(m0, .inr (6, [.int (nI P), .ref aV, .ref aB, .int (nI nk), .ref aRS, .ref aRT, .int (nI T.2.2.2.2.2.2), .ref aO, .ref aA, .ref aBt, .ref aD, .ref aT, .int (nI T.2.2.2.2.2.1), .ref aS, .int (nI nr), .ref aR, .int (nI ns), .ref aE, .int (nI 0), .ref aK, .ref aIV, .ref aIN, .int (bI on), .ref aOp, .int oP, .int oA, .int (nI tk), .ref aRw, .ref aGn])), (aV, .inl (X.2 0, 6, .inl (ia (rv P vl)))), (aB, .inl (X.2 2, 24, .inl (ba (bdF (upN iv q (iv q ||| 1 * 2 ^ v))))))] H := hP
        have hD : va_D A [(m0, .inr (6, [.int (nI P), .ref aV, .ref aB, .int (nI nk), .ref aRS, .ref aRT, .int (nI T.2.2.2.2.2.2), .ref aO, .ref aA, .ref aBt, .ref aD, .ref aT, .int (nI T.2.2.2.2.2.1), .ref aS, .int (nI nr), .ref aR, .int (nI ns), .ref aE, .int (nI 0), .ref aK, .ref aIV, .ref aIN, .int (bI on), .ref aOp, .int oP, .int oA, .int (nI tk), .ref aRw, .ref aGn])), (aV, .inl (X.2 0, 6, .inl (ia (rv P vl)))), (aB, .inl (X.2 2, 24, .inl (ba (bdF (upN iv q (iv q ||| 1 * 2 ^ v))))))] := hD
        refine lv_iconst (v := nI 1) hx hb d_Mo_invalid_47 (by decide) ?_
        exact retZ (u := (upN iv q (iv q ||| 1 * 2 ^ v), false)) hx hb hr hlk (by decide) hP hD hS (⟨by rw [iv_1 (by omega) (by omega) hc4 hhv hc26]; rfl, by rw [iv_1 (by omega) (by omega) hc4 hhv hc26, ivN_n (by omega) (by omega)]; rfl, by rw [iv_1 (by omega) (by omega) hc4 hhv hc26]; rfl⟩) d_Mo_invalid_48
      · rw [bI_z] at hc26
        refine lv_iconst (v := nI 0) hx hb d_Mo_invalid_29 (by decide) ?_
        exact retZ (u := (iv, fr)) hx hb hr hlk (by decide) hP hD hS (by first | exact ⟨by rw [iv_on hc4]; rfl, by rw [iv_on hc4]; rfl, by rw [iv_on hc4]; rfl⟩ | exact ⟨by rw [iv_in (by omega) (by omega) hc26]; rfl, by rw [iv_in (by omega) (by omega) hc26]; rfl, by rw [iv_in (by omega) (by omega) hc26]; rfl⟩ | exact ⟨by rw [iv_hv (no_t hc13)]; rfl, by rw [iv_hv (no_t hc13)]; rfl, by rw [iv_hv (no_t hc13)]; rfl⟩) d_Mo_invalid_30
set_option maxHeartbeats 4000000 in
set_option maxRecDepth 100000 in
theorem k_Mo_relation (l : Launch) (X : Cx) (m0 aV aB aRS aRT aO aA aBt aD aT aS aR aE aK aIV aIN aOp aRw aGn : Nat) (P nk nr ns : Nat) (oP : Int32) (tk : Nat) (oA : Int32) (T : TS) (fr on : Bool) (rs rt : Nat → Nat) (hP6 : P ≤ 6) (hnk : nk ≤ 8) (x y : Int32) : CtI l X (TY X) y_Mo_relation cw_Mo_relation ({ frames := 1, cells := 0, slots := 0, locals := 23 } : Room) [.ref m0, .int x, .int y] [(m0, .inr (6, [.int (nI P), .ref aV, .ref aB, .int (nI nk), .ref aRS, .ref aRT, .int (nI T.2.2.2.2.2.2), .ref aO, .ref aA, .ref aBt, .ref aD, .ref aT, .int (nI T.2.2.2.2.2.1), .ref aS, .int (nI nr), .ref aR, .int (nI ns), .ref aE, .int (bI fr), .ref aK, .ref aIV, .ref aIN, .int (bI on), .ref aOp, .int oP, .int oA, .int (nI tk), .ref aRw, .ref aGn])), (aRS, .inl (X.2 0, 8, .inl (ia rs))), (aRT, .inl (X.2 0, 8, .inl (ia rt)))] (S := Nat × (Nat → Nat) × (Nat → Nat)) (fun r u => r = rlA on P nk x y ∧ u.1 = (bif rlO on P nk x y then nk + 1 else nk) ∧ u.2.1 = (bif rlO on P nk x y then upN rs nk x.toNatClampNeg else rs) ∧ u.2.2 = (bif rlO on P nk x y then upN rt nk y.toNatClampNeg else rt)) (fun u => [(m0, .inr (6, [.int (nI P), .ref aV, .ref aB, .int (nI u.1), .ref aRS, .ref aRT, .int (nI T.2.2.2.2.2.2), .ref aO, .ref aA, .ref aBt, .ref aD, .ref aT, .int (nI T.2.2.2.2.2.1), .ref aS, .int (nI nr), .ref aR, .int (nI ns), .ref aE, .int (bI fr), .ref aK, .ref aIV, .ref aIN, .int (bI on), .ref aOp, .int oP, .int oA, .int (nI tk), .ref aRw, .ref aGn])), (aRS, .inl (X.2 0, 8, .inl (ia u.2.1))), (aRT, .inl (X.2 0, 8, .inl (ia u.2.2)))]) 0 0 := by
  refine metI (by decide) (Nat.le_of_ble_eq_true rfl) ?_
  intro p e s m below meth c A ls hB hl
  obtain ⟨hx, hb, hr, hml, hown, hlk, hin, hg, hA, hD, hP, hE⟩ := hB
  have hS : va_S A s.heap s.heap [] := va_S.rf
  have hl : lv_has ls 3 [(0, .ref m0), (1, .int x), (2, .int y)] := hl
  refine lv_aload_n hx hb d_Mo_relation_0 rfl (lv_at hl 0 rfl) ?_
  refine va_get (D := X.1) (ci := 6) (v := .int (bI on)) (C := R_Mo) (T := F_Mo) (N := 29) hx hb hg in_Mo hown hE.1 hP 0 rfl rfl 22 (by decide) (hg _ m_497) (fun _ h9 => h9) rfl d_Mo_relation_1 ?_
  refine lv_if_eq (tgt := 9) hx hb d_Mo_relation_4 (by decide) (fun hc4 => ?_) (fun hc4 => ?_)
  · rw [bI_z] at hc4
    refine lv_iload_n hx hb d_Mo_relation_9 rfl (lv_at hl 1 rfl) ?_
    refine lv_iconst (v := nI 1) hx hb d_Mo_relation_10 (by decide) ?_
    refine lv_icmp_lt (tgt := 43) hx hb d_Mo_relation_11 (by decide) (fun hc11 => ?_) (fun hc11 => ?_)
    · rw [lt1] at hc11
      refine lv_bipush (v := (-2)) hx hb d_Mo_relation_43 (by decide) ?_
      exact retI (u := (nk, rs, rt)) hx hb hr hlk hP hD hS (by first | exact ⟨rlA_2 hc4 (rl_a (isS_n1 hc11)), by rw [rlO_2 (rl_a (isS_n1 hc11))]; rfl, by rw [rlO_2 (rl_a (isS_n1 hc11))]; rfl, by rw [rlO_2 (rl_a (isS_n1 hc11))]; rfl⟩ | exact ⟨rlA_2 hc4 (rl_a (isS_n2 hc21)), by rw [rlO_2 (rl_a (isS_n2 hc21))]; rfl, by rw [rlO_2 (rl_a (isS_n2 hc21))]; rfl, by rw [rlO_2 (rl_a (isS_n2 hc21))]; rfl⟩ | exact ⟨rlA_2 hc4 (rl_b hc26), by rw [rlO_2 (rl_b hc26)]; rfl, by rw [rlO_2 (rl_b hc26)]; rfl, by rw [rlO_2 (rl_b hc26)]; rfl⟩ | exact ⟨rlA_2 hc4 (rl_c hc31), by rw [rlO_2 (rl_c hc31)]; rfl, by rw [rlO_2 (rl_c hc31)]; rfl, by rw [rlO_2 (rl_c hc31)]; rfl⟩ | exact ⟨rlA_2 hc4 (rl_d (by omega) hc40), by rw [rlO_2 (rl_d (by omega) hc40)]; rfl, by rw [rlO_2 (rl_d (by omega) hc40)]; rfl, by rw [rlO_2 (rl_d (by omega) hc40)]; rfl⟩) d_Mo_relation_45
    · rw [lt1] at hc11
      refine lv_iload_n hx hb d_Mo_relation_14 rfl (lv_at hl 1 rfl) ?_
      refine lv_iconst (v := nI 1) hx hb d_Mo_relation_15 (by decide) ?_
      refine lv_aload_n hx hb d_Mo_relation_16 rfl (lv_at hl 0 rfl) ?_
      refine va_get (D := X.1) (ci := 6) (v := .int (nI P)) (C := R_Mo) (T := F_Mo) (N := 29) hx hb hg in_Mo hown hE.1 hP 0 rfl rfl 0 (by decide) (hg _ m_475) (fun _ h9 => h9) rfl d_Mo_relation_17 ?_
      refine lv_ishl hx hb d_Mo_relation_20 ?_
      refine topI (shlN (by omega) (pw2 hP6)) ?_
      refine lv_icmp_ge (tgt := 43) hx hb d_Mo_relation_21 (by decide) (fun hc21 => ?_) (fun hc21 => ?_)
      · refine lv_bipush (v := (-2)) hx hb d_Mo_relation_43 (by decide) ?_
        exact retI (u := (nk, rs, rt)) hx hb hr hlk hP hD hS (by first | exact ⟨rlA_2 hc4 (rl_a (isS_n1 hc11)), by rw [rlO_2 (rl_a (isS_n1 hc11))]; rfl, by rw [rlO_2 (rl_a (isS_n1 hc11))]; rfl, by rw [rlO_2 (rl_a (isS_n1 hc11))]; rfl⟩ | exact ⟨rlA_2 hc4 (rl_a (isS_n2 hc21)), by rw [rlO_2 (rl_a (isS_n2 hc21))]; rfl, by rw [rlO_2 (rl_a (isS_n2 hc21))]; rfl, by rw [rlO_2 (rl_a (isS_n2 hc21))]; rfl⟩ | exact ⟨rlA_2 hc4 (rl_b hc26), by rw [rlO_2 (rl_b hc26)]; rfl, by rw [rlO_2 (rl_b hc26)]; rfl, by rw [rlO_2 (rl_b hc26)]; rfl⟩ | exact ⟨rlA_2 hc4 (rl_c hc31), by rw [rlO_2 (rl_c hc31)]; rfl, by rw [rlO_2 (rl_c hc31)]; rfl, by rw [rlO_2 (rl_c hc31)]; rfl⟩ | exact ⟨rlA_2 hc4 (rl_d (by omega) hc40), by rw [rlO_2 (rl_d (by omega) hc40)]; rfl, by rw [rlO_2 (rl_d (by omega) hc40)]; rfl, by rw [rlO_2 (rl_d (by omega) hc40)]; rfl⟩) d_Mo_relation_45
      · refine lv_iload_n hx hb d_Mo_relation_24 rfl (lv_at hl 2 rfl) ?_
        refine lv_iconst (v := nI 1) hx hb d_Mo_relation_25 (by decide) ?_
        refine lv_icmp_lt (tgt := 43) hx hb d_Mo_relation_26 (by decide) (fun hc26 => ?_) (fun hc26 => ?_)
        · refine lv_bipush (v := (-2)) hx hb d_Mo_relation_43 (by decide) ?_
          exact retI (u := (nk, rs, rt)) hx hb hr hlk hP hD hS (by first | exact ⟨rlA_2 hc4 (rl_a (isS_n1 hc11)), by rw [rlO_2 (rl_a (isS_n1 hc11))]; rfl, by rw [rlO_2 (rl_a (isS_n1 hc11))]; rfl, by rw [rlO_2 (rl_a (isS_n1 hc11))]; rfl⟩ | exact ⟨rlA_2 hc4 (rl_a (isS_n2 hc21)), by rw [rlO_2 (rl_a (isS_n2 hc21))]; rfl, by rw [rlO_2 (rl_a (isS_n2 hc21))]; rfl, by rw [rlO_2 (rl_a (isS_n2 hc21))]; rfl⟩ | exact ⟨rlA_2 hc4 (rl_b hc26), by rw [rlO_2 (rl_b hc26)]; rfl, by rw [rlO_2 (rl_b hc26)]; rfl, by rw [rlO_2 (rl_b hc26)]; rfl⟩ | exact ⟨rlA_2 hc4 (rl_c hc31), by rw [rlO_2 (rl_c hc31)]; rfl, by rw [rlO_2 (rl_c hc31)]; rfl, by rw [rlO_2 (rl_c hc31)]; rfl⟩ | exact ⟨rlA_2 hc4 (rl_d (by omega) hc40), by rw [rlO_2 (rl_d (by omega) hc40)]; rfl, by rw [rlO_2 (rl_d (by omega) hc40)]; rfl, by rw [rlO_2 (rl_d (by omega) hc40)]; rfl⟩) d_Mo_relation_45
        · refine lv_iload_n hx hb d_Mo_relation_29 rfl (lv_at hl 2 rfl) ?_
          refine lv_iconst (v := nI 3) hx hb d_Mo_relation_30 (by decide) ?_
          refine lv_icmp_gt (tgt := 43) hx hb d_Mo_relation_31 (by decide) (fun hc31 => ?_) (fun hc31 => ?_)
          · refine lv_bipush (v := (-2)) hx hb d_Mo_relation_43 (by decide) ?_
            exact retI (u := (nk, rs, rt)) hx hb hr hlk hP hD hS (by first | exact ⟨rlA_2 hc4 (rl_a (isS_n1 hc11)), by rw [rlO_2 (rl_a (isS_n1 hc11))]; rfl, by rw [rlO_2 (rl_a (isS_n1 hc11))]; rfl, by rw [rlO_2 (rl_a (isS_n1 hc11))]; rfl⟩ | exact ⟨rlA_2 hc4 (rl_a (isS_n2 hc21)), by rw [rlO_2 (rl_a (isS_n2 hc21))]; rfl, by rw [rlO_2 (rl_a (isS_n2 hc21))]; rfl, by rw [rlO_2 (rl_a (isS_n2 hc21))]; rfl⟩ | exact ⟨rlA_2 hc4 (rl_b hc26), by rw [rlO_2 (rl_b hc26)]; rfl, by rw [rlO_2 (rl_b hc26)]; rfl, by rw [rlO_2 (rl_b hc26)]; rfl⟩ | exact ⟨rlA_2 hc4 (rl_c hc31), by rw [rlO_2 (rl_c hc31)]; rfl, by rw [rlO_2 (rl_c hc31)]; rfl, by rw [rlO_2 (rl_c hc31)]; rfl⟩ | exact ⟨rlA_2 hc4 (rl_d (by omega) hc40), by rw [rlO_2 (rl_d (by omega) hc40)]; rfl, by rw [rlO_2 (rl_d (by omega) hc40)]; rfl, by rw [rlO_2 (rl_d (by omega) hc40)]; rfl⟩) d_Mo_relation_45
          · have hisS := isS_y hc11 hc21
            obtain ⟨n, hn0, hnP, rfl⟩ := isS_of hP6 hisS
            have h64 := pw2le hP6
            refine lv_aload_n hx hb d_Mo_relation_34 rfl (lv_at hl 0 rfl) ?_
            refine lv_iload_n hx hb d_Mo_relation_35 rfl (lv_at hl 1 rfl) ?_
            refine clVI (n := 1) (As := [.int (nI n)]) (rest := []) (wc := [(m0, .inr (6, [.int (nI P), .ref aV, .ref aB, .int (nI nk), .ref aRS, .ref aRT, .int (nI T.2.2.2.2.2.2), .ref aO, .ref aA, .ref aBt, .ref aD, .ref aT, .int (nI T.2.2.2.2.2.1), .ref aS, .int (nI nr), .ref aR, .int (nI ns), .ref aE, .int (bI fr), .ref aK, .ref aIV, .ref aIN, .int (bI on), .ref aOp, .int oP, .int oA, .int (nI tk), .ref aRw, .ref aGn]))]) (wr := [(aRS, .inl (X.2 0, 8, .inl (ia rs))), (aRT, .inl (X.2 0, 8, .inl (ia rt)))]) hx hb hml hown hg hE hA hP hD hS (k_Mo_size l X m0 aV aB aRS aRT aO aA aBt aD aT aS aR aE aK aIV aIN aOp aRw aGn P nk nr ns oP tk oA T fr on n (by omega)) (gcons m_582 (gcons m_584 (gcons ms_Mo_size (gcons m_8 (gcons m_585 gG))))) (by decide +kernel) [0] [1, 2] rfl rfl (by decide) (by decide) (by decide) 0 rfl rfl rfl hl.1 (Nat.le_of_ble_eq_true rfl) rfl d_Mo_relation_36 ⟨rfl, rfl, Nat.le_of_ble_eq_true rfl, Nat.le_of_ble_eq_true rfl⟩ (⟨Nat.le_of_ble_eq_true rfl, Nat.le_of_ble_eq_true rfl⟩) (fun r36 u36 H locs hq36 hP hD hS => ?_)
            have hq36 : r36 = nI (cn n 6) := hq36
            subst hq36
            have hP := hP.sub (ws' := [(m0, .inr (6, [.int (nI P), .ref aV, .ref aB, .int (nI nk), .ref aRS, .ref aRT, .int (nI T.2.2.2.2.2.2), .ref aO, .ref aA, .ref aBt, .ref aD, .ref aT, .int (nI T.2.2.2.2.2.1), .ref aS, .int (nI nr), .ref aR, .int (nI ns), .ref aE, .int (bI fr), .ref aK, .ref aIV, .ref aIN, .int (bI on), .ref aOp, .int oP, .int oA, .int (nI tk), .ref aRw, .ref aGn])), (aRS, .inl (X.2 0, 8, .inl (ia rs))), (aRT, .inl (X.2 0, 8, .inl (ia rt)))]) [2, 0, 1] rfl
            have hD := hD.sub (ws' := [(m0, .inr (6, [.int (nI P), .ref aV, .ref aB, .int (nI nk), .ref aRS, .ref aRT, .int (nI T.2.2.2.2.2.2), .ref aO, .ref aA, .ref aBt, .ref aD, .ref aT, .int (nI T.2.2.2.2.2.1), .ref aS, .int (nI nr), .ref aR, .int (nI ns), .ref aE, .int (bI fr), .ref aK, .ref aIV, .ref aIN, .int (bI on), .ref aOp, .int oP, .int oA, .int (nI tk), .ref aRw, .ref aGn])), (aRS, .inl (X.2 0, 8, .inl (ia rs))), (aRT, .inl (X.2 0, 8, .inl (ia rt)))]) [2, 0, 1] (by decide) rfl
            refine lv_iload_n hx hb d_Mo_relation_39 rfl (lv_at hl 2 rfl) ?_
            refine lv_icmp_ge (tgt := 46) hx hb d_Mo_relation_40 (by decide) (fun hc40 => ?_) (fun hc40 => ?_)
            · have hrl := rl_1 (by omega) hisS hc26 hc31 hc40
              refine lv_aload_n hx hb d_Mo_relation_46 rfl (lv_at hl 0 rfl) ?_
              refine va_get (D := X.1) (ci := 6) (v := .int (nI nk)) (C := R_Mo) (T := F_Mo) (N := 29) hx hb hg in_Mo hown hE.1 hP 0 rfl rfl 3 (by decide) (hg _ m_478) (fun _ h9 => h9) rfl d_Mo_relation_47 ?_
              refine lv_bipush (v := nI 8) hx hb d_Mo_relation_50 (by decide) ?_
              refine lv_icmp_ne (tgt := 58) hx hb d_Mo_relation_52 (by decide) (fun hc52 => ?_) (fun hc52 => ?_)
              · rw [nI_eq (by omega) (by omega)] at hc52
                obtain ⟨k, hk1, hk3, rfl⟩ := x_mid (by decide) (by decide) hc26 hc31
                refine lv_aload_n hx hb d_Mo_relation_58 rfl (lv_at hl 0 rfl) ?_
                refine va_get (D := X.1) (ci := 6) (v := .ref aRS) (C := R_Mo) (T := F_Mo) (N := 29) hx hb hg in_Mo hown hE.1 hP 0 rfl rfl 4 (by decide) (hg _ m_479) (fun _ h9 => h9) rfl d_Mo_relation_59 ?_
                refine lv_aload_n hx hb d_Mo_relation_62 rfl (lv_at hl 0 rfl) ?_
                refine va_get (D := X.1) (ci := 6) (v := .int (nI nk)) (C := R_Mo) (T := F_Mo) (N := 29) hx hb hg in_Mo hown hE.1 hP 0 rfl rfl 3 (by decide) (hg _ m_478) (fun _ h9 => h9) rfl d_Mo_relation_63 ?_
                refine lv_iload_n hx hb d_Mo_relation_66 rfl (lv_at hl 1 rfl) ?_
                refine va_iast hx hb hE.1 hP hD hS 1 0 rfl rfl (vp_in_nI (by omega) (by decide)) d_Mo_relation_67 (fun H locs hP hD hS => ?_)
                have hP : va_P X.1 classes [(m0, .inr (6, [.int (nI P), .ref aV, .ref aB, .int (nI nk), .ref aRS, .ref aRT, .int (nI T.2.2.2.2.2.2), .ref aO, .ref aA, .ref aBt, .ref aD, .ref aT, .int (nI T.2.2.2.2.2.1), .ref aS, .int (nI nr), .ref aR, .int (nI ns), .ref aE, .int (bI fr), .ref aK, .ref aIV, .ref aIN, .int (bI on), .ref aOp, .int oP, .int oA, .int (nI tk), .ref aRw, .ref aGn])), (aRS, .inl (X.2 0, 8, .inl (upd (ia rs) (nI nk).toNatClampNeg (nI n)))), (aRT, .inl (X.2 0, 8, .inl (ia rt)))] H := hP
                have hD : va_D A [(m0, .inr (6, [.int (nI P), .ref aV, .ref aB, .int (nI nk), .ref aRS, .ref aRT, .int (nI T.2.2.2.2.2.2), .ref aO, .ref aA, .ref aBt, .ref aD, .ref aT, .int (nI T.2.2.2.2.2.1), .ref aS, .int (nI nr), .ref aR, .int (nI ns), .ref aE, .int (bI fr), .ref aK, .ref aIV, .ref aIN, .int (bI on), .ref aOp, .int oP, .int oA, .int (nI tk), .ref aRw, .ref aGn])), (aRS, .inl (X.2 0, 8, .inl (upd (ia rs) (nI nk).toNatClampNeg (nI n)))), (aRT, .inl (X.2 0, 8, .inl (ia rt)))] := hD
                rw [nI_clamp (show nk < 2 ^ 31 by omega)] at hP hD
                have e9 : upd (ia rs) nk (nI n) = ia (upN rs nk n) := upd_ia _ _ _
                rw [e9] at hP hD
                clear e9
                refine lv_aload_n hx hb d_Mo_relation_68 rfl (lv_at hl 0 rfl) ?_
                refine va_get (D := X.1) (ci := 6) (v := .ref aRT) (C := R_Mo) (T := F_Mo) (N := 29) hx hb hg in_Mo hown hE.1 hP 0 rfl rfl 5 (by decide) (hg _ m_480) (fun _ h9 => h9) rfl d_Mo_relation_69 ?_
                refine lv_aload_n hx hb d_Mo_relation_72 rfl (lv_at hl 0 rfl) ?_
                refine va_get (D := X.1) (ci := 6) (v := .int (nI nk)) (C := R_Mo) (T := F_Mo) (N := 29) hx hb hg in_Mo hown hE.1 hP 0 rfl rfl 3 (by decide) (hg _ m_478) (fun _ h9 => h9) rfl d_Mo_relation_73 ?_
                refine lv_iload_n hx hb d_Mo_relation_76 rfl (lv_at hl 2 rfl) ?_
                refine va_iast hx hb hE.1 hP hD hS 2 0 rfl rfl (vp_in_nI (by omega) (by decide)) d_Mo_relation_77 (fun H locs hP hD hS => ?_)
                have hP : va_P X.1 classes [(m0, .inr (6, [.int (nI P), .ref aV, .ref aB, .int (nI nk), .ref aRS, .ref aRT, .int (nI T.2.2.2.2.2.2), .ref aO, .ref aA, .ref aBt, .ref aD, .ref aT, .int (nI T.2.2.2.2.2.1), .ref aS, .int (nI nr), .ref aR, .int (nI ns), .ref aE, .int (bI fr), .ref aK, .ref aIV, .ref aIN, .int (bI on), .ref aOp, .int oP, .int oA, .int (nI tk), .ref aRw, .ref aGn])), (aRS, .inl (X.2 0, 8, .inl (ia (upN rs nk n)))), (aRT, .inl (X.2 0, 8, .inl (upd (ia rt) (nI nk).toNatClampNeg (nI k))))] H := hP
                have hD : va_D A [(m0, .inr (6, [.int (nI P), .ref aV, .ref aB, .int (nI nk), .ref aRS, .ref aRT, .int (nI T.2.2.2.2.2.2), .ref aO, .ref aA, .ref aBt, .ref aD, .ref aT, .int (nI T.2.2.2.2.2.1), .ref aS, .int (nI nr), .ref aR, .int (nI ns), .ref aE, .int (bI fr), .ref aK, .ref aIV, .ref aIN, .int (bI on), .ref aOp, .int oP, .int oA, .int (nI tk), .ref aRw, .ref aGn])), (aRS, .inl (X.2 0, 8, .inl (ia (upN rs nk n)))), (aRT, .inl (X.2 0, 8, .inl (upd (ia rt) (nI nk).toNatClampNeg (nI k))))] := hD
                rw [nI_clamp (show nk < 2 ^ 31 by omega)] at hP hD
                have e9 : upd (ia rt) nk (nI k) = ia (upN rt nk k) := upd_ia _ _ _
                rw [e9] at hP hD
                clear e9
                refine lv_aload_n hx hb d_Mo_relation_78 rfl (lv_at hl 0 rfl) ?_
                refine lv_dup hx hb d_Mo_relation_79 rfl ?_
                refine va_get (D := X.1) (ci := 6) (v := .int (nI nk)) (C := R_Mo) (T := F_Mo) (N := 29) hx hb hg in_Mo hown hE.1 hP 0 rfl rfl 3 (by decide) (hg _ m_478) (fun _ h9 => h9) rfl d_Mo_relation_80 ?_
                refine lv_iconst (v := nI 1) hx hb d_Mo_relation_83 (by decide) ?_
                refine lv_iadd hx hb d_Mo_relation_84 ?_
                refine topI (nI_add _ _) ?_
                refine va_put (D := X.1) (ci := 6) (v := .int (nI (nk + 1))) (ty := .int) (C := R_Mo) (T := F_Mo) (N := 29) hx hb hg in_Mo t_Mo t_Mo_ok n_Mo hown hE.1 hP hD hS 0 rfl rfl 3 (by decide) (hg _ m_478) (fun _ h9 => h9) rfl (by decide +kernel) rfl rfl (Nat.le_of_ble_eq_true rfl) d_Mo_relation_85 (fun H locs hP hD hS => ?_)
                have hP : va_P X.1 classes [(m0, .inr (6, [.int (nI P), .ref aV, .ref aB, .int (nI (nk + 1)), .ref aRS, .ref aRT, .int (nI T.2.2.2.2.2.2), .ref aO, .ref aA, .ref aBt, .ref aD, .ref aT, .int (nI T.2.2.2.2.2.1), .ref aS, .int (nI nr), .ref aR, .int (nI ns), .ref aE, .int (bI fr), .ref aK, .ref aIV, .ref aIN, .int (bI on), .ref aOp, .int oP, .int oA, .int (nI tk), .ref aRw, .ref aGn])), (aRS, .inl (X.2 0, 8, .inl (ia (upN rs nk n)))), (aRT, .inl (X.2 0, 8, .inl (ia (upN rt nk k))))] H := hP
                have hD : va_D A [(m0, .inr (6, [.int (nI P), .ref aV, .ref aB, .int (nI (nk + 1)), .ref aRS, .ref aRT, .int (nI T.2.2.2.2.2.2), .ref aO, .ref aA, .ref aBt, .ref aD, .ref aT, .int (nI T.2.2.2.2.2.1), .ref aS, .int (nI nr), .ref aR, .int (nI ns), .ref aE, .int (bI fr), .ref aK, .ref aIV, .ref aIN, .int (bI on), .ref aOp, .int oP, .int oA, .int (nI tk), .ref aRw, .ref aGn])), (aRS, .inl (X.2 0, 8, .inl (ia (upN rs nk n)))), (aRT, .inl (X.2 0, 8, .inl (ia (upN rt nk k))))] := hD
                refine lv_aload_n hx hb d_Mo_relation_88 rfl (lv_at hl 0 rfl) ?_
                refine va_get (D := X.1) (ci := 6) (v := .int (nI (nk + 1))) (C := R_Mo) (T := F_Mo) (N := 29) hx hb hg in_Mo hown hE.1 hP 0 rfl rfl 3 (by decide) (hg _ m_478) (fun _ h9 => h9) rfl d_Mo_relation_89 ?_
                exact retI (u := (nk + 1, upN rs nk n, upN rt nk k)) hx hb hr hlk hP hD hS (⟨rlA_1 hc4 hrl hc52, by rw [rlO_1 hc4 hrl hc52]; rfl, by rw [rlO_1 hc4 hrl hc52, nI_clamp (by omega)]; rfl, by rw [rlO_1 hc4 hrl hc52, nI_clamp (by omega)]; rfl⟩) d_Mo_relation_92
              · rw [nI_eq (by omega) (by omega)] at hc52
                refine lv_bipush (v := (-3)) hx hb d_Mo_relation_55 (by decide) ?_
                exact retI (u := (nk, rs, rt)) hx hb hr hlk hP hD hS (⟨rlA_3 hc4 hrl hc52, by rw [rlO_3 hc52]; rfl, by rw [rlO_3 hc52]; rfl, by rw [rlO_3 hc52]; rfl⟩) d_Mo_relation_57
            · refine lv_bipush (v := (-2)) hx hb d_Mo_relation_43 (by decide) ?_
              exact retI (u := (nk, rs, rt)) hx hb hr hlk hP hD hS (by first | exact ⟨rlA_2 hc4 (rl_a (isS_n1 hc11)), by rw [rlO_2 (rl_a (isS_n1 hc11))]; rfl, by rw [rlO_2 (rl_a (isS_n1 hc11))]; rfl, by rw [rlO_2 (rl_a (isS_n1 hc11))]; rfl⟩ | exact ⟨rlA_2 hc4 (rl_a (isS_n2 hc21)), by rw [rlO_2 (rl_a (isS_n2 hc21))]; rfl, by rw [rlO_2 (rl_a (isS_n2 hc21))]; rfl, by rw [rlO_2 (rl_a (isS_n2 hc21))]; rfl⟩ | exact ⟨rlA_2 hc4 (rl_b hc26), by rw [rlO_2 (rl_b hc26)]; rfl, by rw [rlO_2 (rl_b hc26)]; rfl, by rw [rlO_2 (rl_b hc26)]; rfl⟩ | exact ⟨rlA_2 hc4 (rl_c hc31), by rw [rlO_2 (rl_c hc31)]; rfl, by rw [rlO_2 (rl_c hc31)]; rfl, by rw [rlO_2 (rl_c hc31)]; rfl⟩ | exact ⟨rlA_2 hc4 (rl_d (by omega) hc40), by rw [rlO_2 (rl_d (by omega) hc40)]; rfl, by rw [rlO_2 (rl_d (by omega) hc40)]; rfl, by rw [rlO_2 (rl_d (by omega) hc40)]; rfl⟩) d_Mo_relation_45
  · rw [bI_z] at hc4
    refine lv_iconst (v := (-1)) hx hb d_Mo_relation_7 (by decide) ?_
    exact retI (u := (nk, rs, rt)) hx hb hr hlk hP hD hS (⟨rlA_on hc4, by rw [rlO_on hc4]; rfl, by rw [rlO_on hc4]; rfl, by rw [rlO_on hc4]; rfl⟩) d_Mo_relation_8
