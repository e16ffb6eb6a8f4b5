set_option maxHeartbeats 8000000 in
set_option maxRecDepth 100000 in
theorem lw_18 {p : Program} {l : Launch} {e : Env} {s : State} {m : MethodId} {below : List Frame} {meth : Method} {c : Code} {b L : Nat} {xs : Nat → Int32} {X : Cx} {A : Nat → Prop} {x0 h0 hv hi hM hV hN wM wV wN hR t0 tm td sa g0 gc gg gn gt m0 aV aB aRS aRT aO aA aBt aD aT aS aR aE aK aIV aIN aOp aRw aGn : Nat} {am aw : Nat → Nat} {fm : Nat → Option Nat} (hx : p.tables.exec = Jvm.exec) (hb : c.code = code) (hml : c.maxLocals = 4) (hown : s.vm.findClass R_La = some m.cls) (hg : ∀ w ∈ gW, w.before #[Value.ref b] s = true) (hE : En X (TY X) A s s.heap) (hA : ∀ q : Nat, s.heap.size ≤ q → A q) (hX : va_X b L xs s s.heap) (hbl : b < s.heap.size) (hbA : ¬ A b) (hL : L ≤ 1536) (hfm : ∀ j, j < 8 → fm j = some (am j)) (hr : meth.sig.returnType = ret) (hlk : meth.locks = false) (hAe : A = fun q => s.heap.size ≤ q) {x9 : lwT} {H : Heap} {locs : List Loc} {ls : Array Slot} (hJ : lwJ x9) (hP : va_P X.1 classes (lwW X x0 h0 hv hi hM hV hN wM wV wN hR t0 tm td sa g0 gc gg gn gt m0 aV aB aRS aRT aO aA aBt aD aT aS aR aE aK aIV aIN aOp aRw aGn am aw fm x9) H) (hD : va_D A (lwW X x0 h0 hv hi hM hV hN wM wV wN hR t0 tm td sa g0 gc gg gn gt m0 aV aB aRS aRT aO aA aBt aD aT aS aR aE aK aIV aIN aOp aRw aGn am aw fm x9)) (hS : va_S A s.heap H locs) (hl : lv_has ls 4 (lwL b x0 m0 x9)) (ih : ∀ (y : lwT) (H : Heap) (locs : List Loc) (ls : Array Slot), lwM y < lwM x9 → lwJ y → va_P X.1 classes (lwW X x0 h0 hv hi hM hV hN wM wV wN hR t0 tm td sa g0 gc gg gn gt m0 aV aB aRS aRT aO aA aBt aD aT aS aR aE aK aIV aIN aOp aRw aGn am aw fm y) H → va_D A (lwW X x0 h0 hv hi hM hV hN wM wV wN hR t0 tm td sa g0 gc gg gn gt m0 aV aB aRS aRT aO aA aBt aD aT aS aR aE aK aIV aIN aOp aRw aGn am aw fm y) → va_S A s.heap H locs → lv_has ls 4 (lwL b x0 m0 y) → W p l e room_1 s m #[Value.ref b] below meth c H locs 55 26117 (lw_Z below #[Value.ref b] s) (F0 m 18 ls [])) : W p l e room_1 s m #[Value.ref b] below meth c H locs 55 26117 (lw_Z below #[Value.ref b] s) (F0 m 18 ls []) := by
  have hl0 : lv_has ls 4 [(3, .int (nI (3 * x9.1))), (0, .ref b), (1, .ref x0), (2, .ref m0)] := hl
  have hct : x9.1 ≤ 512 := by
    obtain ⟨_, _, _, _, _, _, _, _, _, _, h9, _⟩ := id hJ
    exact h9
  refine lv_iload_n hx hb d_law_18 rfl (lv_at hl0 0 rfl) ?_
  refine lv_aload_n hx hb d_law_19 rfl (lv_at hl0 1 rfl) ?_
  refine va_slen hx hb hX hbl hbA hS d_law_20 ?_
  refine topI (y := nI L) rfl ?_
  refine lv_iconst (v := nI 3) hx hb d_law_21 (by decide) ?_
  refine lv_isub hx hb d_law_22 ?_
  refine lv_icmp_gt (tgt := 527) hx hb d_law_23 (by decide) (fun hc => ?_) (fun hc => ?_)
  · refine lv_iconst (v := 1) hx hb d_law_527 (by decide) ?_
    refine va_forget (fun q9 h9 => ?_) ?_
    · have h8 := hS.2.2 q9 h9
      rw [hAe] at h8
      exact h8
    · refine W.widen (k := 600000) (n := 7302250) (Nat.le_of_ble_eq_true rfl) (Nat.le_of_ble_eq_true rfl) ?_
      exact lw_ret hx hb hr hlk d_law_528
  · rw [lw_cmp hL hct] at hc
    have hlt : 3 * x9.1 + 3 ≤ L := by omega
    refine lv_aload_n hx hb d_law_26 rfl (lv_at hl0 1 rfl) ?_
    refine lv_iload_n hx hb d_law_27 rfl (lv_at hl0 0 rfl) ?_
    refine va_sld hx hb hX hbl hbA hS (vp_in_nI (by omega) (by omega)) d_law_28 ?_
    refine topI (y := xs (3 * x9.1)) (by rw [nI_clamp (by omega)]) ?_
    refine lv_bipush (v := nI 31) hx hb d_law_29 (by decide) ?_
    refine lv_iand hx hb d_law_31 ?_
    obtain ⟨j, hj32, hj⟩ := pk_andE (xs (3 * x9.1)) (m := nI 31) 5 (by decide)
    refine topI (y := nI j) hj ?_
    clear hj
    have hj32 : j < 32 := hj32
    rcases (show j = 0 ∨ j = 1 ∨ j = 2 ∨ j = 3 ∨ j = 4 ∨ j = 5 ∨ j = 6 ∨ j = 7 ∨ j = 8 ∨ j = 9 ∨ j = 10 ∨ j = 11 ∨ j = 12 ∨ j = 13 ∨ j = 14 ∨ j = 15 ∨ j = 16 ∨ j = 17 ∨ j = 18 ∨ 18 < j by omega) with rfl | rfl | rfl | rfl | rfl | rfl | rfl | rfl | rfl | rfl | rfl | rfl | rfl | rfl | rfl | rfl | rfl | rfl | rfl | hj18
    · refine lv_tableIn (tgt := 124) hx hb d_law_32 (by decide +kernel) (by decide +kernel) (show _ = some (92 : Int) by decide +kernel) (by decide) ?_
      exact lw_b0 hx hb hml hown hg hE hA hX hbl hbA hL hfm hJ hP hD hS hl hlt ih
    · refine lv_tableIn (tgt := 147) hx hb d_law_32 (by decide +kernel) (by decide +kernel) (show _ = some (115 : Int) by decide +kernel) (by decide) ?_
      exact lw_b1 hx hb hml hown hg hE hA hX hbl hbA hL hfm hJ hP hD hS hl hlt ih
    · refine lv_tableIn (tgt := 180) hx hb d_law_32 (by decide +kernel) (by decide +kernel) (show _ = some (148 : Int) by decide +kernel) (by decide) ?_
      exact lw_b2 hx hb hml hown hg hE hA hX hbl hbA hL hfm hJ hP hD hS hl hlt ih
    · refine lv_tableIn (tgt := 213) hx hb d_law_32 (by decide +kernel) (by decide +kernel) (show _ = some (181 : Int) by decide +kernel) (by decide) ?_
      exact lw_b3 hx hb hml hown hg hE hA hX hbl hbA hL hfm hJ hP hD hS hl hlt ih
    · refine lv_tableIn (tgt := 246) hx hb d_law_32 (by decide +kernel) (by decide +kernel) (show _ = some (214 : Int) by decide +kernel) (by decide) ?_
      exact lw_b4 hx hb hml hown hg hE hA hX hbl hbA hL hfm hJ hP hD hS hl hlt ih
    · refine lv_tableIn (tgt := 259) hx hb d_law_32 (by decide +kernel) (by decide +kernel) (show _ = some (227 : Int) by decide +kernel) (by decide) ?_
      exact lw_b5 hx hb hml hown hg hE hA hX hbl hbA hL hfm hJ hP hD hS hl hlt ih
    · refine lv_tableIn (tgt := 282) hx hb d_law_32 (by decide +kernel) (by decide +kernel) (show _ = some (250 : Int) by decide +kernel) (by decide) ?_
      exact lw_b6 hx hb hml hown hg hE hA hX hbl hbA hL hfm hJ hP hD hS hl hlt ih
    · refine lv_tableIn (tgt := 295) hx hb d_law_32 (by decide +kernel) (by decide +kernel) (show _ = some (263 : Int) by decide +kernel) (by decide) ?_
      exact lw_b7 hx hb hml hown hg hE hA hX hbl hbA hL hfm hJ hP hD hS hl hlt ih
    · refine lv_tableIn (tgt := 318) hx hb d_law_32 (by decide +kernel) (by decide +kernel) (show _ = some (286 : Int) by decide +kernel) (by decide) ?_
      exact lw_b8 hx hb hml hown hg hE hA hX hbl hbA hL hfm hJ hP hD hS hl hlt ih
    · refine lv_tableIn (tgt := 331) hx hb d_law_32 (by decide +kernel) (by decide +kernel) (show _ = some (299 : Int) by decide +kernel) (by decide) ?_
      exact lw_b9 hx hb hml hown hg hE hA hX hbl hbA hL hfm hJ hP hD hS hl hlt ih
    · refine lv_tableIn (tgt := 344) hx hb d_law_32 (by decide +kernel) (by decide +kernel) (show _ = some (312 : Int) by decide +kernel) (by decide) ?_
      exact lw_b10 hx hb hml hown hg hE hA hX hbl hbA hL hfm hJ hP hD hS hl hlt ih
    · refine lv_tableIn (tgt := 357) hx hb d_law_32 (by decide +kernel) (by decide +kernel) (show _ = some (325 : Int) by decide +kernel) (by decide) ?_
      exact lw_b11 hx hb hml hown hg hE hA hX hbl hbA hL hfm hJ hP hD hS hl hlt ih
    · refine lv_tableIn (tgt := 370) hx hb d_law_32 (by decide +kernel) (by decide +kernel) (show _ = some (338 : Int) by decide +kernel) (by decide) ?_
      exact lw_b12 hx hb hml hown hg hE hA hX hbl hbA hL hfm hJ hP hD hS hl hlt ih
    · refine lv_tableIn (tgt := 393) hx hb d_law_32 (by decide +kernel) (by decide +kernel) (show _ = some (361 : Int) by decide +kernel) (by decide) ?_
      exact lw_b13 hx hb hml hown hg hE hA hX hbl hbA hL hfm hJ hP hD hS hl hlt ih
    · refine lv_tableIn (tgt := 416) hx hb d_law_32 (by decide +kernel) (by decide +kernel) (show _ = some (384 : Int) by decide +kernel) (by decide) ?_
      exact lw_b14 hx hb hml hown hg hE hA hX hbl hbA hL hfm hJ hP hD hS hl hlt ih
    · refine lv_tableIn (tgt := 429) hx hb d_law_32 (by decide +kernel) (by decide +kernel) (show _ = some (397 : Int) by decide +kernel) (by decide) ?_
      exact lw_b15 hx hb hml hown hg hE hA hX hbl hbA hL hfm hJ hP hD hS hl hlt ih
    · refine lv_tableIn (tgt := 452) hx hb d_law_32 (by decide +kernel) (by decide +kernel) (show _ = some (420 : Int) by decide +kernel) (by decide) ?_
      exact lw_b16 hx hb hml hown hg hE hA hX hbl hbA hL hfm hJ hP hD hS hl hlt ih
    · refine lv_tableIn (tgt := 475) hx hb d_law_32 (by decide +kernel) (by decide +kernel) (show _ = some (443 : Int) by decide +kernel) (by decide) ?_
      exact lw_b17 hx hb hml hown hg hE hA hX hbl hbA hL hfm hJ hP hD hS hl hlt ih
    · refine lv_tableIn (tgt := 498) hx hb d_law_32 (by decide +kernel) (by decide +kernel) (show _ = some (466 : Int) by decide +kernel) (by decide) ?_
      exact lw_b18 hx hb hml hown hg hE hA hX hbl hbA hL hfm hJ hP hD hS hl hlt ih
    · refine lv_tableOut (tgt := 521) hx hb d_law_32 (Or.inr (by rw [nI_toInt (by omega)]; omega)) (by decide) ?_
      exact lw_b19 hx hb hml hown hg hE hA hX hbl hbA hL hfm hJ hP hD hS hl hlt ih
