set_option maxHeartbeats 4000000 in
set_option maxRecDepth 100000 in
theorem k_Sp_wordWith (l : Launch) (X : Cx) (h0 hv hi hM hV hN : Nat) (P nr : Nat) (vl iv : Nat → Nat) (hvl : ∀ p, p < 6 → 1 ≤ vl p ∧ vl p ≤ 4) (q w : Nat) (hq : q < 6) (hw : w < 64) (ch : Int32) (cb : Nat → Bool) (hcb : ∀ v, v < 4 → ((ch >>> (nI v &&& 31)) &&& nI 1 = 0 ↔ cb v = false)) : CtL l X (TY X) y_Sp_wordWith cw_Sp_wordWith ({ frames := 2, cells := 0, slots := 0, locals := 43 } : Room) [.ref h0, .int (nI q), .int ch, .int (nI w)] [(h0, .inr (2, [.ref hv, .ref hi, .ref hM, .ref hV, .ref hN, .int (nI P), .int (nI nr)])), (hv, .inl (X.2 0, 6, .inl (ia vl)))] (S := Unit) (fun r _ => ∀ t, t < 64 → bL r t = (decide (dg (64 * w + t) q < vl q) && cb (dg (64 * w + t) q))) (fun _ => [(h0, .inr (2, [.ref hv, .ref hi, .ref hM, .ref hV, .ref hN, .int (nI P), .int (nI nr)])), (hv, .inl (X.2 0, 6, .inl (ia vl)))]) 0 0 := by
  refine metL (by decide) (Nat.le_of_ble_eq_true rfl) ?_
  intro p e s m below meth c A ls hB hl
  obtain ⟨hx, hb, hr, hml, hown, hlk, hin, hg, hA, hD, hP, hE⟩ := hB
  have hS : va_S A s.heap s.heap [] := va_S.rf
  have hl : lv_has ls 7 [(0, .ref h0), (1, .int (nI q)), (2, .int ch), (3, .int (nI w))] := hl
  have hvq := hvl q hq
  refine lv_lconst (v := 0) hx hb d_Sp_wordWith_0 (by decide) ?_
  refine lv_lstore hx hb d_Sp_wordWith_1 hl (by decide) rfl (fun ls hl => ?_)
  have hl : lv_has ls 7 [(4, .long 0), (0, .ref h0), (1, .int (nI q)), (2, .int ch), (3, .int (nI w))] := hl
  refine lv_iconst (v := nI 0) hx hb d_Sp_wordWith_3 (by decide) ?_
  refine lv_istore hx hb d_Sp_wordWith_4 hl (by decide) rfl (fun ls hl => ?_)
  have hl : lv_has ls 7 [(6, .int (nI 0)), (4, .long 0), (0, .ref h0), (1, .int (nI q)), (2, .int ch), (3, .int (nI w))] := hl
  refine wLoop (nL := 7) (σ := (Nat) × (Int64)) (fun x9 => (fun (v : Nat) (a : Int64) => vl q - v) x9.1 x9.2) (fun x9 => (fun (v : Nat) (a : Int64) => v ≤ vl q ∧ ∀ t, t < 64 → bL a t = (decide (dg (64 * w + t) q < v) && cb (dg (64 * w + t) q))) x9.1 x9.2) (fun x9 => (fun (v : Nat) (a : Int64) => [(h0, .inr (2, [.ref hv, .ref hi, .ref hM, .ref hV, .ref hN, .int (nI P), .int (nI nr)])), (hv, .inl (X.2 0, 6, .inl (ia vl)))]) x9.1 x9.2) (fun x9 => (fun (v : Nat) (a : Int64) => [(0, .ref h0), (1, .int (nI q)), (2, .int ch), (3, .int (nI w)), (4, .long a), (6, .int (nI v))]) x9.1 x9.2) ?_ (0, 0) (⟨by (try dsimp only); omega, fun t ht => wwS t⟩) hP hD hS (lv_sub hl [2, 3, 4, 5, 1, 0] rfl)
  rintro ⟨v, a⟩ H locs ls hJ hP hD hS hl ih6
  have hJ : v ≤ vl q ∧ ∀ t, t < 64 → bL a t = (decide (dg (64 * w + t) q < v) && cb (dg (64 * w + t) q)) := hJ
  obtain ⟨hv4, ha⟩ := hJ
  have hP : va_P X.1 classes [(h0, .inr (2, [.ref hv, .ref hi, .ref hM, .ref hV, .ref hN, .int (nI P), .int (nI nr)])), (hv, .inl (X.2 0, 6, .inl (ia vl)))] H := hP
  have hD : va_D A [(h0, .inr (2, [.ref hv, .ref hi, .ref hM, .ref hV, .ref hN, .int (nI P), .int (nI nr)])), (hv, .inl (X.2 0, 6, .inl (ia vl)))] := hD
  have hl : lv_has ls 7 [(0, .ref h0), (1, .int (nI q)), (2, .int ch), (3, .int (nI w)), (4, .long a), (6, .int (nI v))] := hl
  refine lv_iload hx hb d_Sp_wordWith_6 (lv_at hl 5 rfl) ?_
  refine lv_aload_n hx hb d_Sp_wordWith_8 rfl (lv_at hl 0 rfl) ?_
  refine va_get (D := X.1) (ci := 2) (v := .ref hv) (C := R_Sp) (T := F_Sp) (N := 7) hx hb hg in_Sp hown hE.1 hP 0 rfl rfl 0 (by decide) (hg _ m_66) (fun _ h9 => h9) rfl d_Sp_wordWith_9 ?_
  refine lv_iload_n hx hb d_Sp_wordWith_12 rfl (lv_at hl 1 rfl) ?_
  refine va_iald hx hb hE.1 hP 1 0 rfl rfl (vp_in_nI (by omega) (by decide)) d_Sp_wordWith_13 ?_
  refine topI (y := (ia vl) q) (by rw [nI_clamp (by omega)]) ?_
  refine topI (y := nI (vl q)) (rfl) ?_
  refine lv_icmp_ge (tgt := 44) hx hb d_Sp_wordWith_14 (by decide) (fun hc14 => ?_) (fun hc14 => ?_)
  · rw [nI_leI (by omega) (by omega)] at hc14
    refine lv_lload hx hb d_Sp_wordWith_44 (lv_at hl 4 rfl) ?_
    obtain rfl : v = vl q := by omega
    exact retL (u := ()) hx hb hr hlk hP hD hS (ha) d_Sp_wordWith_46
  · rw [nI_leI (by omega) (by omega)] at hc14
    refine lv_iload_n hx hb d_Sp_wordWith_17 rfl (lv_at hl 2 rfl) ?_
    refine lv_iload hx hb d_Sp_wordWith_18 (lv_at hl 5 rfl) ?_
    refine lv_ishr hx hb d_Sp_wordWith_20 ?_
    refine lv_iconst (v := nI 1) hx hb d_Sp_wordWith_21 (by decide) ?_
    refine lv_iand hx hb d_Sp_wordWith_22 ?_
    refine lv_if_eq (tgt := 38) hx hb d_Sp_wordWith_23 (by decide) (fun hc23 => ?_) (fun hc23 => ?_)
    · rw [hcb v (by omega)] at hc23
      refine lv_iinc (k := 5) (v := nI (v + 1)) hx hb d_Sp_wordWith_38 hl rfl (nI_1 _) (by decide) rfl (fun ls hl => ?_)
      have hl : lv_has ls 7 [(6, .int (nI (v + 1))), (0, .ref h0), (1, .int (nI q)), (2, .int ch), (3, .int (nI w)), (4, .long a)] := hl
      refine lv_goto (tgt := 6) hx hb d_Sp_wordWith_41 (by decide) ?_
      exact ih6 (v + 1, a) H locs ls (by (try dsimp only); omega) (⟨by (try dsimp only); omega, by first | exact wwF ha hc23 | exact wwT ha hc23 hq32⟩) hP hD hS (lv_sub hl [1, 2, 3, 4, 5, 0] rfl)
    · rw [hcb v (by omega)] at hc23
      have hc23 := ts_nf hc23
      refine lv_lload hx hb d_Sp_wordWith_26 (lv_at hl 4 rfl) ?_
      refine lv_iload_n hx hb d_Sp_wordWith_28 rfl (lv_at hl 1 rfl) ?_
      refine lv_iload hx hb d_Sp_wordWith_29 (lv_at hl 5 rfl) ?_
      refine lv_iload_n hx hb d_Sp_wordWith_31 rfl (lv_at hl 3 rfl) ?_
      refine clSL (n := 3) (As := [.int (nI q), .int (nI v), .int (nI w)]) (rest := [.long a]) (wc := []) (wr := [(h0, .inr (2, [.ref hv, .ref hi, .ref hM, .ref hV, .ref hN, .int (nI P), .int (nI nr)])), (hv, .inl (X.2 0, 6, .inl (ia vl)))]) hx hb hml hown hg hE hA hP hD hS (k_NS_wordOf l X q v w hq (by omega) hw) (gcons m_58 (gcons m_59 (gcons m_3 (gcons m_60 gG)))) (by decide +kernel) [] [0, 1] rfl rfl (by decide) (by decide) (by decide) rfl hl.1 (Nat.le_of_ble_eq_true rfl) rfl d_Sp_wordWith_32 ⟨rfl, rfl, Nat.le_of_ble_eq_true rfl, Nat.le_of_ble_eq_true rfl⟩ (⟨Nat.le_of_ble_eq_true rfl, Nat.le_of_ble_eq_true rfl⟩) (fun r32 u32 H locs hq32 hP hD hS => ?_)
      have hP : va_P X.1 classes [(h0, .inr (2, [.ref hv, .ref hi, .ref hM, .ref hV, .ref hN, .int (nI P), .int (nI nr)])), (hv, .inl (X.2 0, 6, .inl (ia vl)))] H := hP
      have hD : va_D A [(h0, .inr (2, [.ref hv, .ref hi, .ref hM, .ref hV, .ref hN, .int (nI P), .int (nI nr)])), (hv, .inl (X.2 0, 6, .inl (ia vl)))] := hD
      refine lv_lor hx hb d_Sp_wordWith_35 ?_
      refine lv_lstore hx hb d_Sp_wordWith_36 hl (by decide) rfl (fun ls hl => ?_)
      have hl : lv_has ls 7 [(4, .long (a ||| r32)), (0, .ref h0), (1, .int (nI q)), (2, .int ch), (3, .int (nI w)), (6, .int (nI v))] := hl
      refine lv_iinc (k := 5) (v := nI (v + 1)) hx hb d_Sp_wordWith_38 hl rfl (nI_1 _) (by decide) rfl (fun ls hl => ?_)
      have hl : lv_has ls 7 [(6, .int (nI (v + 1))), (4, .long (a ||| r32)), (0, .ref h0), (1, .int (nI q)), (2, .int ch), (3, .int (nI w))] := hl
      refine lv_goto (tgt := 6) hx hb d_Sp_wordWith_41 (by decide) ?_
      exact ih6 (v + 1, (a ||| r32)) H locs ls (by (try dsimp only); omega) (⟨by (try dsimp only); omega, by first | exact wwF ha hc23 | exact wwT ha hc23 hq32⟩) hP hD hS (lv_sub hl [2, 3, 4, 5, 1, 0] rfl)
set_option maxHeartbeats 4000000 in
set_option maxRecDepth 100000 in
theorem k_Sp_sortRows (l : Launch) (X : Cx) (h0 hv hi hM hV hN : Nat) (P nr : Nat) (vl iv : Nat → Nat) (hvl : ∀ p, p < 6 → 1 ≤ vl p ∧ vl p ≤ 4) (hiv : ∀ p, p < 6 → iv p < 16) (wM wV wN : Nat) (fM fV fN : Nat → Int64) (M : Nat → Bool) (hM0 : RS fM M) : CtV l X (TY X) y_Sp_sortRows cw_Sp_sortRows ({ frames := 3, cells := 0, slots := 0, locals := 69 } : Room) [.ref h0] [(h0, .inr (2, [.ref hv, .ref hi, .ref hM, .ref hV, .ref hN, .int (nI P), .int (nI nr)])), (hv, .inl (X.2 0, 6, .inl (ia vl))), (hi, .inl (X.2 0, 6, .inl (ia iv))), (hM, .inr (0, [.ref wM])), (wM, .inl (X.2 1, 64, .inr (.inl fM))), (hV, .inr (0, [.ref wV])), (wV, .inl (X.2 1, 64, .inr (.inl fV))), (hN, .inr (0, [.ref wN])), (wN, .inl (X.2 1, 64, .inr (.inl fN)))] (S := (Nat → Int64) × (Nat → Int64)) (fun d => RS d.1 (fun r => vK vl iv M r 6) ∧ RS d.2 (fun r => nK vl iv M r 6)) (fun d => [(h0, .inr (2, [.ref hv, .ref hi, .ref hM, .ref hV, .ref hN, .int (nI P), .int (nI nr)])), (hv, .inl (X.2 0, 6, .inl (ia vl))), (hi, .inl (X.2 0, 6, .inl (ia iv))), (hM, .inr (0, [.ref wM])), (wM, .inl (X.2 1, 64, .inr (.inl fM))), (hV, .inr (0, [.ref wV])), (wV, .inl (X.2 1, 64, .inr (.inl d.1))), (hN, .inr (0, [.ref wN])), (wN, .inl (X.2 1, 64, .inr (.inl d.2)))]) 0 0 := by
  refine metV (by decide) (Nat.le_of_ble_eq_true rfl) ?_
  intro p e s m below meth c A ls hB hl
  obtain ⟨hx, hb, hr, hml, hown, hlk, hin, hg, hA, hD, hP, hE⟩ := hB
  have hS : va_S A s.heap s.heap [] := va_S.rf
  have hl : lv_has ls 11 [(0, .ref h0)] := hl
  refine lv_iconst (v := nI 0) hx hb d_Sp_sortRows_0 (by decide) ?_
  refine lv_istore_n hx hb d_Sp_sortRows_1 rfl hl (by decide) rfl (fun ls hl => ?_)
  have hl : lv_has ls 11 [(1, .int (nI 0)), (0, .ref h0)] := hl
  refine wLoop (nL := 11) (σ := (Nat) × (Nat → Int64) × (Nat → Int64)) (fun x9 => (fun (i : Nat) (g : Nat → Int64) (h : Nat → Int64) => 64 - i) x9.1 x9.2.1 x9.2.2) (fun x9 => (fun (i : Nat) (g : Nat → Int64) (h : Nat → Int64) => i ≤ 64 ∧ ∀ w, w < i → ∀ t, t < 64 → bL (g w) t = vK vl iv M (64 * w + t) 6 ∧ bL (h w) t = nK vl iv M (64 * w + t) 6) x9.1 x9.2.1 x9.2.2) (fun x9 => (fun (i : Nat) (g : Nat → Int64) (h : Nat → Int64) => [(h0, .inr (2, [.ref hv, .ref hi, .ref hM, .ref hV, .ref hN, .int (nI P), .int (nI nr)])), (hv, .inl (X.2 0, 6, .inl (ia vl))), (hi, .inl (X.2 0, 6, .inl (ia iv))), (hM, .inr (0, [.ref wM])), (wM, .inl (X.2 1, 64, .inr (.inl fM))), (hV, .inr (0, [.ref wV])), (wV, .inl (X.2 1, 64, .inr (.inl g))), (hN, .inr (0, [.ref wN])), (wN, .inl (X.2 1, 64, .inr (.inl h)))]) x9.1 x9.2.1 x9.2.2) (fun x9 => (fun (i : Nat) (g : Nat → Int64) (h : Nat → Int64) => [(0, .ref h0), (1, .int (nI i))]) x9.1 x9.2.1 x9.2.2) ?_ (0, fV, fN) (⟨by omega, fun w h => absurd h (by omega)⟩) hP hD hS (lv_sub hl [1, 0] rfl)
  rintro ⟨i, g, h⟩ H locs ls hJ hP hD hS hl ih2
  have hJ : i ≤ 64 ∧ ∀ w, w < i → ∀ t, t < 64 → bL (g w) t = vK vl iv M (64 * w + t) 6 ∧ bL (h w) t = nK vl iv M (64 * w + t) 6 := hJ
  obtain ⟨hi64, hgh⟩ := hJ
  have hP : va_P X.1 classes [(h0, .inr (2, [.ref hv, .ref hi, .ref hM, .ref hV, .ref hN, .int (nI P), .int (nI nr)])), (hv, .inl (X.2 0, 6, .inl (ia vl))), (hi, .inl (X.2 0, 6, .inl (ia iv))), (hM, .inr (0, [.ref wM])), (wM, .inl (X.2 1, 64, .inr (.inl fM))), (hV, .inr (0, [.ref wV])), (wV, .inl (X.2 1, 64, .inr (.inl g))), (hN, .inr (0, [.ref wN])), (wN, .inl (X.2 1, 64, .inr (.inl h)))] H := hP
  have hD : va_D A [(h0, .inr (2, [.ref hv, .ref hi, .ref hM, .ref hV, .ref hN, .int (nI P), .int (nI nr)])), (hv, .inl (X.2 0, 6, .inl (ia vl))), (hi, .inl (X.2 0, 6, .inl (ia iv))), (hM, .inr (0, [.ref wM])), (wM, .inl (X.2 1, 64, .inr (.inl fM))), (hV, .inr (0, [.ref wV])), (wV, .inl (X.2 1, 64, .inr (.inl g))), (hN, .inr (0, [.ref wN])), (wN, .inl (X.2 1, 64, .inr (.inl h)))] := hD
  have hl : lv_has ls 11 [(0, .ref h0), (1, .int (nI i))] := hl
  refine lv_iload_n hx hb d_Sp_sortRows_2 rfl (lv_at hl 1 rfl) ?_
  refine lv_bipush (v := nI 64) hx hb d_Sp_sortRows_3 (by decide) ?_
  refine lv_icmp_ge (tgt := 115) hx hb d_Sp_sortRows_5 (by decide) (fun hc5 => ?_) (fun hc5 => ?_)
  · rw [nI_leI (by omega) (by omega)] at hc5
    exact retV (u := (g, h)) hx hb hr hlk hP hD hS (⟨fun w hw t ht => (hgh w (by omega) t ht).1, fun w hw t ht => (hgh w (by omega) t ht).2⟩) d_Sp_sortRows_115
  · rw [nI_leI (by omega) (by omega)] at hc5
    refine lv_aload_n hx hb d_Sp_sortRows_8 rfl (lv_at hl 0 rfl) ?_
    refine va_get (D := X.1) (ci := 2) (v := .ref hM) (C := R_Sp) (T := F_Sp) (N := 7) hx hb hg in_Sp hown hE.1 hP 0 rfl rfl 2 (by decide) (hg _ m_68) (fun _ h9 => h9) rfl d_Sp_sortRows_9 ?_
    refine va_get (D := X.1) (ci := 0) (v := .ref wM) (C := R_NS) (T := F_NS) (N := 1) hx hb hg in_NS hown hE.1 hP 3 rfl rfl 0 (by decide) (hg _ m_33) (fun _ h9 => h9) rfl d_Sp_sortRows_12 ?_
    refine lv_iload_n hx hb d_Sp_sortRows_15 rfl (lv_at hl 1 rfl) ?_
    refine va_lald hx hb hE.1 hP 4 1 rfl rfl (vp_in_nI (by omega) (by decide)) d_Sp_sortRows_16 ?_
    refine topL (y := fM i) (by rw [nI_clamp (by omega)]) ?_
    refine lv_lstore_n hx hb d_Sp_sortRows_17 rfl hl (by decide) rfl (fun ls hl => ?_)
    have hl : lv_has ls 11 [(2, .long (fM i)), (0, .ref h0), (1, .int (nI i))] := hl
    refine lv_lconst (v := 0) hx hb d_Sp_sortRows_18 (by decide) ?_
    refine lv_lstore hx hb d_Sp_sortRows_19 hl (by decide) rfl (fun ls hl => ?_)
    have hl : lv_has ls 11 [(4, .long 0), (2, .long (fM i)), (0, .ref h0), (1, .int (nI i))] := hl
    refine lv_iconst (v := nI 0) hx hb d_Sp_sortRows_21 (by decide) ?_
    refine lv_istore hx hb d_Sp_sortRows_22 hl (by decide) rfl (fun ls hl => ?_)
    have hl : lv_has ls 11 [(6, .int (nI 0)), (4, .long 0), (2, .long (fM i)), (0, .ref h0), (1, .int (nI i))] := hl
    refine wLoop (nL := 11) (σ := (Nat) × (Int64) × (Int64)) (fun x9 => (fun (k : Nat) (a : Int64) (b : Int64) => 6 - k) x9.1 x9.2.1 x9.2.2) (fun x9 => (fun (k : Nat) (a : Int64) (b : Int64) => k ≤ 6 ∧ ∀ t, t < 64 → bL a t = vK vl iv M (64 * i + t) k ∧ bL b t = nK vl iv M (64 * i + t) k) x9.1 x9.2.1 x9.2.2) (fun x9 => (fun (k : Nat) (a : Int64) (b : Int64) => [(h0, .inr (2, [.ref hv, .ref hi, .ref hM, .ref hV, .ref hN, .int (nI P), .int (nI nr)])), (hv, .inl (X.2 0, 6, .inl (ia vl))), (hi, .inl (X.2 0, 6, .inl (ia iv))), (hM, .inr (0, [.ref wM])), (wM, .inl (X.2 1, 64, .inr (.inl fM))), (hV, .inr (0, [.ref wV])), (wV, .inl (X.2 1, 64, .inr (.inl g))), (hN, .inr (0, [.ref wN])), (wN, .inl (X.2 1, 64, .inr (.inl h)))]) x9.1 x9.2.1 x9.2.2) (fun x9 => (fun (k : Nat) (a : Int64) (b : Int64) => [(0, .ref h0), (1, .int (nI i)), (2, .long a), (4, .long b), (6, .int (nI k))]) x9.1 x9.2.1 x9.2.2) ?_ (0, fM i, 0) (⟨by omega, fun t ht => ⟨hM0 i (by omega) t ht, bL_0 t⟩⟩) hP hD hS (lv_sub hl [3, 4, 2, 1, 0] rfl)
    rintro ⟨k, a, b⟩ H locs ls hJ hP hD hS hl ih24
    have hJ : k ≤ 6 ∧ ∀ t, t < 64 → bL a t = vK vl iv M (64 * i + t) k ∧ bL b t = nK vl iv M (64 * i + t) k := hJ
    obtain ⟨hp6, hjn⟩ := hJ
    have hip := hiv
    have hP : va_P X.1 classes [(h0, .inr (2, [.ref hv, .ref hi, .ref hM, .ref hV, .ref hN, .int (nI P), .int (nI nr)])), (hv, .inl (X.2 0, 6, .inl (ia vl))), (hi, .inl (X.2 0, 6, .inl (ia iv))), (hM, .inr (0, [.ref wM])), (wM, .inl (X.2 1, 64, .inr (.inl fM))), (hV, .inr (0, [.ref wV])), (wV, .inl (X.2 1, 64, .inr (.inl g))), (hN, .inr (0, [.ref wN])), (wN, .inl (X.2 1, 64, .inr (.inl h)))] H := hP
    have hD : va_D A [(h0, .inr (2, [.ref hv, .ref hi, .ref hM, .ref hV, .ref hN, .int (nI P), .int (nI nr)])), (hv, .inl (X.2 0, 6, .inl (ia vl))), (hi, .inl (X.2 0, 6, .inl (ia iv))), (hM, .inr (0, [.ref wM])), (wM, .inl (X.2 1, 64, .inr (.inl fM))), (hV, .inr (0, [.ref wV])), (wV, .inl (X.2 1, 64, .inr (.inl g))), (hN, .inr (0, [.ref wN])), (wN, .inl (X.2 1, 64, .inr (.inl h)))] := hD
    have hl : lv_has ls 11 [(0, .ref h0), (1, .int (nI i)), (2, .long a), (4, .long b), (6, .int (nI k))] := hl
    refine lv_iload hx hb d_Sp_sortRows_24 (lv_at hl 4 rfl) ?_
    refine lv_bipush (v := nI 6) hx hb d_Sp_sortRows_26 (by decide) ?_
    refine lv_icmp_ge (tgt := 88) hx hb d_Sp_sortRows_28 (by decide) (fun hc28 => ?_) (fun hc28 => ?_)
    · rw [nI_leI (by omega) (by omega)] at hc28
      obtain rfl : k = 6 := by omega
      refine lv_aload_n hx hb d_Sp_sortRows_88 rfl (lv_at hl 0 rfl) ?_
      refine va_get (D := X.1) (ci := 2) (v := .ref hV) (C := R_Sp) (T := F_Sp) (N := 7) hx hb hg in_Sp hown hE.1 hP 0 rfl rfl 3 (by decide) (hg _ m_69) (fun _ h9 => h9) rfl d_Sp_sortRows_89 ?_
      refine va_get (D := X.1) (ci := 0) (v := .ref wV) (C := R_NS) (T := F_NS) (N := 1) hx hb hg in_NS hown hE.1 hP 5 rfl rfl 0 (by decide) (hg _ m_33) (fun _ h9 => h9) rfl d_Sp_sortRows_92 ?_
      refine lv_iload_n hx hb d_Sp_sortRows_95 rfl (lv_at hl 1 rfl) ?_
      refine lv_lload_n hx hb d_Sp_sortRows_96 rfl (lv_at hl 2 rfl) ?_
      refine va_last hx hb hE.1 hP hD hS 6 1 rfl rfl (vp_in_nI (by omega) (by decide)) d_Sp_sortRows_97 (fun H locs hP hD hS => ?_)
      have hP : va_P X.1 classes [(h0, .inr (2, [.ref hv, .ref hi, .ref hM, .ref hV, .ref hN, .int (nI P), .int (nI nr)])), (hv, .inl (X.2 0, 6, .inl (ia vl))), (hi, .inl (X.2 0, 6, .inl (ia iv))), (hM, .inr (0, [.ref wM])), (wM, .inl (X.2 1, 64, .inr (.inl fM))), (hV, .inr (0, [.ref wV])), (wV, .inl (X.2 1, 64, .inr (.inl (vp_updL g (nI i).toNatClampNeg a)))), (hN, .inr (0, [.ref wN])), (wN, .inl (X.2 1, 64, .inr (.inl h)))] H := hP
      have hD : va_D A [(h0, .inr (2, [.ref hv, .ref hi, .ref hM, .ref hV, .ref hN, .int (nI P), .int (nI nr)])), (hv, .inl (X.2 0, 6, .inl (ia vl))), (hi, .inl (X.2 0, 6, .inl (ia iv))), (hM, .inr (0, [.ref wM])), (wM, .inl (X.2 1, 64, .inr (.inl fM))), (hV, .inr (0, [.ref wV])), (wV, .inl (X.2 1, 64, .inr (.inl (vp_updL g (nI i).toNatClampNeg a)))), (hN, .inr (0, [.ref wN])), (wN, .inl (X.2 1, 64, .inr (.inl h)))] := hD
      rw [nI_clamp (show i < 2 ^ 31 by omega)] at hP hD
      generalize hg2 : vp_updL g i a = g2 at hP hD
      refine lv_aload_n hx hb d_Sp_sortRows_98 rfl (lv_at hl 0 rfl) ?_
      refine va_get (D := X.1) (ci := 2) (v := .ref hN) (C := R_Sp) (T := F_Sp) (N := 7) hx hb hg in_Sp hown hE.1 hP 0 rfl rfl 4 (by decide) (hg _ m_72) (fun _ h9 => h9) rfl d_Sp_sortRows_99 ?_
      refine va_get (D := X.1) (ci := 0) (v := .ref wN) (C := R_NS) (T := F_NS) (N := 1) hx hb hg in_NS hown hE.1 hP 7 rfl rfl 0 (by decide) (hg _ m_33) (fun _ h9 => h9) rfl d_Sp_sortRows_102 ?_
      refine lv_iload_n hx hb d_Sp_sortRows_105 rfl (lv_at hl 1 rfl) ?_
      refine lv_lload hx hb d_Sp_sortRows_106 (lv_at hl 3 rfl) ?_
      refine va_last hx hb hE.1 hP hD hS 8 1 rfl rfl (vp_in_nI (by omega) (by decide)) d_Sp_sortRows_108 (fun H locs hP hD hS => ?_)
      have hP : va_P X.1 classes [(h0, .inr (2, [.ref hv, .ref hi, .ref hM, .ref hV, .ref hN, .int (nI P), .int (nI nr)])), (hv, .inl (X.2 0, 6, .inl (ia vl))), (hi, .inl (X.2 0, 6, .inl (ia iv))), (hM, .inr (0, [.ref wM])), (wM, .inl (X.2 1, 64, .inr (.inl fM))), (hV, .inr (0, [.ref wV])), (wV, .inl (X.2 1, 64, .inr (.inl g2))), (hN, .inr (0, [.ref wN])), (wN, .inl (X.2 1, 64, .inr (.inl (vp_updL h (nI i).toNatClampNeg b))))] H := hP
      have hD : va_D A [(h0, .inr (2, [.ref hv, .ref hi, .ref hM, .ref hV, .ref hN, .int (nI P), .int (nI nr)])), (hv, .inl (X.2 0, 6, .inl (ia vl))), (hi, .inl (X.2 0, 6, .inl (ia iv))), (hM, .inr (0, [.ref wM])), (wM, .inl (X.2 1, 64, .inr (.inl fM))), (hV, .inr (0, [.ref wV])), (wV, .inl (X.2 1, 64, .inr (.inl g2))), (hN, .inr (0, [.ref wN])), (wN, .inl (X.2 1, 64, .inr (.inl (vp_updL h (nI i).toNatClampNeg b))))] := hD
      rw [nI_clamp (show i < 2 ^ 31 by omega)] at hP hD
      generalize hh2 : vp_updL h i b = h2 at hP hD
      refine lv_iinc (k := 1) (v := nI (i + 1)) hx hb d_Sp_sortRows_109 hl rfl (nI_1 _) (by decide) rfl (fun ls hl => ?_)
      have hl : lv_has ls 11 [(1, .int (nI (i + 1))), (0, .ref h0), (2, .long a), (4, .long b), (6, .int (nI 6))] := hl
      refine lv_goto (tgt := 2) hx hb d_Sp_sortRows_112 (by decide) ?_
      exact ih2 (i + 1, g2, h2) H locs ls (by (try dsimp only); omega) (⟨by (try dsimp only); omega, sortK hgh hjn hg2 hh2⟩) hP hD hS (lv_sub hl [1, 0] rfl)
    · rw [nI_leI (by omega) (by omega)] at hc28
      refine lv_aload_n hx hb d_Sp_sortRows_31 rfl (lv_at hl 0 rfl) ?_
      refine lv_iload hx hb d_Sp_sortRows_32 (lv_at hl 4 rfl) ?_
      refine lv_aload_n hx hb d_Sp_sortRows_34 rfl (lv_at hl 0 rfl) ?_
      refine va_get (D := X.1) (ci := 2) (v := .ref hi) (C := R_Sp) (T := F_Sp) (N := 7) hx hb hg in_Sp hown hE.1 hP 0 rfl rfl 1 (by decide) (hg _ m_67) (fun _ h9 => h9) rfl d_Sp_sortRows_35 ?_
      refine lv_iload hx hb d_Sp_sortRows_38 (lv_at hl 4 rfl) ?_
      refine va_iald hx hb hE.1 hP 2 0 rfl rfl (vp_in_nI (by omega) (by decide)) d_Sp_sortRows_40 ?_
      refine topI (y := (ia iv) k) (by rw [nI_clamp (by omega)]) ?_
      refine topI (y := nI (iv k)) (rfl) ?_
      refine lv_iconst (v := (-1)) hx hb d_Sp_sortRows_41 (by decide) ?_
      refine lv_ixor hx hb d_Sp_sortRows_42 ?_
      refine lv_iload_n hx hb d_Sp_sortRows_43 rfl (lv_at hl 1 rfl) ?_
      refine clVL (n := 3) (As := [.int (nI k), .int ((nI (iv k)) ^^^ ((-1))), .int (nI i)]) (rest := []) (wc := [(h0, .inr (2, [.ref hv, .ref hi, .ref hM, .ref hV, .ref hN, .int (nI P), .int (nI nr)])), (hv, .inl (X.2 0, 6, .inl (ia vl)))]) (wr := [(hi, .inl (X.2 0, 6, .inl (ia iv))), (hM, .inr (0, [.ref wM])), (wM, .inl (X.2 1, 64, .inr (.inl fM))), (hV, .inr (0, [.ref wV])), (wV, .inl (X.2 1, 64, .inr (.inl g))), (hN, .inr (0, [.ref wN])), (wN, .inl (X.2 1, 64, .inr (.inl h)))]) hx hb hml hown hg hE hA hP hD hS (k_Sp_wordWith l X h0 hv hi hM hV hN P nr vl iv hvl k i (by omega) (by omega) _ (fun v => !((iv k).testBit v)) (cbN (hiv k (by omega)))) (gcons m_54 (gcons m_56 (gcons ms_Sp_wordWith (gcons m_2 (gcons m_57 gG))))) (by decide +kernel) [0, 1] [2, 3, 4, 5, 6, 7, 8] rfl rfl (by decide) (by decide) (by decide) 0 rfl rfl rfl hl.1 (Nat.le_of_ble_eq_true rfl) rfl d_Sp_sortRows_44 ⟨rfl, rfl, Nat.le_of_ble_eq_true rfl, Nat.le_of_ble_eq_true rfl⟩ (⟨Nat.le_of_ble_eq_true rfl, Nat.le_of_ble_eq_true rfl⟩) (fun r44 u44 H locs hq44 hP hD hS => ?_)
      have hP := hP.sub (ws' := [(h0, .inr (2, [.ref hv, .ref hi, .ref hM, .ref hV, .ref hN, .int (nI P), .int (nI nr)])), (hv, .inl (X.2 0, 6, .inl (ia vl))), (hi, .inl (X.2 0, 6, .inl (ia iv))), (hM, .inr (0, [.ref wM])), (wM, .inl (X.2 1, 64, .inr (.inl fM))), (hV, .inr (0, [.ref wV])), (wV, .inl (X.2 1, 64, .inr (.inl g))), (hN, .inr (0, [.ref wN])), (wN, .inl (X.2 1, 64, .inr (.inl h)))]) [7, 8, 0, 1, 2, 3, 4, 5, 6] rfl
      have hD := hD.sub (ws' := [(h0, .inr (2, [.ref hv, .ref hi, .ref hM, .ref hV, .ref hN, .int (nI P), .int (nI nr)])), (hv, .inl (X.2 0, 6, .inl (ia vl))), (hi, .inl (X.2 0, 6, .inl (ia iv))), (hM, .inr (0, [.ref wM])), (wM, .inl (X.2 1, 64, .inr (.inl fM))), (hV, .inr (0, [.ref wV])), (wV, .inl (X.2 1, 64, .inr (.inl g))), (hN, .inr (0, [.ref wN])), (wN, .inl (X.2 1, 64, .inr (.inl h)))]) [7, 8, 0, 1, 2, 3, 4, 5, 6] (by decide) rfl
      refine lv_lstore hx hb d_Sp_sortRows_47 hl (by decide) rfl (fun ls hl => ?_)
      have hl : lv_has ls 11 [(7, .long r44), (0, .ref h0), (1, .int (nI i)), (2, .long a), (4, .long b), (6, .int (nI k))] := hl
      refine lv_aload_n hx hb d_Sp_sortRows_49 rfl (lv_at hl 1 rfl) ?_
      refine lv_iload hx hb d_Sp_sortRows_50 (lv_at hl 5 rfl) ?_
      refine lv_aload_n hx hb d_Sp_sortRows_52 rfl (lv_at hl 1 rfl) ?_
      refine va_get (D := X.1) (ci := 2) (v := .ref hi) (C := R_Sp) (T := F_Sp) (N := 7) hx hb hg in_Sp hown hE.1 hP 0 rfl rfl 1 (by decide) (hg _ m_67) (fun _ h9 => h9) rfl d_Sp_sortRows_53 ?_
      refine lv_iload hx hb d_Sp_sortRows_56 (lv_at hl 5 rfl) ?_
      refine va_iald hx hb hE.1 hP 2 0 rfl rfl (vp_in_nI (by omega) (by decide)) d_Sp_sortRows_58 ?_
      refine topI (y := (ia iv) k) (by rw [nI_clamp (by omega)]) ?_
      refine topI (y := nI (iv k)) (rfl) ?_
      refine lv_iload_n hx hb d_Sp_sortRows_59 rfl (lv_at hl 2 rfl) ?_
      refine clVL (n := 3) (As := [.int (nI k), .int (nI (iv k)), .int (nI i)]) (rest := []) (wc := [(h0, .inr (2, [.ref hv, .ref hi, .ref hM, .ref hV, .ref hN, .int (nI P), .int (nI nr)])), (hv, .inl (X.2 0, 6, .inl (ia vl)))]) (wr := [(hi, .inl (X.2 0, 6, .inl (ia iv))), (hM, .inr (0, [.ref wM])), (wM, .inl (X.2 1, 64, .inr (.inl fM))), (hV, .inr (0, [.ref wV])), (wV, .inl (X.2 1, 64, .inr (.inl g))), (hN, .inr (0, [.ref wN])), (wN, .inl (X.2 1, 64, .inr (.inl h)))]) hx hb hml hown hg hE hA hP hD hS (k_Sp_wordWith l X h0 hv hi hM hV hN P nr vl iv hvl k i (by omega) (by omega) _ (fun v => (iv k).testBit v) (cbP (hiv k (by omega)))) (gcons m_54 (gcons m_56 (gcons ms_Sp_wordWith (gcons m_2 (gcons m_57 gG))))) (by decide +kernel) [0, 1] [2, 3, 4, 5, 6, 7, 8] rfl rfl (by decide) (by decide) (by decide) 0 rfl rfl rfl hl.1 (Nat.le_of_ble_eq_true rfl) rfl d_Sp_sortRows_60 ⟨rfl, rfl, Nat.le_of_ble_eq_true rfl, Nat.le_of_ble_eq_true rfl⟩ (⟨Nat.le_of_ble_eq_true rfl, Nat.le_of_ble_eq_true rfl⟩) (fun r60 u60 H locs hq60 hP hD hS => ?_)
      have hP := hP.sub (ws' := [(h0, .inr (2, [.ref hv, .ref hi, .ref hM, .ref hV, .ref hN, .int (nI P), .int (nI nr)])), (hv, .inl (X.2 0, 6, .inl (ia vl))), (hi, .inl (X.2 0, 6, .inl (ia iv))), (hM, .inr (0, [.ref wM])), (wM, .inl (X.2 1, 64, .inr (.inl fM))), (hV, .inr (0, [.ref wV])), (wV, .inl (X.2 1, 64, .inr (.inl g))), (hN, .inr (0, [.ref wN])), (wN, .inl (X.2 1, 64, .inr (.inl h)))]) [7, 8, 0, 1, 2, 3, 4, 5, 6] rfl
      have hD := hD.sub (ws' := [(h0, .inr (2, [.ref hv, .ref hi, .ref hM, .ref hV, .ref hN, .int (nI P), .int (nI nr)])), (hv, .inl (X.2 0, 6, .inl (ia vl))), (hi, .inl (X.2 0, 6, .inl (ia iv))), (hM, .inr (0, [.ref wM])), (wM, .inl (X.2 1, 64, .inr (.inl fM))), (hV, .inr (0, [.ref wV])), (wV, .inl (X.2 1, 64, .inr (.inl g))), (hN, .inr (0, [.ref wN])), (wN, .inl (X.2 1, 64, .inr (.inl h)))]) [7, 8, 0, 1, 2, 3, 4, 5, 6] (by decide) rfl
      refine lv_lstore hx hb d_Sp_sortRows_63 hl (by decide) rfl (fun ls hl => ?_)
      have hl : lv_has ls 11 [(9, .long r60), (7, .long r44), (0, .ref h0), (1, .int (nI i)), (2, .long a), (4, .long b), (6, .int (nI k))] := hl
      refine lv_lload hx hb d_Sp_sortRows_65 (lv_at hl 5 rfl) ?_
      refine lv_lload hx hb d_Sp_sortRows_67 (lv_at hl 1 rfl) ?_
      refine lv_land hx hb d_Sp_sortRows_69 ?_
      refine lv_lload_n hx hb d_Sp_sortRows_70 rfl (lv_at hl 4 rfl) ?_
      refine lv_lload hx hb d_Sp_sortRows_71 (lv_at hl 0 rfl) ?_
      refine lv_land hx hb d_Sp_sortRows_73 ?_
      refine lv_lor hx hb d_Sp_sortRows_74 ?_
      refine lv_lstore hx hb d_Sp_sortRows_75 hl (by decide) rfl (fun ls hl => ?_)
      have hl : lv_has ls 11 [(4, .long ((b &&& r44) ||| (a &&& r60))), (9, .long r60), (7, .long r44), (0, .ref h0), (1, .int (nI i)), (2, .long a), (6, .int (nI k))] := hl
      refine lv_lload_n hx hb d_Sp_sortRows_77 rfl (lv_at hl 5 rfl) ?_
      refine lv_lload hx hb d_Sp_sortRows_78 (lv_at hl 2 rfl) ?_
      refine lv_land hx hb d_Sp_sortRows_80 ?_
      refine lv_lstore_n hx hb d_Sp_sortRows_81 rfl hl (by decide) rfl (fun ls hl => ?_)
      have hl : lv_has ls 11 [(2, .long (a &&& r44)), (4, .long ((b &&& r44) ||| (a &&& r60))), (9, .long r60), (7, .long r44), (0, .ref h0), (1, .int (nI i)), (6, .int (nI k))] := hl
      refine lv_iinc (k := 6) (v := nI (k + 1)) hx hb d_Sp_sortRows_82 hl rfl (nI_1 _) (by decide) rfl (fun ls hl => ?_)
      have hl : lv_has ls 11 [(6, .int (nI (k + 1))), (2, .long (a &&& r44)), (4, .long ((b &&& r44) ||| (a &&& r60))), (9, .long r60), (7, .long r44), (0, .ref h0), (1, .int (nI i))] := hl
      refine lv_goto (tgt := 24) hx hb d_Sp_sortRows_85 (by decide) ?_
      exact ih24 (k + 1, (a &&& r44), ((b &&& r44) ||| (a &&& r60))) H locs ls (by (try dsimp only); omega) (⟨by (try dsimp only); omega, sortJ hjn hq44 hq60⟩) hP hD hS (lv_sub hl [5, 6, 1, 2, 0] rfl)
set_option maxHeartbeats 4000000 in
set_option maxRecDepth 100000 in
theorem k_Sp_hasValue (l : Launch) (X : Cx) (h0 hv hi hM hV hN : Nat) (P nr : Nat) (vl iv : Nat → Nat) (hP6 : P ≤ 6) (hvl : ∀ p, p < 6 → 1 ≤ vl p ∧ vl p ≤ 4) (x y : Int32) : CtI l X (TY X) y_Sp_hasValue cw_Sp_hasValue ({ frames := 0, cells := 0, slots := 0, locals := 0 } : Room) [.ref h0, .int x, .int y] [(h0, .inr (2, [.ref hv, .ref hi, .ref hM, .ref hV, .ref hN, .int (nI P), .int (nI nr)])), (hv, .inl (X.2 0, 6, .inl (ia vl)))] (S := Unit) (fun r _ => r = bI (hvB P vl x y)) (fun _ => [(h0, .inr (2, [.ref hv, .ref hi, .ref hM, .ref hV, .ref hN, .int (nI P), .int (nI nr)])), (hv, .inl (X.2 0, 6, .inl (ia vl)))]) 0 0 := by
  refine metI (by decide) (Nat.le_of_ble_eq_true rfl) ?_
  intro p e s m below meth c A ls hB hl
  obtain ⟨hx, hb, hr, hml, hown, hlk, hin, hg, hA, hD, hP, hE⟩ := hB
  have hS : va_S A s.heap s.heap [] := va_S.rf
  have hl : lv_has ls 3 [(0, .ref h0), (1, .int x), (2, .int y)] := hl
  refine lv_iload_n hx hb d_Sp_hasValue_0 rfl (lv_at hl 1 rfl) ?_
  refine lv_if_lt (tgt := 30) hx hb d_Sp_hasValue_1 (by decide) (fun hc1 => ?_) (fun hc1 => ?_)
  · refine lv_iconst (v := nI 0) hx hb d_Sp_hasValue_30 (by decide) ?_
    exact retZ (u := ()) hx hb hr hlk (by decide) hP hD hS (by first | exact hvB_0a hc1 | exact hvB_0b hc9 | exact hvB_0c hc13 | exact hvB_0d (by omega) hc23) d_Sp_hasValue_31
  · refine lv_iload_n hx hb d_Sp_hasValue_4 rfl (lv_at hl 1 rfl) ?_
    refine lv_aload_n hx hb d_Sp_hasValue_5 rfl (lv_at hl 0 rfl) ?_
    refine va_get (D := X.1) (ci := 2) (v := .int (nI P)) (C := R_Sp) (T := F_Sp) (N := 7) hx hb hg in_Sp hown hE.1 hP 0 rfl rfl 5 (by decide) (hg _ m_75) (fun _ h9 => h9) rfl d_Sp_hasValue_6 ?_
    refine lv_icmp_ge (tgt := 30) hx hb d_Sp_hasValue_9 (by decide) (fun hc9 => ?_) (fun hc9 => ?_)
    · refine lv_iconst (v := nI 0) hx hb d_Sp_hasValue_30 (by decide) ?_
      exact retZ (u := ()) hx hb hr hlk (by decide) hP hD hS (by first | exact hvB_0a hc1 | exact hvB_0b hc9 | exact hvB_0c hc13 | exact hvB_0d (by omega) hc23) d_Sp_hasValue_31
    · refine lv_iload_n hx hb d_Sp_hasValue_12 rfl (lv_at hl 2 rfl) ?_
      refine lv_if_lt (tgt := 30) hx hb d_Sp_hasValue_13 (by decide) (fun hc13 => ?_) (fun hc13 => ?_)
      · refine lv_iconst (v := nI 0) hx hb d_Sp_hasValue_30 (by decide) ?_
        exact retZ (u := ()) hx hb hr hlk (by decide) hP hD hS (by first | exact hvB_0a hc1 | exact hvB_0b hc9 | exact hvB_0c hc13 | exact hvB_0d (by omega) hc23) d_Sp_hasValue_31
      · refine lv_iload_n hx hb d_Sp_hasValue_16 rfl (lv_at hl 2 rfl) ?_
        refine lv_aload_n hx hb d_Sp_hasValue_17 rfl (lv_at hl 0 rfl) ?_
        refine va_get (D := X.1) (ci := 2) (v := .ref hv) (C := R_Sp) (T := F_Sp) (N := 7) hx hb hg in_Sp hown hE.1 hP 0 rfl rfl 0 (by decide) (hg _ m_66) (fun _ h9 => h9) rfl d_Sp_hasValue_18 ?_
        refine lv_iload_n hx hb d_Sp_hasValue_21 rfl (lv_at hl 1 rfl) ?_
        obtain ⟨q, hq, rfl⟩ := nI_below hP6 hc1 hc9
        refine va_iald hx hb hE.1 hP 1 0 rfl rfl (vp_in_nI (by omega) (by decide)) d_Sp_hasValue_22 ?_
        refine topI (y := (ia vl) q) (by rw [nI_clamp (by omega)]) ?_
        refine topI (y := nI (vl q)) (rfl) ?_
        refine lv_icmp_ge (tgt := 30) hx hb d_Sp_hasValue_23 (by decide) (fun hc23 => ?_) (fun hc23 => ?_)
        · refine lv_iconst (v := nI 0) hx hb d_Sp_hasValue_30 (by decide) ?_
          exact retZ (u := ()) hx hb hr hlk (by decide) hP hD hS (by first | exact hvB_0a hc1 | exact hvB_0b hc9 | exact hvB_0c hc13 | exact hvB_0d (by omega) hc23) d_Sp_hasValue_31
        · refine lv_iconst (v := nI 1) hx hb d_Sp_hasValue_26 (by decide) ?_
          refine lv_goto (tgt := 31) hx hb d_Sp_hasValue_27 (by decide) ?_
          exact retZ (u := ()) hx hb hr hlk (by decide) hP hD hS (hvB_1 (by omega) hc1 hc9 hc13 hc23) d_Sp_hasValue_31
set_option maxHeartbeats 4000000 in
set_option maxRecDepth 100000 in
theorem k_Sp_isInvalid (l : Launch) (X : Cx) (h0 hv hi hM hV hN : Nat) (P nr : Nat) (vl iv : Nat → Nat) (hiv : ∀ p, p < 6 → iv p < 16) (q v : Nat) (hq : q < 6) (hv4 : v < 4) : CtI l X (TY X) y_Sp_isInvalid cw_Sp_isInvalid ({ frames := 0, cells := 0, slots := 0, locals := 0 } : Room) [.ref h0, .int (nI q), .int (nI v)] [(h0, .inr (2, [.ref hv, .ref hi, .ref hM, .ref hV, .ref hN, .int (nI P), .int (nI nr)])), (hi, .inl (X.2 0, 6, .inl (ia iv)))] (S := Unit) (fun r _ => r = bI ((iv q).testBit v)) (fun _ => [(h0, .inr (2, [.ref hv, .ref hi, .ref hM, .ref hV, .ref hN, .int (nI P), .int (nI nr)])), (hi, .inl (X.2 0, 6, .inl (ia iv)))]) 0 0 := by
  refine metI (by decide) (Nat.le_of_ble_eq_true rfl) ?_
  intro p e s m below meth c A ls hB hl
  obtain ⟨hx, hb, hr, hml, hown, hlk, hin, hg, hA, hD, hP, hE⟩ := hB
  have hS : va_S A s.heap s.heap [] := va_S.rf
  have hl : lv_has ls 3 [(0, .ref h0), (1, .int (nI q)), (2, .int (nI v))] := hl
  have hiq := hiv q hq
  refine lv_aload_n hx hb d_Sp_isInvalid_0 rfl (lv_at hl 0 rfl) ?_
  refine va_get (D := X.1) (ci := 2) (v := .ref hi) (C := R_Sp) (T := F_Sp) (N := 7) hx hb hg in_Sp hown hE.1 hP 0 rfl rfl 1 (by decide) (hg _ m_67) (fun _ h9 => h9) rfl d_Sp_isInvalid_1 ?_
  refine lv_iload_n hx hb d_Sp_isInvalid_4 rfl (lv_at hl 1 rfl) ?_
  refine va_iald hx hb hE.1 hP 1 0 rfl rfl (vp_in_nI (by omega) (by decide)) d_Sp_isInvalid_5 ?_
  refine topI (y := (ia iv) q) (by rw [nI_clamp (by omega)]) ?_
  refine topI (y := nI (iv q)) (rfl) ?_
  refine lv_iload_n hx hb d_Sp_isInvalid_6 rfl (lv_at hl 2 rfl) ?_
  refine lv_ishr hx hb d_Sp_isInvalid_7 ?_
  refine topI (shrN (by omega) (by omega)) ?_
  refine lv_iconst (v := nI 1) hx hb d_Sp_isInvalid_8 (by decide) ?_
  refine lv_iand hx hb d_Sp_isInvalid_9 ?_
  refine topI (nx_and _ _) ?_
  refine lv_if_eq (tgt := 17) hx hb d_Sp_isInvalid_10 (by decide) (fun hc10 => ?_) (fun hc10 => ?_)
  · rw [tb_z] at hc10
    refine lv_iconst (v := nI 0) hx hb d_Sp_isInvalid_17 (by decide) ?_
    exact retZ (u := ()) hx hb hr hlk (by decide) hP hD hS (by first | (rw [hc10]; rfl) | (rw [ts_nf hc10]; rfl)) d_Sp_isInvalid_18
  · rw [tb_z] at hc10
    refine lv_iconst (v := nI 1) hx hb d_Sp_isInvalid_13 (by decide) ?_
    refine lv_goto (tgt := 18) hx hb d_Sp_isInvalid_14 (by decide) ?_
    exact retZ (u := ()) hx hb hr hlk (by decide) hP hD hS (by first | (rw [hc10]; rfl) | (rw [ts_nf hc10]; rfl)) d_Sp_isInvalid_18
set_option maxHeartbeats 4000000 in
set_option maxRecDepth 100000 in
theorem k_Sp_numberLimit (l : Launch) (X : Cx) (h0 hv hi hM hV hN : Nat) (P nr : Nat) (vl iv : Nat → Nat) (hP6 : P ≤ 6) : CtI l X (TY X) y_Sp_numberLimit cw_Sp_numberLimit ({ frames := 0, cells := 0, slots := 0, locals := 0 } : Room) [.ref h0] [(h0, .inr (2, [.ref hv, .ref hi, .ref hM, .ref hV, .ref hN, .int (nI P), .int (nI nr)]))] (S := Unit) (fun r _ => r = nI (4 ^ P)) (fun _ => [(h0, .inr (2, [.ref hv, .ref hi, .ref hM, .ref hV, .ref hN, .int (nI P), .int (nI nr)]))]) 0 0 := by
  refine metI (by decide) (Nat.le_of_ble_eq_true rfl) ?_
  intro p e s m below meth c A ls hB hl
  obtain ⟨hx, hb, hr, hml, hown, hlk, hin, hg, hA, hD, hP, hE⟩ := hB
  have hS : va_S A s.heap s.heap [] := va_S.rf
  have hl : lv_has ls 1 [(0, .ref h0)] := hl
  refine lv_iconst (v := nI 1) hx hb d_Sp_numberLimit_0 (by decide) ?_
  refine lv_iconst (v := nI 2) hx hb d_Sp_numberLimit_1 (by decide) ?_
  refine lv_aload_n hx hb d_Sp_numberLimit_2 rfl (lv_at hl 0 rfl) ?_
  refine va_get (D := X.1) (ci := 2) (v := .int (nI P)) (C := R_Sp) (T := F_Sp) (N := 7) hx hb hg in_Sp hown hE.1 hP 0 rfl rfl 5 (by decide) (hg _ m_75) (fun _ h9 => h9) rfl d_Sp_numberLimit_3 ?_
  refine lv_imul hx hb d_Sp_numberLimit_6 ?_
  refine topI (pk_mul _ _) ?_
  refine lv_ishl hx hb d_Sp_numberLimit_7 ?_
  refine topI (shlN (by omega) (pw4 hP6)) ?_
  exact retI (u := ()) hx hb hr hlk hP hD hS (by rw [pwE]) d_Sp_numberLimit_8
set_option maxHeartbeats 4000000 in
set_option maxRecDepth 100000 in
theorem k_Sp_allFields (l : Launch) (X : Cx) (h0 hv hi hM hV hN : Nat) (P nr : Nat) (vl iv : Nat → Nat) (hP6 : P ≤ 6) : CtI l X (TY X) y_Sp_allFields cw_Sp_allFields ({ frames := 1, cells := 0, slots := 0, locals := 20 } : Room) [.ref h0] [(h0, .inr (2, [.ref hv, .ref hi, .ref hM, .ref hV, .ref hN, .int (nI P), .int (nI nr)]))] (S := Unit) (fun r _ => r = nI (4 ^ P - 1)) (fun _ => [(h0, .inr (2, [.ref hv, .ref hi, .ref hM, .ref hV, .ref hN, .int (nI P), .int (nI nr)]))]) 0 0 := by
  refine metI (by decide) (Nat.le_of_ble_eq_true rfl) ?_
  intro p e s m below meth c A ls hB hl
  obtain ⟨hx, hb, hr, hml, hown, hlk, hin, hg, hA, hD, hP, hE⟩ := hB
  have hS : va_S A s.heap s.heap [] := va_S.rf
  have hl : lv_has ls 1 [(0, .ref h0)] := hl
  refine lv_aload_n hx hb d_Sp_allFields_0 rfl (lv_at hl 0 rfl) ?_
  refine clVI (n := 0) (As := []) (rest := []) (wc := [(h0, .inr (2, [.ref hv, .ref hi, .ref hM, .ref hV, .ref hN, .int (nI P), .int (nI nr)]))]) (wr := []) hx hb hml hown hg hE hA hP hD hS (k_Sp_numberLimit l X h0 hv hi hM hV hN P nr vl iv hP6) (gcons m_363 (gcons m_348 (gcons m_349 (gcons m_2 (gcons m_350 gG))))) (by decide +kernel) [0] [] rfl rfl (by decide) (by decide) (by decide) 0 rfl rfl rfl hl.1 (Nat.le_of_ble_eq_true rfl) rfl d_Sp_allFields_1 ⟨rfl, rfl, Nat.le_of_ble_eq_true rfl, Nat.le_of_ble_eq_true rfl⟩ (⟨Nat.le_of_ble_eq_true rfl, Nat.le_of_ble_eq_true rfl⟩) (fun r1 u1 H locs hq1 hP hD hS => ?_)
  have hq1 : r1 = nI (4 ^ P) := hq1
  subst hq1
  have hP : va_P X.1 classes [(h0, .inr (2, [.ref hv, .ref hi, .ref hM, .ref hV, .ref hN, .int (nI P), .int (nI nr)]))] H := hP
  have hD : va_D A [(h0, .inr (2, [.ref hv, .ref hi, .ref hM, .ref hV, .ref hN, .int (nI P), .int (nI nr)]))] := hD
  refine lv_iconst (v := nI 1) hx hb d_Sp_allFields_4 (by decide) ?_
  refine lv_isub hx hb d_Sp_allFields_5 ?_
  refine topI (pk_sub (p4 P)) ?_
  exact retI (u := ()) hx hb hr hlk hP hD hS (rfl) d_Sp_allFields_6
set_option maxHeartbeats 4000000 in
set_option maxRecDepth 100000 in
theorem k_Sp_isSet (l : Launch) (X : Cx) (h0 hv hi hM hV hN : Nat) (P nr : Nat) (vl iv : Nat → Nat) (hP6 : P ≤ 6) (x : Int32) : CtI l X (TY X) y_Sp_isSet cw_Sp_isSet ({ frames := 0, cells := 0, slots := 0, locals := 0 } : Room) [.ref h0, .int x] [(h0, .inr (2, [.ref hv, .ref hi, .ref hM, .ref hV, .ref hN, .int (nI P), .int (nI nr)]))] (S := Unit) (fun r _ => r = bI (isS P x)) (fun _ => [(h0, .inr (2, [.ref hv, .ref hi, .ref hM, .ref hV, .ref hN, .int (nI P), .int (nI nr)]))]) 0 0 := by
  refine metI (by decide) (Nat.le_of_ble_eq_true rfl) ?_
  intro p e s m below meth c A ls hB hl
  obtain ⟨hx, hb, hr, hml, hown, hlk, hin, hg, hA, hD, hP, hE⟩ := hB
  have hS : va_S A s.heap s.heap [] := va_S.rf
  have hl : lv_has ls 2 [(0, .ref h0), (1, .int x)] := hl
  refine lv_iload_n hx hb d_Sp_isSet_0 rfl (lv_at hl 1 rfl) ?_
  refine lv_if_le (tgt := 18) hx hb d_Sp_isSet_1 (by decide) (fun hc1 => ?_) (fun hc1 => ?_)
  · refine lv_iconst (v := nI 0) hx hb d_Sp_isSet_18 (by decide) ?_
    exact retZ (u := ()) hx hb hr hlk (by decide) hP hD hS (by first | exact isS_0a hc1 | exact isS_0b hc11) d_Sp_isSet_19
  · refine lv_iload_n hx hb d_Sp_isSet_4 rfl (lv_at hl 1 rfl) ?_
    refine lv_iconst (v := nI 1) hx hb d_Sp_isSet_5 (by decide) ?_
    refine lv_aload_n hx hb d_Sp_isSet_6 rfl (lv_at hl 0 rfl) ?_
    refine va_get (D := X.1) (ci := 2) (v := .int (nI P)) (C := R_Sp) (T := F_Sp) (N := 7) hx hb hg in_Sp hown hE.1 hP 0 rfl rfl 5 (by decide) (hg _ m_75) (fun _ h9 => h9) rfl d_Sp_isSet_7 ?_
    refine lv_ishl hx hb d_Sp_isSet_10 ?_
    refine topI (shlN (by omega) (pw2 hP6)) ?_
    refine lv_icmp_ge (tgt := 18) hx hb d_Sp_isSet_11 (by decide) (fun hc11 => ?_) (fun hc11 => ?_)
    · refine lv_iconst (v := nI 0) hx hb d_Sp_isSet_18 (by decide) ?_
      exact retZ (u := ()) hx hb hr hlk (by decide) hP hD hS (by first | exact isS_0a hc1 | exact isS_0b hc11) d_Sp_isSet_19
    · refine lv_iconst (v := nI 1) hx hb d_Sp_isSet_14 (by decide) ?_
      refine lv_goto (tgt := 19) hx hb d_Sp_isSet_15 (by decide) ?_
      exact retZ (u := ()) hx hb hr hlk (by decide) hP hD hS (isS_1 hc1 hc11) d_Sp_isSet_19
set_option maxHeartbeats 4000000 in
set_option maxRecDepth 100000 in
theorem k_Sp_hasAllValues (l : Launch) (X : Cx) (h0 hv hi hM hV hN : Nat) (P nr : Nat) (vl iv : Nat → Nat) (hvl : ∀ p, p < 6 → 1 ≤ vl p ∧ vl p ≤ 4) (n : Nat) (hn : n < 2 ^ 31) : CtI l X (TY X) y_Sp_hasAllValues cw_Sp_hasAllValues ({ frames := 1, cells := 0, slots := 0, locals := 21 } : Room) [.ref h0, .int (nI n)] [(h0, .inr (2, [.ref hv, .ref hi, .ref hM, .ref hV, .ref hN, .int (nI P), .int (nI nr)])), (hv, .inl (X.2 0, 6, .inl (ia vl)))] (S := Unit) (fun r _ => r = bI (all6 vl n 6)) (fun _ => [(h0, .inr (2, [.ref hv, .ref hi, .ref hM, .ref hV, .ref hN, .int (nI P), .int (nI nr)])), (hv, .inl (X.2 0, 6, .inl (ia vl)))]) 0 0 := by
  refine metI (by decide) (Nat.le_of_ble_eq_true rfl) ?_
  intro p e s m below meth c A ls hB hl
  obtain ⟨hx, hb, hr, hml, hown, hlk, hin, hg, hA, hD, hP, hE⟩ := hB
  have hS : va_S A s.heap s.heap [] := va_S.rf
  have hl : lv_has ls 3 [(0, .ref h0), (1, .int (nI n))] := hl
  refine lv_iconst (v := nI 0) hx hb d_Sp_hasAllValues_0 (by decide) ?_
  refine lv_istore_n hx hb d_Sp_hasAllValues_1 rfl hl (by decide) rfl (fun ls hl => ?_)
  have hl : lv_has ls 3 [(2, .int (nI 0)), (0, .ref h0), (1, .int (nI n))] := hl
  refine wLoop (nL := 3) (σ := (Nat)) (fun i => 6 - i) (fun i => i ≤ 6 ∧ all6 vl n i = true) (fun i => [(h0, .inr (2, [.ref hv, .ref hi, .ref hM, .ref hV, .ref hN, .int (nI P), .int (nI nr)])), (hv, .inl (X.2 0, 6, .inl (ia vl)))]) (fun i => [(0, .ref h0), (1, .int (nI n)), (2, .int (nI i))]) ?_ 0 (⟨by omega, rfl⟩) hP hD hS (lv_sub hl [1, 2, 0] rfl)
  rintro i H locs ls hJ hP hD hS hl ih2
  have hJ : i ≤ 6 ∧ all6 vl n i = true := hJ
  obtain ⟨hi6, hall⟩ := hJ
  have hP : va_P X.1 classes [(h0, .inr (2, [.ref hv, .ref hi, .ref hM, .ref hV, .ref hN, .int (nI P), .int (nI nr)])), (hv, .inl (X.2 0, 6, .inl (ia vl)))] H := hP
  have hD : va_D A [(h0, .inr (2, [.ref hv, .ref hi, .ref hM, .ref hV, .ref hN, .int (nI P), .int (nI nr)])), (hv, .inl (X.2 0, 6, .inl (ia vl)))] := hD
  have hl : lv_has ls 3 [(0, .ref h0), (1, .int (nI n)), (2, .int (nI i))] := hl
  refine lv_iload_n hx hb d_Sp_hasAllValues_2 rfl (lv_at hl 2 rfl) ?_
  refine lv_bipush (v := nI 6) hx hb d_Sp_hasAllValues_3 (by decide) ?_
  refine lv_icmp_ge (tgt := 30) hx hb d_Sp_hasAllValues_5 (by decide) (fun hc5 => ?_) (fun hc5 => ?_)
  · rw [nI_leI (by omega) (by omega)] at hc5
    obtain rfl : i = 6 := by omega
    refine lv_iconst (v := nI 1) hx hb d_Sp_hasAllValues_30 (by decide) ?_
    exact retZ (u := ()) hx hb hr hlk (by decide) hP hD hS (by rw [hall]; rfl) d_Sp_hasAllValues_31
  · rw [nI_leI (by omega) (by omega)] at hc5
    refine lv_iload_n hx hb d_Sp_hasAllValues_8 rfl (lv_at hl 2 rfl) ?_
    refine lv_iload_n hx hb d_Sp_hasAllValues_9 rfl (lv_at hl 1 rfl) ?_
    refine clSNI (n := 2) (As := [.int (nI i), .int (nI n)]) (rest := []) (wc := []) (wr := [(h0, .inr (2, [.ref hv, .ref hi, .ref hM, .ref hV, .ref hN, .int (nI P), .int (nI nr)])), (hv, .inl (X.2 0, 6, .inl (ia vl)))]) hx hb hml hown hg hE hA hP hD hS (k_CR_valueOf l X i n (by omega) hn) m_65 m_64 m_1 (nw_8 hE.2.1) (by decide +kernel) [] [0, 1] rfl rfl (by decide) (by decide) (by decide) rfl hl.1 (Nat.le_of_ble_eq_true rfl) rfl d_Sp_hasAllValues_10 ⟨rfl, rfl, Nat.le_of_ble_eq_true rfl, Nat.le_of_ble_eq_true rfl⟩ (⟨Nat.le_of_ble_eq_true rfl, Nat.le_of_ble_eq_true rfl⟩) (fun r10 u10 H locs hq10 hP hD hS => ?_)
    have hq10 : r10 = nI (dg n i) := hq10
    subst hq10
    have hP : va_P X.1 classes [(h0, .inr (2, [.ref hv, .ref hi, .ref hM, .ref hV, .ref hN, .int (nI P), .int (nI nr)])), (hv, .inl (X.2 0, 6, .inl (ia vl)))] H := hP
    have hD : va_D A [(h0, .inr (2, [.ref hv, .ref hi, .ref hM, .ref hV, .ref hN, .int (nI P), .int (nI nr)])), (hv, .inl (X.2 0, 6, .inl (ia vl)))] := hD
    refine lv_aload_n hx hb d_Sp_hasAllValues_13 rfl (lv_at hl 0 rfl) ?_
    refine va_get (D := X.1) (ci := 2) (v := .ref hv) (C := R_Sp) (T := F_Sp) (N := 7) hx hb hg in_Sp hown hE.1 hP 0 rfl rfl 0 (by decide) (hg _ m_66) (fun _ h9 => h9) rfl d_Sp_hasAllValues_14 ?_
    refine lv_iload_n hx hb d_Sp_hasAllValues_17 rfl (lv_at hl 2 rfl) ?_
    refine va_iald hx hb hE.1 hP 1 0 rfl rfl (vp_in_nI (by omega) (by decide)) d_Sp_hasAllValues_18 ?_
    refine topI (y := (ia vl) i) (by rw [nI_clamp (by omega)]) ?_
    refine topI (y := nI (vl i)) (rfl) ?_
    have hvi := hvl i (by omega)
    refine lv_icmp_lt (tgt := 24) hx hb d_Sp_hasAllValues_19 (by decide) (fun hc19 => ?_) (fun hc19 => ?_)
    · rw [nI_ltI (dg_lt31 _ _) (by omega)] at hc19
      refine lv_iinc (k := 2) (v := nI (i + 1)) hx hb d_Sp_hasAllValues_24 hl rfl (nI_1 _) (by decide) rfl (fun ls hl => ?_)
      have hl : lv_has ls 3 [(2, .int (nI (i + 1))), (0, .ref h0), (1, .int (nI n))] := hl
      refine lv_goto (tgt := 2) hx hb d_Sp_hasAllValues_27 (by decide) ?_
      exact ih2 (i + 1) H locs ls (by (try dsimp only); omega) (⟨by (try dsimp only); omega, all6_s hall hc19⟩) hP hD hS (lv_sub hl [1, 2, 0] rfl)
    · rw [nI_ltI (dg_lt31 _ _) (by omega)] at hc19
      refine lv_iconst (v := nI 0) hx hb d_Sp_hasAllValues_22 (by decide) ?_
      exact retZ (u := ()) hx hb hr hlk (by decide) hP hD hS (by rw [all6_no (by omega) hc19]; rfl) d_Sp_hasAllValues_23
set_option maxHeartbeats 4000000 in
set_option maxRecDepth 100000 in
theorem k_Sp_rank (l : Launch) (X : Cx) (h0 hv hi hM hV hN : Nat) (P nr : Nat) (vl iv : Nat → Nat) (wM wV wN : Nat) (fM fV fN : Nat → Int64) (hP6 : P ≤ 6) (hvl : ∀ p, p < 6 → 1 ≤ vl p ∧ vl p ≤ 4) (hv1 : ∀ p, P ≤ p → p < 6 → vl p = 1) (VS NSs : Nat → Bool) (hfV : RS fV VS) (hfN : RS fN NSs) (x : Int32) : CtI l X (TY X) y_Sp_rank cw_Sp_rank ({ frames := 2, cells := 0, slots := 0, locals := 43 } : Room) [.ref h0, .int x] [(h0, .inr (2, [.ref hv, .ref hi, .ref hM, .ref hV, .ref hN, .int (nI P), .int (nI nr)])), (hv, .inl (X.2 0, 6, .inl (ia vl))), (hV, .inr (0, [.ref wV])), (wV, .inl (X.2 1, 64, .inr (.inl fV))), (hN, .inr (0, [.ref wN])), (wN, .inl (X.2 1, 64, .inr (.inl fN)))] (S := Unit) (fun r _ => r = rkF vl VS NSs x) (fun _ => [(h0, .inr (2, [.ref hv, .ref hi, .ref hM, .ref hV, .ref hN, .int (nI P), .int (nI nr)])), (hv, .inl (X.2 0, 6, .inl (ia vl))), (hV, .inr (0, [.ref wV])), (wV, .inl (X.2 1, 64, .inr (.inl fV))), (hN, .inr (0, [.ref wN])), (wN, .inl (X.2 1, 64, .inr (.inl fN)))]) 0 0 := by
  refine metI (by decide) (Nat.le_of_ble_eq_true rfl) ?_
  intro p e s m below meth c A ls hB hl
  obtain ⟨hx, hb, hr, hml, hown, hlk, hin, hg, hA, hD, hP, hE⟩ := hB
  have hS : va_S A s.heap s.heap [] := va_S.rf
  have hl : lv_has ls 2 [(0, .ref h0), (1, .int x)] := hl
  refine lv_iload_n hx hb d_Sp_rank_0 rfl (lv_at hl 1 rfl) ?_
  refine lv_if_lt (tgt := 20) hx hb d_Sp_rank_1 (by decide) (fun hc1 => ?_) (fun hc1 => ?_)
  · refine lv_iconst (v := (-1)) hx hb d_Sp_rank_20 (by decide) ?_
    exact retI (u := ()) hx hb hr hlk hP hD hS (by first | exact rk_a hc1 | exact rk_b hP6 hv1 hn hc9 | exact rk_c hn hc17) d_Sp_rank_21
  · obtain ⟨n, hn, rfl⟩ := nI_of hc1
    refine lv_iload_n hx hb d_Sp_rank_4 rfl (lv_at hl 1 rfl) ?_
    refine lv_aload_n hx hb d_Sp_rank_5 rfl (lv_at hl 0 rfl) ?_
    refine clVI (n := 0) (As := []) (rest := [.int (nI n)]) (wc := [(h0, .inr (2, [.ref hv, .ref hi, .ref hM, .ref hV, .ref hN, .int (nI P), .int (nI nr)]))]) (wr := [(hv, .inl (X.2 0, 6, .inl (ia vl))), (hV, .inr (0, [.ref wV])), (wV, .inl (X.2 1, 64, .inr (.inl fV))), (hN, .inr (0, [.ref wN])), (wN, .inl (X.2 1, 64, .inr (.inl fN)))]) hx hb hml hown hg hE hA hP hD hS (k_Sp_numberLimit l X h0 hv hi hM hV hN P nr vl iv hP6) (gcons m_363 (gcons m_348 (gcons m_349 (gcons m_2 (gcons m_350 gG))))) (by decide +kernel) [0] [1, 2, 3, 4, 5] rfl rfl (by decide) (by decide) (by decide) 0 rfl rfl rfl hl.1 (Nat.le_of_ble_eq_true rfl) rfl d_Sp_rank_6 ⟨rfl, rfl, Nat.le_of_ble_eq_true rfl, Nat.le_of_ble_eq_true rfl⟩ (⟨Nat.le_of_ble_eq_true rfl, Nat.le_of_ble_eq_true rfl⟩) (fun r6 u6 H locs hq6 hP hD hS => ?_)
    have hq6 : r6 = nI (4 ^ P) := hq6
    subst hq6
    have hP := hP.sub (ws' := [(h0, .inr (2, [.ref hv, .ref hi, .ref hM, .ref hV, .ref hN, .int (nI P), .int (nI nr)])), (hv, .inl (X.2 0, 6, .inl (ia vl))), (hV, .inr (0, [.ref wV])), (wV, .inl (X.2 1, 64, .inr (.inl fV))), (hN, .inr (0, [.ref wN])), (wN, .inl (X.2 1, 64, .inr (.inl fN)))]) [5, 0, 1, 2, 3, 4] rfl
    have hD := hD.sub (ws' := [(h0, .inr (2, [.ref hv, .ref hi, .ref hM, .ref hV, .ref hN, .int (nI P), .int (nI nr)])), (hv, .inl (X.2 0, 6, .inl (ia vl))), (hV, .inr (0, [.ref wV])), (wV, .inl (X.2 1, 64, .inr (.inl fV))), (hN, .inr (0, [.ref wN])), (wN, .inl (X.2 1, 64, .inr (.inl fN)))]) [5, 0, 1, 2, 3, 4] (by decide) rfl
    refine lv_icmp_ge (tgt := 20) hx hb d_Sp_rank_9 (by decide) (fun hc9 => ?_) (fun hc9 => ?_)
    · rw [nI_leI (pw4lt hP6) hn] at hc9
      refine lv_iconst (v := (-1)) hx hb d_Sp_rank_20 (by decide) ?_
      exact retI (u := ()) hx hb hr hlk hP hD hS (by first | exact rk_a hc1 | exact rk_b hP6 hv1 hn hc9 | exact rk_c hn hc17) d_Sp_rank_21
    · rw [nI_leI (pw4lt hP6) hn] at hc9
      have h4 := pw4le hP6
      refine lv_aload_n hx hb d_Sp_rank_12 rfl (lv_at hl 0 rfl) ?_
      refine lv_iload_n hx hb d_Sp_rank_13 rfl (lv_at hl 1 rfl) ?_
      refine clVI (n := 1) (As := [.int (nI n)]) (rest := []) (wc := [(h0, .inr (2, [.ref hv, .ref hi, .ref hM, .ref hV, .ref hN, .int (nI P), .int (nI nr)])), (hv, .inl (X.2 0, 6, .inl (ia vl)))]) (wr := [(hV, .inr (0, [.ref wV])), (wV, .inl (X.2 1, 64, .inr (.inl fV))), (hN, .inr (0, [.ref wN])), (wN, .inl (X.2 1, 64, .inr (.inl fN)))]) hx hb hml hown hg hE hA hP hD hS (k_Sp_hasAllValues l X h0 hv hi hM hV hN P nr vl iv hvl n hn) (gcons m_378 (gcons m_380 (gcons ms_Sp_hasAllValues (gcons m_2 (gcons m_381 gG))))) (by decide +kernel) [0, 1] [2, 3, 4, 5] rfl rfl (by decide) (by decide) (by decide) 0 rfl rfl rfl hl.1 (Nat.le_of_ble_eq_true rfl) rfl d_Sp_rank_14 ⟨rfl, rfl, Nat.le_of_ble_eq_true rfl, Nat.le_of_ble_eq_true rfl⟩ (⟨Nat.le_of_ble_eq_true rfl, Nat.le_of_ble_eq_true rfl⟩) (fun r14 u14 H locs hq14 hP hD hS => ?_)
      have hq14 : r14 = bI (all6 vl n 6) := hq14
      subst hq14
      have hP := hP.sub (ws' := [(h0, .inr (2, [.ref hv, .ref hi, .ref hM, .ref hV, .ref hN, .int (nI P), .int (nI nr)])), (hv, .inl (X.2 0, 6, .inl (ia vl))), (hV, .inr (0, [.ref wV])), (wV, .inl (X.2 1, 64, .inr (.inl fV))), (hN, .inr (0, [.ref wN])), (wN, .inl (X.2 1, 64, .inr (.inl fN)))]) [4, 5, 0, 1, 2, 3] rfl
      have hD := hD.sub (ws' := [(h0, .inr (2, [.ref hv, .ref hi, .ref hM, .ref hV, .ref hN, .int (nI P), .int (nI nr)])), (hv, .inl (X.2 0, 6, .inl (ia vl))), (hV, .inr (0, [.ref wV])), (wV, .inl (X.2 1, 64, .inr (.inl fV))), (hN, .inr (0, [.ref wN])), (wN, .inl (X.2 1, 64, .inr (.inl fN)))]) [4, 5, 0, 1, 2, 3] (by decide) rfl
      refine lv_if_ne (tgt := 22) hx hb d_Sp_rank_17 (by decide) (fun hc17 => ?_) (fun hc17 => ?_)
      · rw [bI_z] at hc17
        refine lv_aload_n hx hb d_Sp_rank_22 rfl (lv_at hl 0 rfl) ?_
        refine va_get (D := X.1) (ci := 2) (v := .ref hV) (C := R_Sp) (T := F_Sp) (N := 7) hx hb hg in_Sp hown hE.1 hP 0 rfl rfl 3 (by decide) (hg _ m_69) (fun _ h9 => h9) rfl d_Sp_rank_23 ?_
        refine lv_iload_n hx hb d_Sp_rank_26 rfl (lv_at hl 1 rfl) ?_
        refine clVI (n := 1) (As := [.int (nI n)]) (rest := []) (wc := [(hV, .inr (0, [.ref wV])), (wV, .inl (X.2 1, 64, .inr (.inl fV)))]) (wr := [(h0, .inr (2, [.ref hv, .ref hi, .ref hM, .ref hV, .ref hN, .int (nI P), .int (nI nr)])), (hv, .inl (X.2 0, 6, .inl (ia vl))), (hN, .inr (0, [.ref wN])), (wN, .inl (X.2 1, 64, .inr (.inl fN)))]) hx hb hml hown hg hE hA hP hD hS (k_NS_has l X hV wV fV VS hfV n (by omega)) (gcons m_382 (gcons m_356 (gcons m_357 (gcons m_3 (gcons m_358 gG))))) (by decide +kernel) [2, 3] [0, 1, 4, 5] rfl rfl (by decide) (by decide) (by decide) 0 rfl rfl rfl hl.1 (Nat.le_of_ble_eq_true rfl) rfl d_Sp_rank_27 ⟨rfl, rfl, Nat.le_of_ble_eq_true rfl, Nat.le_of_ble_eq_true rfl⟩ (⟨Nat.le_of_ble_eq_true rfl, Nat.le_of_ble_eq_true rfl⟩) (fun r27 u27 H locs hq27 hP hD hS => ?_)
        have hq27 : r27 = bI (VS n) := hq27
        subst hq27
        have hP := hP.sub (ws' := [(h0, .inr (2, [.ref hv, .ref hi, .ref hM, .ref hV, .ref hN, .int (nI P), .int (nI nr)])), (hv, .inl (X.2 0, 6, .inl (ia vl))), (hV, .inr (0, [.ref wV])), (wV, .inl (X.2 1, 64, .inr (.inl fV))), (hN, .inr (0, [.ref wN])), (wN, .inl (X.2 1, 64, .inr (.inl fN)))]) [0, 1, 4, 5, 2, 3] rfl
        have hD := hD.sub (ws' := [(h0, .inr (2, [.ref hv, .ref hi, .ref hM, .ref hV, .ref hN, .int (nI P), .int (nI nr)])), (hv, .inl (X.2 0, 6, .inl (ia vl))), (hV, .inr (0, [.ref wV])), (wV, .inl (X.2 1, 64, .inr (.inl fV))), (hN, .inr (0, [.ref wN])), (wN, .inl (X.2 1, 64, .inr (.inl fN)))]) [0, 1, 4, 5, 2, 3] (by decide) rfl
        refine lv_if_eq (tgt := 35) hx hb d_Sp_rank_30 (by decide) (fun hc30 => ?_) (fun hc30 => ?_)
        · rw [bI_z] at hc30
          refine lv_aload_n hx hb d_Sp_rank_35 rfl (lv_at hl 0 rfl) ?_
          refine va_get (D := X.1) (ci := 2) (v := .ref hN) (C := R_Sp) (T := F_Sp) (N := 7) hx hb hg in_Sp hown hE.1 hP 0 rfl rfl 4 (by decide) (hg _ m_72) (fun _ h9 => h9) rfl d_Sp_rank_36 ?_
          refine lv_iload_n hx hb d_Sp_rank_39 rfl (lv_at hl 1 rfl) ?_
          refine clVI (n := 1) (As := [.int (nI n)]) (rest := []) (wc := [(hN, .inr (0, [.ref wN])), (wN, .inl (X.2 1, 64, .inr (.inl fN)))]) (wr := [(h0, .inr (2, [.ref hv, .ref hi, .ref hM, .ref hV, .ref hN, .int (nI P), .int (nI nr)])), (hv, .inl (X.2 0, 6, .inl (ia vl))), (hV, .inr (0, [.ref wV])), (wV, .inl (X.2 1, 64, .inr (.inl fV)))]) hx hb hml hown hg hE hA hP hD hS (k_NS_has l X hN wN fN NSs hfN n (by omega)) (gcons m_382 (gcons m_356 (gcons m_357 (gcons m_3 (gcons m_358 gG))))) (by decide +kernel) [4, 5] [0, 1, 2, 3] rfl rfl (by decide) (by decide) (by decide) 0 rfl rfl rfl hl.1 (Nat.le_of_ble_eq_true rfl) rfl d_Sp_rank_40 ⟨rfl, rfl, Nat.le_of_ble_eq_true rfl, Nat.le_of_ble_eq_true rfl⟩ (⟨Nat.le_of_ble_eq_true rfl, Nat.le_of_ble_eq_true rfl⟩) (fun r40 u40 H locs hq40 hP hD hS => ?_)
          have hq40 : r40 = bI (NSs n) := hq40
          subst hq40
          have hP : va_P X.1 classes [(h0, .inr (2, [.ref hv, .ref hi, .ref hM, .ref hV, .ref hN, .int (nI P), .int (nI nr)])), (hv, .inl (X.2 0, 6, .inl (ia vl))), (hV, .inr (0, [.ref wV])), (wV, .inl (X.2 1, 64, .inr (.inl fV))), (hN, .inr (0, [.ref wN])), (wN, .inl (X.2 1, 64, .inr (.inl fN)))] H := hP
          have hD : va_D A [(h0, .inr (2, [.ref hv, .ref hi, .ref hM, .ref hV, .ref hN, .int (nI P), .int (nI nr)])), (hv, .inl (X.2 0, 6, .inl (ia vl))), (hV, .inr (0, [.ref wV])), (wV, .inl (X.2 1, 64, .inr (.inl fV))), (hN, .inr (0, [.ref wN])), (wN, .inl (X.2 1, 64, .inr (.inl fN)))] := hD
          refine lv_if_eq (tgt := 50) hx hb d_Sp_rank_43 (by decide) (fun hc43 => ?_) (fun hc43 => ?_)
          · rw [bI_z] at hc43
            refine lv_iconst (v := nI 0) hx hb d_Sp_rank_50 (by decide) ?_
            exact retI (u := ()) hx hb hr hlk hP hD hS (by first | exact rk_1 (by omega) (ts_nf hc17) hc30 (ts_nf hc43) | exact rk_0 (by omega) (ts_nf hc17) hc30 hc43) d_Sp_rank_51
          · rw [bI_z] at hc43
            refine lv_iconst (v := nI 1) hx hb d_Sp_rank_46 (by decide) ?_
            refine lv_goto (tgt := 51) hx hb d_Sp_rank_47 (by decide) ?_
            exact retI (u := ()) hx hb hr hlk hP hD hS (by first | exact rk_1 (by omega) (ts_nf hc17) hc30 (ts_nf hc43) | exact rk_0 (by omega) (ts_nf hc17) hc30 hc43) d_Sp_rank_51
        · rw [bI_z] at hc30
          refine lv_iconst (v := nI 2) hx hb d_Sp_rank_33 (by decide) ?_
          exact retI (u := ()) hx hb hr hlk hP hD hS (rk_2 (by omega) (ts_nf hc17) (ts_nf hc30)) d_Sp_rank_34
      · rw [bI_z] at hc17
        refine lv_iconst (v := (-1)) hx hb d_Sp_rank_20 (by decide) ?_
        exact retI (u := ()) hx hb hr hlk hP hD hS (by first | exact rk_a hc1 | exact rk_b hP6 hv1 hn hc9 | exact rk_c hn hc17) d_Sp_rank_21
set_option maxHeartbeats 4000000 in
set_option maxRecDepth 100000 in
theorem k_Sp_invalidIn (l : Launch) (X : Cx) (h0 hv hi hM hV hN : Nat) (P nr : Nat) (vl iv : Nat → Nat) (hiv : ∀ p, p < 6 → iv p < 16) (n b : Nat) (hn : n < 64) (hb0 : b < 4096) : CtI l X (TY X) y_Sp_invalidIn cw_Sp_invalidIn ({ frames := 1, cells := 0, slots := 0, locals := 22 } : Room) [.ref h0, .int (nI (fo n 6)), .int (nI b)] [(h0, .inr (2, [.ref hv, .ref hi, .ref hM, .ref hV, .ref hN, .int (nI P), .int (nI nr)])), (hi, .inl (X.2 0, 6, .inl (ia iv)))] (S := Unit) (fun r _ => r = nI (ivs iv n b 6)) (fun _ => [(h0, .inr (2, [.ref hv, .ref hi, .ref hM, .ref hV, .ref hN, .int (nI P), .int (nI nr)])), (hi, .inl (X.2 0, 6, .inl (ia iv)))]) 0 0 := by
  refine metI (by decide) (Nat.le_of_ble_eq_true rfl) ?_
  intro p e s m below meth c A ls hB hl
  obtain ⟨hx, hb, hr, hml, hown, hlk, hin, hg, hA, hD, hP, hE⟩ := hB
  have hS : va_S A s.heap s.heap [] := va_S.rf
  have hl : lv_has ls 5 [(0, .ref h0), (1, .int (nI (fo n 6))), (2, .int (nI b))] := hl
  have hfo := fo_lt n 6 (by omega)
  refine lv_iconst (v := nI 0) hx hb d_Sp_invalidIn_0 (by decide) ?_
  refine lv_istore_n hx hb d_Sp_invalidIn_1 rfl hl (by decide) rfl (fun ls hl => ?_)
  have hl : lv_has ls 5 [(3, .int (nI 0)), (0, .ref h0), (1, .int (nI (fo n 6))), (2, .int (nI b))] := hl
  refine lv_iconst (v := nI 0) hx hb d_Sp_invalidIn_2 (by decide) ?_
  refine lv_istore hx hb d_Sp_invalidIn_3 hl (by decide) rfl (fun ls hl => ?_)
  have hl : lv_has ls 5 [(4, .int (nI 0)), (3, .int (nI 0)), (0, .ref h0), (1, .int (nI (fo n 6))), (2, .int (nI b))] := hl
  refine wLoop (nL := 5) (σ := (Nat)) (fun i => 6 - i) (fun i => i ≤ 6) (fun i => [(h0, .inr (2, [.ref hv, .ref hi, .ref hM, .ref hV, .ref hN, .int (nI P), .int (nI nr)])), (hi, .inl (X.2 0, 6, .inl (ia iv)))]) (fun i => [(0, .ref h0), (1, .int (nI (fo n 6))), (2, .int (nI b)), (3, .int (nI (ivs iv n b i))), (4, .int (nI i))]) ?_ 0 (by omega) hP hD hS (lv_sub hl [2, 3, 4, 1, 0] rfl)
  rintro i H locs ls hJ hP hD hS hl ih5
  have hJ : i ≤ 6 := hJ
  have hP : va_P X.1 classes [(h0, .inr (2, [.ref hv, .ref hi, .ref hM, .ref hV, .ref hN, .int (nI P), .int (nI nr)])), (hi, .inl (X.2 0, 6, .inl (ia iv)))] H := hP
  have hD : va_D A [(h0, .inr (2, [.ref hv, .ref hi, .ref hM, .ref hV, .ref hN, .int (nI P), .int (nI nr)])), (hi, .inl (X.2 0, 6, .inl (ia iv)))] := hD
  have hl : lv_has ls 5 [(0, .ref h0), (1, .int (nI (fo n 6))), (2, .int (nI b)), (3, .int (nI (ivs iv n b i))), (4, .int (nI i))] := hl
  refine lv_iload hx hb d_Sp_invalidIn_5 (lv_at hl 4 rfl) ?_
  refine lv_bipush (v := nI 6) hx hb d_Sp_invalidIn_7 (by decide) ?_
  refine lv_icmp_ge (tgt := 49) hx hb d_Sp_invalidIn_9 (by decide) (fun hc9 => ?_) (fun hc9 => ?_)
  · rw [nI_leI (by omega) (by omega)] at hc9
    obtain rfl : i = 6 := by omega
    refine lv_iload_n hx hb d_Sp_invalidIn_49 rfl (lv_at hl 3 rfl) ?_
    exact retI (u := ()) hx hb hr hlk hP hD hS (rfl) d_Sp_invalidIn_50
  · rw [nI_leI (by omega) (by omega)] at hc9
    refine lv_iload hx hb d_Sp_invalidIn_12 (lv_at hl 4 rfl) ?_
    refine lv_iload_n hx hb d_Sp_invalidIn_14 rfl (lv_at hl 1 rfl) ?_
    refine clSNI (n := 2) (As := [.int (nI i), .int (nI (fo n 6))]) (rest := []) (wc := []) (wr := [(h0, .inr (2, [.ref hv, .ref hi, .ref hM, .ref hV, .ref hN, .int (nI P), .int (nI nr)])), (hi, .inl (X.2 0, 6, .inl (ia iv)))]) hx hb hml hown hg hE hA hP hD hS (k_CR_valueOf l X i (fo n 6) (by omega) (by omega)) m_65 m_64 m_1 (nw_8 hE.2.1) (by decide +kernel) [] [0, 1] rfl rfl (by decide) (by decide) (by decide) rfl hl.1 (Nat.le_of_ble_eq_true rfl) rfl d_Sp_invalidIn_15 ⟨rfl, rfl, Nat.le_of_ble_eq_true rfl, Nat.le_of_ble_eq_true rfl⟩ (⟨Nat.le_of_ble_eq_true rfl, Nat.le_of_ble_eq_true rfl⟩) (fun r15 u15 H locs hq15 hP hD hS => ?_)
    have hq15 : r15 = nI (dg (fo n 6) i) := hq15
    subst hq15
    have hP : va_P X.1 classes [(h0, .inr (2, [.ref hv, .ref hi, .ref hM, .ref hV, .ref hN, .int (nI P), .int (nI nr)])), (hi, .inl (X.2 0, 6, .inl (ia iv)))] H := hP
    have hD : va_D A [(h0, .inr (2, [.ref hv, .ref hi, .ref hM, .ref hV, .ref hN, .int (nI P), .int (nI nr)])), (hi, .inl (X.2 0, 6, .inl (ia iv)))] := hD
    refine lv_if_eq (tgt := 43) hx hb d_Sp_invalidIn_18 (by decide) (fun hc18 => ?_) (fun hc18 => ?_)
    · rw [n_z (dg_lt31 _ _)] at hc18
      have hl : lv_has ls 5 [(0, .ref h0), (1, .int (nI (fo n 6))), (2, .int (nI b)), (3, .int (nI (ivs iv n b (i + 1)))), (4, .int (nI i))] := by rw [ivs_a (by omega) hc18]; exact hl
      refine lv_iinc (k := 4) (v := nI (i + 1)) hx hb d_Sp_invalidIn_43 hl rfl (nI_1 _) (by decide) rfl (fun ls hl => ?_)
      have hl : lv_has ls 5 [(4, .int (nI (i + 1))), (0, .ref h0), (1, .int (nI (fo n 6))), (2, .int (nI b)), (3, .int (nI (ivs iv n b (i + 1))))] := hl
      refine lv_goto (tgt := 5) hx hb d_Sp_invalidIn_46 (by decide) ?_
      exact ih5 (i + 1) H locs ls (by (try dsimp only); omega) (by (try dsimp only); omega) hP hD hS (lv_sub hl [1, 2, 3, 4, 0] rfl)
    · rw [n_z (dg_lt31 _ _)] at hc18
      refine lv_aload_n hx hb d_Sp_invalidIn_21 rfl (lv_at hl 0 rfl) ?_
      refine lv_iload hx hb d_Sp_invalidIn_22 (lv_at hl 4 rfl) ?_
      refine lv_iload hx hb d_Sp_invalidIn_24 (lv_at hl 4 rfl) ?_
      refine lv_iload_n hx hb d_Sp_invalidIn_26 rfl (lv_at hl 2 rfl) ?_
      refine clSNI (n := 2) (As := [.int (nI i), .int (nI b)]) (rest := [.int (nI i), .ref h0]) (wc := []) (wr := [(h0, .inr (2, [.ref hv, .ref hi, .ref hM, .ref hV, .ref hN, .int (nI P), .int (nI nr)])), (hi, .inl (X.2 0, 6, .inl (ia iv)))]) hx hb hml hown hg hE hA hP hD hS (k_CR_valueOf l X i b (by omega) (by omega)) m_65 m_64 m_1 (nw_8 hE.2.1) (by decide +kernel) [] [0, 1] rfl rfl (by decide) (by decide) (by decide) rfl hl.1 (Nat.le_of_ble_eq_true rfl) rfl d_Sp_invalidIn_27 ⟨rfl, rfl, Nat.le_of_ble_eq_true rfl, Nat.le_of_ble_eq_true rfl⟩ (⟨Nat.le_of_ble_eq_true rfl, Nat.le_of_ble_eq_true rfl⟩) (fun r27 u27 H locs hq27 hP hD hS => ?_)
      have hq27 : r27 = nI (dg b i) := hq27
      subst hq27
      have hP : va_P X.1 classes [(h0, .inr (2, [.ref hv, .ref hi, .ref hM, .ref hV, .ref hN, .int (nI P), .int (nI nr)])), (hi, .inl (X.2 0, 6, .inl (ia iv)))] H := hP
      have hD : va_D A [(h0, .inr (2, [.ref hv, .ref hi, .ref hM, .ref hV, .ref hN, .int (nI P), .int (nI nr)])), (hi, .inl (X.2 0, 6, .inl (ia iv)))] := hD
      refine clVI (n := 2) (As := [.int (nI i), .int (nI (dg b i))]) (rest := []) (wc := [(h0, .inr (2, [.ref hv, .ref hi, .ref hM, .ref hV, .ref hN, .int (nI P), .int (nI nr)])), (hi, .inl (X.2 0, 6, .inl (ia iv)))]) (wr := []) hx hb hml hown hg hE hA hP hD hS (k_Sp_isInvalid l X h0 hv hi hM hV hN P nr vl iv hiv i (dg b i) (by omega) (dg_lt _ _)) (gcons m_339 (gcons m_203 (gcons m_204 (gcons m_2 (gcons m_205 gG))))) (by decide +kernel) [0, 1] [] rfl rfl (by decide) (by decide) (by decide) 0 rfl rfl rfl hl.1 (Nat.le_of_ble_eq_true rfl) rfl d_Sp_invalidIn_30 ⟨rfl, rfl, Nat.le_of_ble_eq_true rfl, Nat.le_of_ble_eq_true rfl⟩ (⟨Nat.le_of_ble_eq_true rfl, Nat.le_of_ble_eq_true rfl⟩) (fun r30 u30 H locs hq30 hP hD hS => ?_)
      have hq30 : r30 = bI ((iv i).testBit (dg b i)) := hq30
      subst hq30
      have hP : va_P X.1 classes [(h0, .inr (2, [.ref hv, .ref hi, .ref hM, .ref hV, .ref hN, .int (nI P), .int (nI nr)])), (hi, .inl (X.2 0, 6, .inl (ia iv)))] H := hP
      have hD : va_D A [(h0, .inr (2, [.ref hv, .ref hi, .ref hM, .ref hV, .ref hN, .int (nI P), .int (nI nr)])), (hi, .inl (X.2 0, 6, .inl (ia iv)))] := hD
      refine lv_if_eq (tgt := 43) hx hb d_Sp_invalidIn_33 (by decide) (fun hc33 => ?_) (fun hc33 => ?_)
      · rw [bI_z] at hc33
        have hl : lv_has ls 5 [(0, .ref h0), (1, .int (nI (fo n 6))), (2, .int (nI b)), (3, .int (nI (ivs iv n b (i + 1)))), (4, .int (nI i))] := by rw [ivs_b hc33]; exact hl
        refine lv_iinc (k := 4) (v := nI (i + 1)) hx hb d_Sp_invalidIn_43 hl rfl (nI_1 _) (by decide) rfl (fun ls hl => ?_)
        have hl : lv_has ls 5 [(4, .int (nI (i + 1))), (0, .ref h0), (1, .int (nI (fo n 6))), (2, .int (nI b)), (3, .int (nI (ivs iv n b (i + 1))))] := hl
        refine lv_goto (tgt := 5) hx hb d_Sp_invalidIn_46 (by decide) ?_
        exact ih5 (i + 1) H locs ls (by (try dsimp only); omega) (by (try dsimp only); omega) hP hD hS (lv_sub hl [1, 2, 3, 4, 0] rfl)
      · rw [bI_z] at hc33
        refine lv_iload_n hx hb d_Sp_invalidIn_36 rfl (lv_at hl 3 rfl) ?_
        refine lv_iconst (v := nI 1) hx hb d_Sp_invalidIn_37 (by decide) ?_
        refine lv_iload hx hb d_Sp_invalidIn_38 (lv_at hl 4 rfl) ?_
        refine lv_ishl hx hb d_Sp_invalidIn_40 ?_
        refine topI (shlN (by omega) (pw1 (by omega))) ?_
        refine lv_ior hx hb d_Sp_invalidIn_41 ?_
        refine topI (y := nI (ivs iv n b (i + 1))) (by rw [nx_or, ivs_c (by omega) hc18 (ts_nf hc33)]) ?_
        refine lv_istore_n hx hb d_Sp_invalidIn_42 rfl hl (by decide) rfl (fun ls hl => ?_)
        have hl : lv_has ls 5 [(3, .int (nI (ivs iv n b (i + 1)))), (0, .ref h0), (1, .int (nI (fo n 6))), (2, .int (nI b)), (4, .int (nI i))] := hl
        refine lv_iinc (k := 4) (v := nI (i + 1)) hx hb d_Sp_invalidIn_43 hl rfl (nI_1 _) (by decide) rfl (fun ls hl => ?_)
        have hl : lv_has ls 5 [(4, .int (nI (i + 1))), (3, .int (nI (ivs iv n b (i + 1)))), (0, .ref h0), (1, .int (nI (fo n 6))), (2, .int (nI b))] := hl
        refine lv_goto (tgt := 5) hx hb d_Sp_invalidIn_46 (by decide) ?_
        exact ih5 (i + 1) H locs ls (by (try dsimp only); omega) (by (try dsimp only); omega) hP hD hS (lv_sub hl [2, 3, 4, 1, 0] rfl)
set_option maxHeartbeats 4000000 in
set_option maxRecDepth 100000 in
theorem k_Re_askedWith (l : Launch) (X : Cx) (h0 : Nat) (ak : Int64) (nk : Nat) (n : Nat) (hn : n < 64) : CtL l X (TY X) y_Re_askedWith cw_Re_askedWith ({ frames := 0, cells := 0, slots := 0, locals := 0 } : Room) [.ref h0, .int (nI n)] [(h0, .inr (1, [.long ak, .int (nI nk)]))] (S := Unit) (fun r _ => ∀ s, s < 64 → bL r s = (bL ak s && sub6 n s 6)) (fun _ => [(h0, .inr (1, [.long ak, .int (nI nk)]))]) 0 0 := by
  refine metL (by decide) (Nat.le_of_ble_eq_true rfl) ?_
  intro p e s m below meth c A ls hB hl
  obtain ⟨hx, hb, hr, hml, hown, hlk, hin, hg, hA, hD, hP, hE⟩ := hB
  have hS : va_S A s.heap s.heap [] := va_S.rf
  have hl : lv_has ls 5 [(0, .ref h0), (1, .int (nI n))] := hl
  obtain ⟨hK, hNw, t1, t2, hZ1, hT1, hZ2, hT2⟩ := id hE
  refine lv_aload_n hx hb d_Re_askedWith_0 rfl (lv_at hl 0 rfl) ?_
  refine va_get (D := X.1) (ci := 1) (v := .long ak) (C := R_Re) (T := F_Re) (N := 2) hx hb hg in_Re hown hE.1 hP 0 rfl rfl 0 (by decide) (hg _ m_100) (fun _ h9 => h9) rfl d_Re_askedWith_1 ?_
  refine lv_lstore_n hx hb d_Re_askedWith_4 rfl hl (by decide) rfl (fun ls hl => ?_)
  have hl : lv_has ls 5 [(2, .long ak), (0, .ref h0), (1, .int (nI n))] := hl
  refine lv_iconst (v := nI 0) hx hb d_Re_askedWith_5 (by decide) ?_
  refine lv_istore hx hb d_Re_askedWith_6 hl (by decide) rfl (fun ls hl => ?_)
  have hl : lv_has ls 5 [(4, .int (nI 0)), (2, .long ak), (0, .ref h0), (1, .int (nI n))] := hl
  refine wLoop (nL := 5) (σ := (Nat) × (Int64)) (fun x9 => (fun (i : Nat) (a : Int64) => 6 - i) x9.1 x9.2) (fun x9 => (fun (i : Nat) (a : Int64) => i ≤ 6 ∧ ∀ s, s < 64 → bL a s = (bL ak s && sub6 n s i)) x9.1 x9.2) (fun x9 => (fun (i : Nat) (a : Int64) => [(h0, .inr (1, [.long ak, .int (nI nk)]))]) x9.1 x9.2) (fun x9 => (fun (i : Nat) (a : Int64) => [(0, .ref h0), (1, .int (nI n)), (2, .long a), (4, .int (nI i))]) x9.1 x9.2) ?_ (0, ak) (⟨by omega, fun s _ => (Bool.and_true _).symm⟩) hP hD hS (lv_sub hl [2, 3, 1, 0] rfl)
  rintro ⟨i, a⟩ H locs ls hJ hP hD hS hl ih8
  have hJ : i ≤ 6 ∧ ∀ s, s < 64 → bL a s = (bL ak s && sub6 n s i) := hJ
  obtain ⟨hi6, ha⟩ := hJ
  have hP : va_P X.1 classes [(h0, .inr (1, [.long ak, .int (nI nk)]))] H := hP
  have hD : va_D A [(h0, .inr (1, [.long ak, .int (nI nk)]))] := hD
  have hl : lv_has ls 5 [(0, .ref h0), (1, .int (nI n)), (2, .long a), (4, .int (nI i))] := hl
  refine lv_iload hx hb d_Re_askedWith_8 (lv_at hl 3 rfl) ?_
  refine lv_bipush (v := nI 6) hx hb d_Re_askedWith_10 (by decide) ?_
  refine lv_icmp_ge (tgt := 39) hx hb d_Re_askedWith_12 (by decide) (fun hc12 => ?_) (fun hc12 => ?_)
  · rw [nI_leI (by omega) (by omega)] at hc12
    obtain rfl : i = 6 := by omega
    refine lv_lload_n hx hb d_Re_askedWith_39 rfl (lv_at hl 2 rfl) ?_
    exact retL (u := ()) hx hb hr hlk hP hD hS (ha) d_Re_askedWith_40
  · rw [nI_leI (by omega) (by omega)] at hc12
    refine lv_iload_n hx hb d_Re_askedWith_15 rfl (lv_at hl 1 rfl) ?_
    refine lv_iload hx hb d_Re_askedWith_16 (lv_at hl 3 rfl) ?_
    refine lv_ishr hx hb d_Re_askedWith_18 ?_
    refine topI (shrN (by omega) (by omega)) ?_
    refine lv_iconst (v := nI 1) hx hb d_Re_askedWith_19 (by decide) ?_
    refine lv_iand hx hb d_Re_askedWith_20 ?_
    refine topI (nx_and _ _) ?_
    refine lv_if_eq (tgt := 33) hx hb d_Re_askedWith_21 (by decide) (fun hc21 => ?_) (fun hc21 => ?_)
    · rw [tb_z] at hc21
      refine lv_iinc (k := 3) (v := nI (i + 1)) hx hb d_Re_askedWith_33 hl rfl (nI_1 _) (by decide) rfl (fun ls hl => ?_)
      have hl : lv_has ls 5 [(4, .int (nI (i + 1))), (0, .ref h0), (1, .int (nI n)), (2, .long a)] := hl
      refine lv_goto (tgt := 8) hx hb d_Re_askedWith_36 (by decide) ?_
      exact ih8 (i + 1, a) H locs ls (by (try dsimp only); omega) (⟨by (try dsimp only); omega, by first | exact awF ha hc21 | exact awT ha (by omega) (ts_nf hc21)⟩) hP hD hS (lv_sub hl [1, 2, 3, 0] rfl)
    · rw [tb_z] at hc21
      refine lv_lload_n hx hb d_Re_askedWith_24 rfl (lv_at hl 2 rfl) ?_
      refine va_getsN hx hb hZ2 hS hown (va_Nw.use rfl (nw_6 hNw)) (fun _ h9 => h9) d_Re_askedWith_25 ?_
      refine lv_iload hx hb d_Re_askedWith_28 (lv_at hl 3 rfl) ?_
      refine va_tl (v := .long (sw i)) hx hb hT2 hS (vp_in_nI (by omega) (by decide)) (by show Value.long (sw (nI i).toNatClampNeg) = _; rw [nI_clamp (by omega)]) d_Re_askedWith_30 ?_
      refine lv_land hx hb d_Re_askedWith_31 ?_
      refine lv_lstore_n hx hb d_Re_askedWith_32 rfl hl (by decide) rfl (fun ls hl => ?_)
      have hl : lv_has ls 5 [(2, .long (a &&& (sw i))), (0, .ref h0), (1, .int (nI n)), (4, .int (nI i))] := hl
      refine lv_iinc (k := 3) (v := nI (i + 1)) hx hb d_Re_askedWith_33 hl rfl (nI_1 _) (by decide) rfl (fun ls hl => ?_)
      have hl : lv_has ls 5 [(4, .int (nI (i + 1))), (2, .long (a &&& (sw i))), (0, .ref h0), (1, .int (nI n))] := hl
      refine lv_goto (tgt := 8) hx hb d_Re_askedWith_36 (by decide) ?_
      exact ih8 (i + 1, (a &&& (sw i))) H locs ls (by (try dsimp only); omega) (⟨by (try dsimp only); omega, by first | exact awF ha hc21 | exact awT ha (by omega) (ts_nf hc21)⟩) hP hD hS (lv_sub hl [2, 3, 1, 0] rfl)
set_option maxHeartbeats 4000000 in
set_option maxRecDepth 100000 in
theorem k_Re_add (l : Launch) (X : Cx) (h0 : Nat) (ak : Int64) (nk n k : Nat) (hn : n < 64) (hk : k < 4) : CtV l X (TY X) y_Re_add cw_Re_add ({ frames := 1, cells := 0, slots := 0, locals := 20 } : Room) [.ref h0, .int (nI n), .int (nI k)] [(h0, .inr (1, [.long ak, .int (nI nk)]))] (S := Int64) (fun d => ∀ s, s < 64 → bL d s = (bL ak s || adB n k s)) (fun d => [(h0, .inr (1, [.long d, .int (nI (nk + 1))]))]) 0 0 := by
  refine metV (by decide) (Nat.le_of_ble_eq_true rfl) ?_
  intro p e s m below meth c A ls hB hl
  obtain ⟨hx, hb, hr, hml, hown, hlk, hin, hg, hA, hD, hP, hE⟩ := hB
  have hS : va_S A s.heap s.heap [] := va_S.rf
  have hl : lv_has ls 4 [(0, .ref h0), (1, .int (nI n)), (2, .int (nI k))] := hl
  refine lv_iconst (v := nI 1) hx hb d_Re_add_0 (by decide) ?_
  refine lv_istore_n hx hb d_Re_add_1 rfl hl (by decide) rfl (fun ls hl => ?_)
  have hl : lv_has ls 4 [(3, .int (nI 1)), (0, .ref h0), (1, .int (nI n)), (2, .int (nI k))] := hl
  refine wLoop (nL := 4) (σ := (Nat) × (Int64)) (fun x9 => (fun (i : Nat) (d : Int64) => 64 - i) x9.1 x9.2) (fun x9 => (fun (i : Nat) (d : Int64) => 1 ≤ i ∧ i ≤ 64 ∧ ∀ s, s < 64 → bL d s = (bL ak s || (decide (s < i) && adB n k s))) x9.1 x9.2) (fun x9 => (fun (i : Nat) (d : Int64) => [(h0, .inr (1, [.long d, .int (nI nk)]))]) x9.1 x9.2) (fun x9 => (fun (i : Nat) (d : Int64) => [(0, .ref h0), (1, .int (nI n)), (2, .int (nI k)), (3, .int (nI i))]) x9.1 x9.2) ?_ (1, ak) (⟨by omega, by omega, fun s _ => addS s⟩) hP hD hS (lv_sub hl [1, 2, 3, 0] rfl)
  rintro ⟨i, d⟩ H locs ls hJ hP hD hS hl ih2
  have hJ : 1 ≤ i ∧ i ≤ 64 ∧ ∀ s, s < 64 → bL d s = (bL ak s || (decide (s < i) && adB n k s)) := hJ
  obtain ⟨hi1, hi64, hd⟩ := hJ
  have hP : va_P X.1 classes [(h0, .inr (1, [.long d, .int (nI nk)]))] H := hP
  have hD : va_D A [(h0, .inr (1, [.long d, .int (nI nk)]))] := hD
  have hl : lv_has ls 4 [(0, .ref h0), (1, .int (nI n)), (2, .int (nI k)), (3, .int (nI i))] := hl
  refine lv_iload_n hx hb d_Re_add_2 rfl (lv_at hl 3 rfl) ?_
  refine lv_bipush (v := nI 64) hx hb d_Re_add_3 (by decide) ?_
  refine lv_icmp_ge (tgt := 42) hx hb d_Re_add_5 (by decide) (fun hc5 => ?_) (fun hc5 => ?_)
  · rw [nI_leI (by omega) (by omega)] at hc5
    refine lv_aload_n hx hb d_Re_add_42 rfl (lv_at hl 0 rfl) ?_
    refine lv_dup hx hb d_Re_add_43 rfl ?_
    refine va_get (D := X.1) (ci := 1) (v := .int (nI nk)) (C := R_Re) (T := F_Re) (N := 2) hx hb hg in_Re hown hE.1 hP 0 rfl rfl 1 (by decide) (hg _ m_101) (fun _ h9 => h9) rfl d_Re_add_44 ?_
    refine lv_iconst (v := nI 1) hx hb d_Re_add_47 (by decide) ?_
    refine lv_iadd hx hb d_Re_add_48 ?_
    refine topI (nI_add _ _) ?_
    refine va_put (D := X.1) (ci := 1) (v := .int (nI (nk + 1))) (ty := .int) (C := R_Re) (T := F_Re) (N := 2) hx hb hg in_Re t_Re t_Re_ok n_Re hown hE.1 hP hD hS 0 rfl rfl 1 (by decide) (hg _ m_101) (fun _ h9 => h9) rfl (by decide +kernel) rfl rfl (Nat.le_of_ble_eq_true rfl) d_Re_add_49 (fun H locs hP hD hS => ?_)
    have hP : va_P X.1 classes [(h0, .inr (1, [.long d, .int (nI (nk + 1))]))] H := hP
    have hD : va_D A [(h0, .inr (1, [.long d, .int (nI (nk + 1))]))] := hD
    exact retV (u := d) hx hb hr hlk hP hD hS (addDone hd (by omega)) d_Re_add_52
  · rw [nI_leI (by omega) (by omega)] at hc5
    refine lv_iload_n hx hb d_Re_add_8 rfl (lv_at hl 3 rfl) ?_
    refine lv_iload_n hx hb d_Re_add_9 rfl (lv_at hl 1 rfl) ?_
    refine lv_iconst (v := (-1)) hx hb d_Re_add_10 (by decide) ?_
    refine lv_ixor hx hb d_Re_add_11 ?_
    refine lv_iand hx hb d_Re_add_12 ?_
    refine lv_if_ne (tgt := 36) hx hb d_Re_add_13 (by decide) (fun hc13 => ?_) (fun hc13 => ?_)
    · rw [sb13 (by omega) hn] at hc13
      refine lv_iinc (k := 3) (v := nI (i + 1)) hx hb d_Re_add_36 hl rfl (nI_1 _) (by decide) rfl (fun ls hl => ?_)
      have hl : lv_has ls 4 [(3, .int (nI (i + 1))), (0, .ref h0), (1, .int (nI n)), (2, .int (nI k))] := hl
      refine lv_goto (tgt := 2) hx hb d_Re_add_39 (by decide) ?_
      exact ih2 (i + 1, d) H locs ls (by (try dsimp only); omega) (⟨by (try dsimp only); omega, by (try dsimp only); omega, by first | exact addF1 hd hc13 | exact addF2 hd hc21 | exact addT hd (by omega) (by omega) hc13 hc21⟩) hP hD hS (lv_sub hl [1, 2, 3, 0] rfl)
    · rw [sb13 (by omega) hn] at hc13
      refine lv_iload_n hx hb d_Re_add_16 rfl (lv_at hl 3 rfl) ?_
      refine clSI (n := 1) (As := [.int (nI i)]) (rest := []) (wc := []) (wr := [(h0, .inr (1, [.long d, .int (nI nk)]))]) hx hb hml hown hg hE hA hP hD hS (k_JI_bitCount l X (nI i)) (gcons m_228 (gcons m_219 (gcons m_9 (gcons m_220 gG)))) (by decide +kernel) [] [0] rfl rfl (by decide) (by decide) (by decide) rfl hl.1 (Nat.le_of_ble_eq_true rfl) rfl d_Re_add_17 ⟨rfl, rfl, Nat.le_of_ble_eq_true rfl, Nat.le_of_ble_eq_true rfl⟩ (⟨Nat.le_of_ble_eq_true rfl, Nat.le_of_ble_eq_true rfl⟩) (fun r17 u17 H locs hq17 hP hD hS => ?_)
      have hq17 : r17 = bcI (nI i) := hq17
      subst hq17
      have hP : va_P X.1 classes [(h0, .inr (1, [.long d, .int (nI nk)]))] H := hP
      have hD : va_D A [(h0, .inr (1, [.long d, .int (nI nk)]))] := hD
      refine topI (y := nI (cn i 6)) (bc6 (by omega)) ?_
      refine lv_iload_n hx hb d_Re_add_20 rfl (lv_at hl 2 rfl) ?_
      refine lv_icmp_ne (tgt := 36) hx hb d_Re_add_21 (by decide) (fun hc21 => ?_) (fun hc21 => ?_)
      · rw [nI_eq (cn31 _) (by omega)] at hc21
        refine lv_iinc (k := 3) (v := nI (i + 1)) hx hb d_Re_add_36 hl rfl (nI_1 _) (by decide) rfl (fun ls hl => ?_)
        have hl : lv_has ls 4 [(3, .int (nI (i + 1))), (0, .ref h0), (1, .int (nI n)), (2, .int (nI k))] := hl
        refine lv_goto (tgt := 2) hx hb d_Re_add_39 (by decide) ?_
        exact ih2 (i + 1, d) H locs ls (by (try dsimp only); omega) (⟨by (try dsimp only); omega, by (try dsimp only); omega, by first | exact addF1 hd hc13 | exact addF2 hd hc21 | exact addT hd (by omega) (by omega) hc13 hc21⟩) hP hD hS (lv_sub hl [1, 2, 3, 0] rfl)
      · rw [nI_eq (cn31 _) (by omega)] at hc21
        refine lv_aload_n hx hb d_Re_add_24 rfl (lv_at hl 0 rfl) ?_
        refine lv_dup hx hb d_Re_add_25 rfl ?_
        refine va_get (D := X.1) (ci := 1) (v := .long d) (C := R_Re) (T := F_Re) (N := 2) hx hb hg in_Re hown hE.1 hP 0 rfl rfl 0 (by decide) (hg _ m_100) (fun _ h9 => h9) rfl d_Re_add_26 ?_
        refine lv_lconst (v := 1) hx hb d_Re_add_29 (by decide) ?_
        refine lv_iload_n hx hb d_Re_add_30 rfl (lv_at hl 3 rfl) ?_
        refine lv_lshl hx hb d_Re_add_31 rfl ?_
        refine lv_lor hx hb d_Re_add_32 ?_
        refine va_put (D := X.1) (ci := 1) (v := .long (d ||| (1 <<< ((nI i).toInt64 &&& 63)))) (ty := .long) (C := R_Re) (T := F_Re) (N := 2) hx hb hg in_Re t_Re t_Re_ok n_Re hown hE.1 hP hD hS 0 rfl rfl 0 (by decide) (hg _ m_100) (fun _ h9 => h9) rfl (by decide +kernel) rfl rfl (Nat.le_of_ble_eq_true rfl) d_Re_add_33 (fun H locs hP hD hS => ?_)
        have hP : va_P X.1 classes [(h0, .inr (1, [.long (d ||| (1 <<< ((nI i).toInt64 &&& 63))), .int (nI nk)]))] H := hP
        have hD : va_D A [(h0, .inr (1, [.long (d ||| (1 <<< ((nI i).toInt64 &&& 63))), .int (nI nk)]))] := hD
        refine lv_iinc (k := 3) (v := nI (i + 1)) hx hb d_Re_add_36 hl rfl (nI_1 _) (by decide) rfl (fun ls hl => ?_)
        have hl : lv_has ls 4 [(3, .int (nI (i + 1))), (0, .ref h0), (1, .int (nI n)), (2, .int (nI k))] := hl
        refine lv_goto (tgt := 2) hx hb d_Re_add_39 (by decide) ?_
        exact ih2 (i + 1, (d ||| (1 <<< ((nI i).toInt64 &&& 63)))) H locs ls (by (try dsimp only); omega) (⟨by (try dsimp only); omega, by (try dsimp only); omega, by first | exact addF1 hd hc13 | exact addF2 hd hc21 | exact addT hd (by omega) (by omega) hc13 hc21⟩) hP hD hS (lv_sub hl [1, 2, 3, 0] rfl)
