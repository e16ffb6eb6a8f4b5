/-! what holds in the law's loop, and what each call keeps of it -/
abbrev JLp (ct P nr : Nat) (vl iv : Nat → Nat) (fM fV fN : Nat → Int64) (ak : Int64) (nk : Nat) (dp : Nat → Nat) (fw : Nat → Nat → Int64) (ST : Nat → Nat → Bool) (ns : Nat) (on : Bool) (gz : GS) (cv : Nat → Int64) (gs rs rt : Nat → Nat) (T : TS) (ru : Nat → Nat) (kf : Nat → Int32) (vf nf : Nat → Bool) (fr : Bool) (opf : Nat → Bool) (oP : Int32) : Prop :=
  iSp P vl iv nr ∧ iRo vl iv (MMf T ru nr) fM fV fN ∧ iRe P ak nk rs rt ∧ iTe T ru nr dp ST ct ∧ (∀ j, j < tC T → RS (fw j) (ST j)) ∧ ns ≤ 8 ∧ (∀ s, gs s < 2 ^ 31) ∧ gz.2.1 ≤ 8 + ct ∧ (fr = true → lkP P (kkI P vl iv (MMf T ru nr)) kf vf nf) ∧ (on = true → fr = true ∧ iOn P vl iv (MMf T ru nr) ak gz cv gs opf oP) ∧ ct ≤ 512 ∧ opf 0 = false
section JLS
variable {ct P nr nk ns : Nat} {vl iv dp gs rs rt ru : Nat → Nat} {fM fV fN cv : Nat → Int64} {ak : Int64} {fw : Nat → Nat → Int64} {ST : Nat → Nat → Bool} {on fr : Bool} {gz : GS} {T : TS} {kf : Nat → Int32} {vf nf opf : Nat → Bool} {oP : Int32}
theorem JL_same {cv1 : Nat → Int64} {gs1 : Nat → Nat} {kf1 : Nat → Int32} {vf1 nf1 : Nat → Bool} {fr1 : Bool} (h : JLp ct P nr vl iv fM fV fN ak nk dp fw ST ns on gz cv gs rs rt T ru kf vf nf fr opf oP) (hc : ct < 512) (hg : ∀ s, gs1 s < 2 ^ 31) (hcg : on = true → cvI cv1 gz.1 ∧ gnI iv (VV vl iv (MMf T ru nr)) (NN vl iv (MMf T ru nr)) (bL ak) P gs1 gz.1) (hlk : fr1 = true → lkP P (kkI P vl iv (MMf T ru nr)) kf1 vf1 nf1) (hfr : on = true → fr1 = true) : JLp (ct + 1) P nr vl iv fM fV fN ak nk dp fw ST ns on gz cv1 gs1 rs rt T ru kf1 vf1 nf1 fr1 opf oP := by
  obtain ⟨a1, a2, a3, a4, a5, a6, a7, a8, a9, a10, a11, a12⟩ := h
  exact ⟨a1, a2, a3, a4.more, a5, a6, hg, by omega, hlk, fun z => ⟨hfr z, (a10 z).2.1, hcg z, (a10 z).2.2.2⟩, by omega, a12⟩
theorem JL_keep (h : JLp ct P nr vl iv fM fV fN ak nk dp fw ST ns on gz cv gs rs rt T ru kf vf nf fr opf oP) (hc : ct < 512) : JLp (ct + 1) P nr vl iv fM fV fN ak nk dp fw ST ns on gz cv gs rs rt T ru kf vf nf fr opf oP :=
  JL_same h hc h.2.2.2.2.2.2.1 (fun z => (h.2.2.2.2.2.2.2.2.2.1 z).2.2.1) h.2.2.2.2.2.2.2.2.1 (fun z => (h.2.2.2.2.2.2.2.2.2.1 z).1)
theorem JL_look {kf1 : Nat → Int32} {vf1 nf1 : Nat → Bool} (h : JLp ct P nr vl iv fM fV fN ak nk dp fw ST ns on gz cv gs rs rt T ru kf vf nf fr opf oP) (hc : ct < 512) (hlk : lkP P (kkI P vl iv (MMf T ru nr)) kf1 vf1 nf1) : JLp (ct + 1) P nr vl iv fM fV fN ak nk dp fw ST ns on gz cv gs rs rt T ru kf1 vf1 nf1 true opf oP :=
  JL_same h hc h.2.2.2.2.2.2.1 (fun z => (h.2.2.2.2.2.2.2.2.2.1 z).2.2.1) (fun _ => hlk) (fun _ => rfl)
theorem JL_end (h : JLp ct P nr vl iv fM fV fN ak nk dp fw ST ns on gz cv gs rs rt T ru kf vf nf fr opf oP) (hc : ct < 512) : JLp (ct + 1) P nr vl iv fM fV fN ak nk dp fw ST ns false gz cv gs rs rt T ru kf vf nf fr opf oP := by
  obtain ⟨a1, a2, a3, a4, a5, a6, a7, a8, a9, a10, a11, a12⟩ := h
  exact ⟨a1, a2, a3, a4.more, a5, a6, a7, by omega, a9, fun z => (by cases z), by omega, a12⟩
theorem JL_par {P1 : Nat} {vl1 : Nat → Nat} {fV1 fN1 : Nat → Int64} {fr1 : Bool} {x : Int32} (h : JLp ct P nr vl iv fM fV fN ak nk dp fw ST ns on gz cv gs rs rt T ru kf vf nf fr opf oP) (hc : ct < 512) (e1 : P1 = bif pmO on P x then P + 1 else P) (e2 : vl1 = bif pmO on P x then upN vl P x.toNatClampNeg else vl) (h1 : RS fV1 (VV vl1 iv (MMf T ru nr))) (h2 : RS fN1 (NN vl1 iv (MMf T ru nr))) (e3 : fr1 = bif pmO on P x then false else fr) : JLp (ct + 1) P1 nr vl1 iv fM fV1 fN1 ak nk dp fw ST ns on gz cv gs rs rt T ru kf vf nf fr1 opf oP := by
  obtain ⟨a1, a2, a3, a4, a5, a6, a7, a8, a9, a10, a11, a12⟩ := h
  have s1 := a1.par (on := on) (x := x)
  have s3 := a3.par (on := on) (x := x)
  rw [← e1, ← e2] at s1
  rw [← e1] at s3
  cases ho : pmO on P x
  · rw [ho] at e1 e2 e3
    have e1 : P1 = P := e1
    have e2 : vl1 = vl := e2
    have e3 : fr1 = fr := e3
    refine ⟨s1, ⟨a2.1, h1, h2⟩, s3, a4.more, a5, a6, a7, by omega, fun z => ?_, fun z => ?_, by omega, a12⟩
    · rw [e1, e2]; exact a9 (e3 ▸ z)
    · rw [e1, e2, e3]; exact a10 z
  · have hoff := pm_off ho
    rw [ho] at e3
    have e3 : fr1 = false := e3
    exact ⟨s1, ⟨a2.1, h1, h2⟩, s3, a4.more, a5, a6, a7, by omega, fun z => (by rw [e3] at z; cases z), fun z => (by rw [hoff] at z; cases z), by omega, a12⟩
theorem JL_inv {iv1 : Nat → Nat} {fV1 fN1 : Nat → Int64} {fr1 : Bool} {x y : Int32} (h : JLp ct P nr vl iv fM fV fN ak nk dp fw ST ns on gz cv gs rs rt T ru kf vf nf fr opf oP) (hc : ct < 512) (e1 : iv1 = bif ivO on P vl iv x y then ivN iv x y else iv) (h1 : RS fV1 (VV vl iv1 (MMf T ru nr))) (h2 : RS fN1 (NN vl iv1 (MMf T ru nr))) (e3 : fr1 = bif ivO on P vl iv x y then false else fr) : JLp (ct + 1) P nr vl iv1 fM fV1 fN1 ak nk dp fw ST ns on gz cv gs rs rt T ru kf vf nf fr1 opf oP := by
  obtain ⟨a1, a2, a3, a4, a5, a6, a7, a8, a9, a10, a11, a12⟩ := h
  have s1 := a1.inv (on := on) (x := x) (y := y)
  rw [← e1] at s1
  cases ho : ivO on P vl iv x y
  · rw [ho] at e1 e3
    have e1 : iv1 = iv := e1
    have e3 : fr1 = fr := e3
    refine ⟨s1, ⟨a2.1, h1, h2⟩, a3, a4.more, a5, a6, a7, by omega, fun z => ?_, fun z => ?_, by omega, a12⟩
    · rw [e1]; exact a9 (e3 ▸ z)
    · rw [e1, e3]; exact a10 z
  · have hoff := iv_off ho
    rw [ho] at e3
    have e3 : fr1 = false := e3
    exact ⟨s1, ⟨a2.1, h1, h2⟩, a3, a4.more, a5, a6, a7, by omega, fun z => (by rw [e3] at z; cases z), fun z => (by rw [hoff] at z; cases z), by omega, a12⟩
theorem bL_ext {x y : Int64} (h : ∀ s, s < 64 → bL x s = bL y s) : bL x = bL y := by
  funext s
  by_cases hs : s < 64
  · exact h s hs
  · rw [bL_hi (by omega), bL_hi (by omega)]
theorem JL_rel {ak1 : Int64} {nk1 : Nat} {rs1 rt1 : Nat → Nat} {x y : Int32} (h : JLp ct P nr vl iv fM fV fN ak nk dp fw ST ns on gz cv gs rs rt T ru kf vf nf fr opf oP) (hc : ct < 512) (e1 : nk1 = bif rlO on P nk x y then nk + 1 else nk) (hd : ∀ s, s < 64 → bL ak1 s = (bL ak s || (rlO on P nk x y && adB x.toNatClampNeg y.toNatClampNeg s))) (e2 : rs1 = bif rlO on P nk x y then upN rs nk x.toNatClampNeg else rs) (e3 : rt1 = bif rlO on P nk x y then upN rt nk y.toNatClampNeg else rt) : JLp (ct + 1) P nr vl iv fM fV fN ak1 nk1 dp fw ST ns on gz cv gs rs1 rt1 T ru kf vf nf fr opf oP := by
  obtain ⟨a1, a2, a3, a4, a5, a6, a7, a8, a9, a10, a11, a12⟩ := h
  have s3 := a3.rel a1.1 hd
  rw [← e1, ← e2, ← e3] at s3
  refine ⟨a1, a2, s3, a4.more, a5, a6, a7, by omega, a9, fun z => ?_, by omega, a12⟩
  cases ho : rlO on P nk x y
  · rw [ho] at hd
    have e := bL_ext (x := ak1) (y := ak) (fun s hs => by rw [hd s hs, Bool.false_and, Bool.or_false])
    unfold iOn
    rw [e]
    exact a10 z
  · rw [rl_off ho] at z
    cases z
theorem JL_is {fw1 : Nat → Nat → Int64} {dp1 : Nat → Nat} {T1 : TS} {x y : Int32} (h : JLp ct P nr vl iv fM fV fN ak nk dp fw ST ns on gz cv gs rs rt T ru kf vf nf fr opf oP) (hc : ct < 512) (e1 : T1 = tsI (isO on P vl (tC T) x y) x.toNatClampNeg y.toNatClampNeg T) (e2 : dp1 = bif isO on P vl (tC T) x y then upN dp (tC T) 1 else dp) (hf : ∀ j, j < tC T1 → RS (fw1 j) (isF on P vl (tC T) x y ST j)) : JLp (ct + 1) P nr vl iv fM fV fN ak nk dp1 fw1 (isF on P vl (tC T) x y ST) ns on gz cv gs rs rt T1 ru kf vf nf fr opf oP := by
  obtain ⟨a1, a2, a3, a4, a5, a6, a7, a8, a9, a10, a11, a12⟩ := h
  have s4 := a4.is (on := on) (x := x) (y := y) a1.1 a1.2.1
  rw [← e1, ← e2] at s4
  have eM : MMf T1 ru nr = MMf T ru nr := by rw [e1]; exact MM_is a4.2.2.2.2.2.2.2.2
  refine ⟨a1, ?_, a3, s4, hf, a6, a7, by omega, ?_, ?_, by omega, a12⟩
  · rw [eM]; exact a2
  · rw [eM]; exact a9
  · rw [eM]; exact a10
theorem JL_not {fw1 : Nat → Nat → Int64} {dp1 : Nat → Nat} {T1 : TS} (h : JLp ct P nr vl iv fM fV fN ak nk dp fw ST ns on gz cv gs rs rt T ru kf vf nf fr opf oP) (hc : ct < 512) (e1 : T1 = tsN (!on && ngB (tC T) (dpT T)) T) (e2 : dp1 = bif !on && ngB (tC T) dp then upN dp (tC T - 1) (dp (tC T - 1) + 1) else dp) (hf : ∀ j, j < tC T1 → RS (fw1 j) (ntF on (tC T) dp ST j)) : JLp (ct + 1) P nr vl iv fM fV fN ak nk dp1 fw1 (ntF on (tC T) dp ST) ns on gz cv gs rs rt T1 ru kf vf nf fr opf oP := by
  obtain ⟨a1, a2, a3, a4, a5, a6, a7, a8, a9, a10, a11, a12⟩ := h
  have s4 := a4.not (on := on)
  rw [← e1, ← e2] at s4
  have eM : MMf T1 ru nr = MMf T ru nr := by rw [e1]; exact MM_no a4.2.2.2.2.2.2.2.2
  refine ⟨a1, ?_, a3, s4, hf, a6, a7, by omega, ?_, ?_, by omega, a12⟩
  · rw [eM]; exact a2
  · rw [eM]; exact a9
  · rw [eM]; exact a10
theorem JL_join {fw1 : Nat → Nat → Int64} {dp1 : Nat → Nat} {T1 : TS} {x : Int32} (h : JLp ct P nr vl iv fM fV fN ak nk dp fw ST ns on gz cv gs rs rt T ru kf vf nf fr opf oP) (hc : ct < 512) (e1 : T1 = tsJ (jnC on (tC T) (dpT T) x) x.toNatClampNeg T) (e2 : dp1 = bif jnC on (tC T) dp x then upN dp (tC T - 2) (max (dp (tC T - 2)) (dp (tC T - 1)) + 1) else dp) (hf : ∀ j, j < tC T1 → RS (fw1 j) (joF on (tC T) dp x ST j)) : JLp (ct + 1) P nr vl iv fM fV fN ak nk dp1 fw1 (joF on (tC T) dp x ST) ns on gz cv gs rs rt T1 ru kf vf nf fr opf oP := by
  obtain ⟨a1, a2, a3, a4, a5, a6, a7, a8, a9, a10, a11, a12⟩ := h
  have s4 := a4.join (on := on) (x := x)
  rw [← e1, ← e2] at s4
  have eM : MMf T1 ru nr = MMf T ru nr := by rw [e1]; exact MM_jo a4.2.2.2.2.2.2.2.2
  refine ⟨a1, ?_, a3, s4, hf, a6, a7, by omega, ?_, ?_, by omega, a12⟩
  · rw [eM]; exact a2
  · rw [eM]; exact a9
  · rw [eM]; exact a10
theorem JL_req {tc1 nr1 : Nat} {fM1 fV1 fN1 : Nat → Int64} {ru1 : Nat → Nat} {fr1 : Bool} (h : JLp ct P nr vl iv fM fV fN ak nk dp fw ST ns on gz cv gs rs rt T ru kf vf nf fr opf oP) (hc : ct < 512) (e1 : tc1 = bif rqO on (tC T) nr then tC T - 1 else tC T) (e2 : nr1 = bif rqO on (tC T) nr then nr + 1 else nr) (e3 : ru1 = bif rqO on (tC T) nr then upN ru nr (tK T (tC T - 1)) else ru) (e4 : fr1 = bif rqO on (tC T) nr then false else fr) (h1 : RS fM1 (rqM on (tC T) nr (MMf T ru nr) ST)) (h2 : RS fV1 (VV vl iv (rqM on (tC T) nr (MMf T ru nr) ST))) (h3 : RS fN1 (NN vl iv (rqM on (tC T) nr (MMf T ru nr) ST))) : JLp (ct + 1) P nr1 vl iv fM1 fV1 fN1 ak nk dp fw ST ns on gz cv gs rs rt (tsR tc1 T) ru1 kf vf nf fr1 opf oP := by
  obtain ⟨a1, a2, a3, a4, a5, a6, a7, a8, a9, a10, a11, a12⟩ := h
  have s4 := a4.req (on := on)
  have eM := MM_rq (on := on) a4
  have h8 := nr_8 (on := on) (tc := tC T) a1.2.2.2.2.2
  have hle : tc1 ≤ tC T := by rw [e1]; cases rqO on (tC T) nr <;> simp
  rw [← e1, ← e2, ← e3] at s4 eM
  rw [← e2] at h8
  rw [eM] at h1 h2 h3
  refine ⟨⟨a1.1, a1.2.1, a1.2.2.1, a1.2.2.2.1, a1.2.2.2.2.1, h8⟩, ⟨h1, h2, h3⟩, a3, s4, fun j hj => a5 j (Nat.lt_of_lt_of_le hj hle), a6, a7, by omega, ?_, ?_, by omega, a12⟩
  · intro z
    cases ho : rqO on (tC T) nr
    · rw [ho] at e2 e3 e4
      have e2 : nr1 = nr := e2
      have e3 : ru1 = ru := e3
      have e4 : fr1 = fr := e4
      rw [MM_R, e2, e3]
      exact a9 (e4 ▸ z)
    · rw [ho] at e4
      have e4 : fr1 = false := e4
      rw [e4] at z
      cases z
  · intro z
    cases ho : rqO on (tC T) nr
    · rw [ho] at e2 e3 e4
      have e2 : nr1 = nr := e2
      have e3 : ru1 = ru := e3
      have e4 : fr1 = fr := e4
      rw [MM_R, e2, e3, e4]
      exact a10 z
    · rw [rq_off ho] at z
      cases z
theorem JL_seed {ns1 : Nat} (h : JLp ct P nr vl iv fM fV fN ak nk dp fw ST ns on gz cv gs rs rt T ru kf vf nf fr opf oP) (hc : ct < 512) (e1 : ns1 = bif sdO on ns then ns + 1 else ns) : JLp (ct + 1) P nr vl iv fM fV fN ak nk dp fw ST ns1 on gz cv gs rs rt T ru kf vf nf fr opf oP := by
  obtain ⟨a1, a2, a3, a4, a5, a6, a7, a8, a9, a10, a11, a12⟩ := h
  exact ⟨a1, a2, a3, a4.more, a5, by rw [e1]; exact ns_8 a6, a7, by omega, a9, a10, by omega, a12⟩
/-- begin, yes -/
theorem JL_beg {gz1 : GS} {cv1 : Nat → Int64} {gs1 : Nat → Nat} {kf1 : Nat → Int32} {vf1 nf1 opf1 : Nat → Bool} {oP1 : Int32} (h : JLp ct P nr vl iv fM fV fN ak nk dp fw ST ns on gz cv gs rs rt T ru kf vf nf fr opf oP) (hc : ct < 512) (hP0 : ¬ P = 0) (hz : gz1.2.1 ≤ 8) (hg : ∀ s, gs1 s < 2 ^ 31) (hcg : cvI cv1 gz1.1 ∧ gnI iv (VV vl iv (MMf T ru nr)) (NN vl iv (MMf T ru nr)) (bL ak) P gs1 gz1.1) (hlk : lkP P (kkI P vl iv (MMf T ru nr)) kf1 vf1 nf1) (ho : ∀ i, i < 4096 → opf1 i = opX P vl iv (kkI P vl iv (MMf T ru nr)) (bL ak) gz1.1 i) (hp : oP1 = nI (cB (plX P vl iv (kkI P vl iv (MMf T ru nr)) (bL ak) gz1.1) 4096)) (hl : gz1.2.2.2.2 = nI (cB (opX P vl iv (kkI P vl iv (MMf T ru nr)) (bL ak) gz1.1) 4096)) : JLp (ct + 1) P nr vl iv fM fV fN ak nk dp fw ST ns true gz1 cv1 gs1 rs rt T ru kf1 vf1 nf1 true opf1 oP1 := by
  obtain ⟨a1, a2, a3, a4, a5, a6, a7, a8, a9, a10, a11, a12⟩ := h
  exact ⟨a1, a2, a3, a4.more, a5, a6, hg, by omega, fun _ => hlk, fun _ => ⟨rfl, hP0, hcg, ho, hp, hl⟩, by omega, (ho 0 (by decide)).trans (opX_z a3.2.1)⟩
/-- next, a row taken -/
theorem JL_nxt {n : Nat} {cv1 : Nat → Int64} {gs1 : Nat → Nat} {opf1 : Nat → Bool} (h : JLp ct P nr vl iv fM fV fN ak nk dp fw ST ns on gz cv gs rs rt T ru kf vf nf fr opf oP) (hc : ct < 512) (hon : on = true) (hn : n < 4096) (hkd : (VV vl iv (MMf T ru nr) n || NN vl iv (MMf T ru nr) n) = true) (hg : ∀ s, gs1 s < 2 ^ 31) (hcg : cvI cv1 (tkS iv (VV vl iv (MMf T ru nr)) (NN vl iv (MMf T ru nr)) (bL ak) n gz).1 ∧ gnI iv (VV vl iv (MMf T ru nr)) (NN vl iv (MMf T ru nr)) (bL ak) P gs1 (tkS iv (VV vl iv (MMf T ru nr)) (NN vl iv (MMf T ru nr)) (bL ak) n gz).1) (ho : opI vl iv (kf n) opf n (2 ^ P) opf1) : JLp (ct + 1) P nr vl iv fM fV fN ak nk dp fw ST ns on (tkS iv (VV vl iv (MMf T ru nr)) (NN vl iv (MMf T ru nr)) (bL ak) n gz) cv1 gs1 rs rt T ru kf vf nf fr opf1 (oP - nI (cB (plB vl iv (kf n) opf n) (2 ^ P))) := by
  obtain ⟨a1, a2, a3, a4, a5, a6, a7, a8, a9, a10, a11, a12⟩ := h
  obtain ⟨hfr, hP0, _, b1, b2, b3⟩ := a10 hon
  have hk := (a9 hfr).1 n hn
  have hop := op_tk hP0 a1.1 a3.2.1 hn hkd b1 (hk ▸ ho)
  refine ⟨a1, a2, a3, a4.more, a5, a6, hg, (show gz.2.1 + 1 ≤ 8 + (ct + 1) by omega), a9, fun _ => ⟨hfr, hP0, hcg, hop, ?_, ?_⟩, by omega, (hop 0 (by decide)).trans (opX_z a3.2.1)⟩
  · rw [b2, hk]
    exact plain_tk hP0 a1.1 a3.2.1 hn hkd b1
  · show gz.2.2.2.2 - nI (cB (tkG iv (VV vl iv (MMf T ru nr)) (NN vl iv (MMf T ru nr)) (bL ak) gz.1 n) 64) = _
    rw [b3]
    exact left_tk hP0 a1.1 a3.2.1 hn hkd
end JLS
theorem ex_neg {P : Nat} {vl : Nat → Nat} {V N : Nat → Bool} {x : Int32} (hP6 : P ≤ 6) (h : ∀ v, v < 8 ^ P → x = nI v → ¬ P = 0 → exK vl v P = false) : exX P vl V N x = -1 := by
  by_cases h0 : P = 0
  · exact (ex_P0 h0).symm
  · by_cases hx : ¬ x < 0 ∧ x < nI (8 ^ P)
    · obtain ⟨v, hv, rfl⟩ := ex_of hP6 hx
      rw [ex_v hP6 h0 hv]
      unfold exA
      rw [h v hv rfl h0]
      rfl
    · exact (ex_x hx).symm
theorem any_0 {P : Nat} {vl iv : Nat → Nat} {M : Nat → Bool} (hP0 : ¬ P = 0) : anyR (VV vl iv M) 0 0 = inV P (kkI P vl iv M) (nI 2) 4096 0 := by
  have h := any_V (P := P) (vl := vl) (iv := iv) (M := M) hP0 (n := 0) (t := 0) (by decide) (Nat.pow_pos (by decide)) (by decide)
  rw [ux_0] at h
  exact h
theorem fb_n {P : Nat} {vl iv : Nat → Nat} {V : Nat → Bool} {x : Int32} (h : x < nI 1 ∨ ¬ x ≤ nI 3) : fbA P vl iv V x = -1 := by
  rcases h with h | h
  · exact (fb_a h).symm
  · exact (fb_b h).symm
theorem cB_z0 {f : Nat → Bool} (h : nI (cB f 4096) = 0) : cB f 4096 = 0 := by
  have := cB_le f 4096
  exact (nI_eq (by omega) (by decide)).mp h
theorem cB_pos {f : Nat → Bool} : 0 < nI (cB f 4096) ↔ ¬ cB f 4096 = 0 := by
  have := cB_le f 4096
  rw [show (0 : Int32) = nI 0 from rfl, nI_ltI (by decide) (by omega)]
  omega
