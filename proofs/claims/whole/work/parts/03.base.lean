/-! the environment of every method: class numbers, array classes, nest words, the two static tables -/
abbrev Cx : Type := va_G × (Nat → ClassId)
abbrev TY (X : Cx) : List (ClassId × FieldType) := [(X.2 0, .int), (X.2 1, .long), (X.2 2, .boolean), (X.2 3, .byte), (X.2 4, .short), (X.2 5, .object R_NS)]
def nestW : List Cond := [.methodLinkNest "CombinationRows$Space" 20 y_NS_init "CombinationRows", .fieldLinkNest "CombinationRows$NumberSet" 38 "CombinationRows" "ZERO_IN_WORD" "[J" "CombinationRows", .methodLinkNest "CombinationRows$NumberSet" 35 y_CR_valueOf "CombinationRows", .methodLinkNest "CombinationRows" 18 y_Re_init "CombinationRows", .methodLinkNest "CombinationRows$Terms" 21 y_NS_init "CombinationRows", .methodLinkNest "CombinationRows$NumberSet" 29 y_CR_nextWithin "CombinationRows", .fieldLinkNest "CombinationRows$Relations" 25 "CombinationRows" "SETS_WITH" "[J" "CombinationRows", .methodLinkNest "CombinationRows$Generation" 67 y_CR_fieldsOf "CombinationRows", .methodLinkNest "CombinationRows$Space" 76 y_CR_valueOf "CombinationRows", .methodLinkNest "CombinationRows$Generation" 82 y_CR_nextWithin "CombinationRows", .methodLinkNest "CombinationRows$Generation" 122 y_CR_valueOf "CombinationRows", .methodLinkNest "CombinationRows$Space" 93 y_CR_nextWithin "CombinationRows"]
def NW (U : State) : Prop := (∀ w ∈ nestW, va_Nw w U) ∧ va_AO R_NS U
theorem nest_kind : ∀ w ∈ nestW, w.onTables = true := by
  have h : nestW.all (fun w => w.onTables) = true := by decide +kernel
  exact fun w hw => List.all_eq_true.mp h w hw
theorem NW.same {u U : State} (h : u.vm = U.vm) (hn : NW u) : NW U := ⟨fun w hw => (hn.1 w hw).same (nest_kind w hw) h, va_AO.moved (u := u) (by rw [h]; exact Vm.Alike.refl _) hn.2⟩
theorem NW.warm {s U : State} (hW : s.WarmedH U.vm) (h : NW s) : NW U := by
  refine ⟨?_, va_AO.moved hW.alike h.2⟩
  intro w hw
  have h0 := h.1 w hw
  simp only [nestW, List.mem_cons, List.not_mem_nil, or_false] at hw
  rcases hw with rfl | rfl | rfl | rfl | rfl | rfl | rfl | rfl | rfl | rfl | rfl | rfl <;> first | exact va_Nw.warmM hW h0 | exact va_Nw.warmF hW h0
theorem nw_0 {U : State} (h : NW U) : va_Nw (.methodLinkNest "CombinationRows$Space" 20 y_NS_init "CombinationRows") U := h.1 _ (List.mem_of_getElem? (i := 0) rfl)
theorem nw_1 {U : State} (h : NW U) : va_Nw (.fieldLinkNest "CombinationRows$NumberSet" 38 "CombinationRows" "ZERO_IN_WORD" "[J" "CombinationRows") U := h.1 _ (List.mem_of_getElem? (i := 1) rfl)
theorem nw_2 {U : State} (h : NW U) : va_Nw (.methodLinkNest "CombinationRows$NumberSet" 35 y_CR_valueOf "CombinationRows") U := h.1 _ (List.mem_of_getElem? (i := 2) rfl)
theorem nw_3 {U : State} (h : NW U) : va_Nw (.methodLinkNest "CombinationRows" 18 y_Re_init "CombinationRows") U := h.1 _ (List.mem_of_getElem? (i := 3) rfl)
theorem nw_4 {U : State} (h : NW U) : va_Nw (.methodLinkNest "CombinationRows$Terms" 21 y_NS_init "CombinationRows") U := h.1 _ (List.mem_of_getElem? (i := 4) rfl)
theorem nw_5 {U : State} (h : NW U) : va_Nw (.methodLinkNest "CombinationRows$NumberSet" 29 y_CR_nextWithin "CombinationRows") U := h.1 _ (List.mem_of_getElem? (i := 5) rfl)
theorem nw_6 {U : State} (h : NW U) : va_Nw (.fieldLinkNest "CombinationRows$Relations" 25 "CombinationRows" "SETS_WITH" "[J" "CombinationRows") U := h.1 _ (List.mem_of_getElem? (i := 6) rfl)
theorem nw_7 {U : State} (h : NW U) : va_Nw (.methodLinkNest "CombinationRows$Generation" 67 y_CR_fieldsOf "CombinationRows") U := h.1 _ (List.mem_of_getElem? (i := 7) rfl)
theorem nw_8 {U : State} (h : NW U) : va_Nw (.methodLinkNest "CombinationRows$Space" 76 y_CR_valueOf "CombinationRows") U := h.1 _ (List.mem_of_getElem? (i := 8) rfl)
theorem nw_9 {U : State} (h : NW U) : va_Nw (.methodLinkNest "CombinationRows$Generation" 82 y_CR_nextWithin "CombinationRows") U := h.1 _ (List.mem_of_getElem? (i := 9) rfl)
theorem nw_10 {U : State} (h : NW U) : va_Nw (.methodLinkNest "CombinationRows$Generation" 122 y_CR_valueOf "CombinationRows") U := h.1 _ (List.mem_of_getElem? (i := 10) rfl)
theorem nw_11 {U : State} (h : NW U) : va_Nw (.methodLinkNest "CombinationRows$Space" 93 y_CR_nextWithin "CombinationRows") U := h.1 _ (List.mem_of_getElem? (i := 11) rfl)
def zw (j : Nat) : Int64 := match j with
  | 0 => 1229782938247303441
  | 1 => 4222189076152335
  | _ => 65535
def sw (j : Nat) : Int64 := match j with
  | 0 => -6148914691236517206
  | 1 => -3689348814741910324
  | 2 => -1085102592571150096
  | 3 => -71777214294589696
  | 4 => -281470681808896
  | _ => -4294967296
def SW (A : Nat → Prop) (U : State) (H : Heap) : Prop := ∃ t1 t2 : Nat, va_Z R_CR "ZERO_IN_WORD" "[J" (.ref t1) A U H ∧ va_T .long t1 3 (fun j => .long (zw j)) A U H ∧ va_Z R_CR "SETS_WITH" "[J" (.ref t2) A U H ∧ va_T .long t2 6 (fun j => .long (sw j)) A U H
def En (X : Cx) (tys : List (ClassId × FieldType)) (A : Nat → Prop) (U : State) (H : Heap) : Prop := va_K X.1 classes tys U ∧ NW U ∧ SW A U H
theorem En.call {X : Cx} {tys : List (ClassId × FieldType)} {A B : Nat → Prop} {s U : State} {H : Heap} {locs : List Loc} (hE : En X tys A s s.heap) (hS : va_S A s.heap H locs) (hAB : ∀ q, B q → A q) (hU : U.heap = H) (hW : s.WarmedH U.vm) : En X tys B U U.heap := by
  obtain ⟨hK, hN, t1, t2, z1, a1, z2, a2⟩ := hE
  rw [hU]
  exact ⟨va_K.moved hW.alike hK, hN.warm hW, t1, t2, ((z1.kept hS.2.1).narrow hAB).moved hW.alike, ((a1.kept hS.2.1).narrow hAB).moved hW.alike, ((z2.kept hS.2.1).narrow hAB).moved hW.alike, ((a2.kept hS.2.1).narrow hAB).moved hW.alike⟩
theorem En.blind {X : Cx} {tys : List (ClassId × FieldType)} {A : Nat → Prop} {U : State} {g : JFrame} {mk : MethodId} {a : Array Value} (hE : En X tys A U U.heap) : En X tys A (U.calling g mk a) (U.calling g mk a).heap := by
  obtain ⟨hK, hN, t1, t2, z1, a1, z2, a2⟩ := hE
  exact ⟨va_K.moved (u := U) (U := U.calling g mk a) (Vm.Alike.refl U.vm) hK, hN.same (u := U) (U := U.calling g mk a) rfl, t1, t2, va_Z.moved (u := U) (U := U.calling g mk a) (Vm.Alike.refl U.vm) z1, va_T.moved (u := U) (U := U.calling g mk a) (Vm.Alike.refl U.vm) a1, va_Z.moved (u := U) (U := U.calling g mk a) (Vm.Alike.refl U.vm) z2, va_T.moved (u := U) (U := U.calling g mk a) (Vm.Alike.refl U.vm) a2⟩
theorem RA_uniq {U : State} {a b : ClassId} {ty : FieldType} (h : va_RA U a ty) (g : va_RA U b ty) : a = b := by
  cases ty with
  | object C =>
    obtain ⟨_, _, _, _, _, h⟩ := h
    obtain ⟨_, _, _, _, _, g⟩ := g
    exact Option.some.inj (h.symm.trans g)
  | _ => exact Option.some.inj ((show _ = some a from h).symm.trans (show _ = some b from g))
/-! standard contracts -/
def Pre0 (X : Cx) (tys : List (ClassId × FieldType)) (w0 : va_W) (sz : Nat) (U : State) : Prop := U.heap.size = sz ∧ va_P X.1 classes w0 U.heap ∧ va_D (fun _ => True) w0 ∧ En X tys (va_A w0 sz) U U.heap
def Aft (X : Cx) (A : Nat → Prop) (w1 : va_W) (t : State) : Prop := va_P X.1 classes w1 t.heap ∧ va_D A w1
theorem Pre0.blind {X : Cx} {tys : List (ClassId × FieldType)} {w0 : va_W} {sz : Nat} {As : List Value} : FrameBlind (va_Pc As (Pre0 X tys w0 sz)) := fun a U g mk q => by
  obtain ⟨q0, q1, qP, qD, qE⟩ := q
  exact ⟨q0, q1, qP, qD, qE.blind⟩
theorem fm_of_map {α β : Type} {f : α → Option β} : ∀ {is : List α} {w : List β}, is.map f = w.map some → is.filterMap f = w
  | [], [], _ => rfl
  | [], _ :: _, h => by cases h
  | _ :: _, [], h => by cases h
  | i :: is, x :: w, h => by
    rw [List.map_cons, List.map_cons] at h
    obtain ⟨h1, h2⟩ := List.cons.inj h
    rw [List.filterMap_cons, h1]
    show x :: is.filterMap f = x :: w
    rw [fm_of_map h2]
theorem Pre0.of {X : Cx} {tys : List (ClassId × FieldType)} {A : Nat → Prop} {s U : State} {H : Heap} {locs : List Loc} {wc : va_W} {As : List Value} (hE : En X tys A s s.heap) (hS : va_S A s.heap H locs) (hF : ∀ q, va_A wc H.size q → A q) (hPc : va_P X.1 classes wc H) (hDc : va_D A wc) (hU : U.heap = H) (hW : s.WarmedH U.vm) : va_Pc As (Pre0 X tys wc H.size) As.toArray U :=
  ⟨rfl, by rw [hU], by rw [hU]; exact hPc, hDc.weaken (fun _ _ _ _ => trivial), hE.call hS hF hU hW⟩
def CtI (l : Launch) (X : Cx) (tys : List (ClassId × FieldType)) (y : MethodName) (cw : Cond) (rm : Room) (As : List Value) (w0 : va_W) {S : Type} (post : Int32 → S → Prop) (w1 : S → va_W) (mc ms : Nat) : Prop := ∀ sz : Nat, Met l y (cw :: gW) rm (va_Pc As (Pre0 X tys w0 sz)) (va_Qi post (fun u t => Aft X (va_A w0 sz) (w1 u) t) (va_A w0 sz)) mc ms (va_A w0 sz)
def CtL (l : Launch) (X : Cx) (tys : List (ClassId × FieldType)) (y : MethodName) (cw : Cond) (rm : Room) (As : List Value) (w0 : va_W) {S : Type} (post : Int64 → S → Prop) (w1 : S → va_W) (mc ms : Nat) : Prop := ∀ sz : Nat, Met l y (cw :: gW) rm (va_Pc As (Pre0 X tys w0 sz)) (va_Ql post (fun u t => Aft X (va_A w0 sz) (w1 u) t) (va_A w0 sz)) mc ms (va_A w0 sz)
def CtV (l : Launch) (X : Cx) (tys : List (ClassId × FieldType)) (y : MethodName) (cw : Cond) (rm : Room) (As : List Value) (w0 : va_W) {S : Type} (post : S → Prop) (w1 : S → va_W) (mc ms : Nat) : Prop := ∀ sz : Nat, Met l y (cw :: gW) rm (va_Pc As (Pre0 X tys w0 sz)) (va_Qv post (fun u t => Aft X (va_A w0 sz) (w1 u) t) (va_A w0 sz)) mc ms (va_A w0 sz)
def CtR (l : Launch) (X : Cx) (tys : List (ClassId × FieldType)) (y : MethodName) (cw : Cond) (rm : Room) (As : List Value) (w0 : va_W) {S : Type} (post : S → Prop) (ad : S → Nat) (w1 : S → va_W) (mc ms : Nat) : Prop := ∀ sz : Nat, Met l y (cw :: gW) rm (va_Pc As (Pre0 X tys w0 sz)) (va_Qr post (fun u a t => a = ad u ∧ Aft X (va_A w0 sz) (w1 u) t) (va_A w0 sz)) mc ms (va_A w0 sz)
/-- what a method's body may use -/
def Bd (p : Program) (s : State) (m : MethodId) (meth : Method) (c : Code) (cc : ByteArray) (maxL : Nat) (ret : Option FieldType) (y : MethodName) (As : List Value) (A : Nat → Prop) (w0 : va_W) (X : Cx) (tys : List (ClassId × FieldType)) : Prop :=
  p.tables.exec = Jvm.exec ∧ c.code = cc ∧ meth.sig.returnType = ret ∧ c.maxLocals = maxL ∧ s.vm.findClass y.cls = some m.cls ∧ meth.locks = false ∧ meth.name = y.name ∧ (∀ w ∈ gW, w.before As.toArray s = true) ∧ (∀ q : Nat, s.heap.size ≤ q → A q) ∧ va_D A w0 ∧ va_P X.1 classes w0 s.heap ∧ En X tys A s s.heap
theorem metI {l : Launch} {X : Cx} {tys : List (ClassId × FieldType)} {y : MethodName} {cc : ByteArray} {maxL : Nat} {ret : Option FieldType} {rm : Room} {As : List Value} {w0 : va_W} {S : Type} {post : Int32 → S → Prop} {w1 : S → va_W} {mc ms : Nat} (hy : plainName y.cls = true) (hn : (lg_sl As).length ≤ maxL)
    (body : ∀ (p : Program) (e : Env) (s : State) (m : MethodId) (below : List Frame) (meth : Method) (c : Code) (A : Nat → Prop) (ls : Array Slot), Bd p s m meth c cc maxL ret y As A w0 X tys → lv_has ls maxL (lv_args 0 As) → W p l e rm s m As.toArray below meth c s.heap [] 0 0 (MQ below (va_Qi post (fun u t => Aft X A (w1 u) t) A) As.toArray s mc ms A) (F0 m 0 ls [])) : CtI l X tys y (.code y cc maxL ret) rm As w0 post w1 mc ms := by
  intro sz
  refine Met.ofW (cc := cc) (maxL := maxL) (ret := ret) hy rfl ?_
  intro p e s m args below meth c s₁ B hml hv
  obtain ⟨rfl, hsz, hP, hD0, hE⟩ := hv
  subst hsz
  have hts := atoms_spec (ws := Cond.code y cc maxL ret :: gW) B.pre
  rw [lg_entry_eq]
  exact body p e s m below meth c (va_A w0 s.heap.size) _ ⟨B.exec, B.bytes, B.returns, hml, findClass_of_methodNamed B.named, B.notSynchronized, (name_of_methodNamed B.named B.method).1, fun w hw => hts w (List.mem_cons_of_mem _ hw), fun q h => Or.inr h, hD0.self, hP, hE⟩ (lv_entry As hn)
theorem metL {l : Launch} {X : Cx} {tys : List (ClassId × FieldType)} {y : MethodName} {cc : ByteArray} {maxL : Nat} {ret : Option FieldType} {rm : Room} {As : List Value} {w0 : va_W} {S : Type} {post : Int64 → S → Prop} {w1 : S → va_W} {mc ms : Nat} (hy : plainName y.cls = true) (hn : (lg_sl As).length ≤ maxL)
    (body : ∀ (p : Program) (e : Env) (s : State) (m : MethodId) (below : List Frame) (meth : Method) (c : Code) (A : Nat → Prop) (ls : Array Slot), Bd p s m meth c cc maxL ret y As A w0 X tys → lv_has ls maxL (lv_args 0 As) → W p l e rm s m As.toArray below meth c s.heap [] 0 0 (MQ below (va_Ql post (fun u t => Aft X A (w1 u) t) A) As.toArray s mc ms A) (F0 m 0 ls [])) : CtL l X tys y (.code y cc maxL ret) rm As w0 post w1 mc ms := by
  intro sz
  refine Met.ofW (cc := cc) (maxL := maxL) (ret := ret) hy rfl ?_
  intro p e s m args below meth c s₁ B hml hv
  obtain ⟨rfl, hsz, hP, hD0, hE⟩ := hv
  subst hsz
  have hts := atoms_spec (ws := Cond.code y cc maxL ret :: gW) B.pre
  rw [lg_entry_eq]
  exact body p e s m below meth c (va_A w0 s.heap.size) _ ⟨B.exec, B.bytes, B.returns, hml, findClass_of_methodNamed B.named, B.notSynchronized, (name_of_methodNamed B.named B.method).1, fun w hw => hts w (List.mem_cons_of_mem _ hw), fun q h => Or.inr h, hD0.self, hP, hE⟩ (lv_entry As hn)
theorem metV {l : Launch} {X : Cx} {tys : List (ClassId × FieldType)} {y : MethodName} {cc : ByteArray} {maxL : Nat} {ret : Option FieldType} {rm : Room} {As : List Value} {w0 : va_W} {S : Type} {post : S → Prop} {w1 : S → va_W} {mc ms : Nat} (hy : plainName y.cls = true) (hn : (lg_sl As).length ≤ maxL)
    (body : ∀ (p : Program) (e : Env) (s : State) (m : MethodId) (below : List Frame) (meth : Method) (c : Code) (A : Nat → Prop) (ls : Array Slot), Bd p s m meth c cc maxL ret y As A w0 X tys → lv_has ls maxL (lv_args 0 As) → W p l e rm s m As.toArray below meth c s.heap [] 0 0 (MQ below (va_Qv post (fun u t => Aft X A (w1 u) t) A) As.toArray s mc ms A) (F0 m 0 ls [])) : CtV l X tys y (.code y cc maxL ret) rm As w0 post w1 mc ms := by
  intro sz
  refine Met.ofW (cc := cc) (maxL := maxL) (ret := ret) hy rfl ?_
  intro p e s m args below meth c s₁ B hml hv
  obtain ⟨rfl, hsz, hP, hD0, hE⟩ := hv
  subst hsz
  have hts := atoms_spec (ws := Cond.code y cc maxL ret :: gW) B.pre
  rw [lg_entry_eq]
  exact body p e s m below meth c (va_A w0 s.heap.size) _ ⟨B.exec, B.bytes, B.returns, hml, findClass_of_methodNamed B.named, B.notSynchronized, (name_of_methodNamed B.named B.method).1, fun w hw => hts w (List.mem_cons_of_mem _ hw), fun q h => Or.inr h, hD0.self, hP, hE⟩ (lv_entry As hn)
theorem metR {l : Launch} {X : Cx} {tys : List (ClassId × FieldType)} {y : MethodName} {cc : ByteArray} {maxL : Nat} {ret : Option FieldType} {rm : Room} {As : List Value} {w0 : va_W} {S : Type} {post : S → Prop} {ad : S → Nat} {w1 : S → va_W} {mc ms : Nat} (hy : plainName y.cls = true) (hn : (lg_sl As).length ≤ maxL)
    (body : ∀ (p : Program) (e : Env) (s : State) (m : MethodId) (below : List Frame) (meth : Method) (c : Code) (A : Nat → Prop) (ls : Array Slot), Bd p s m meth c cc maxL ret y As A w0 X tys → lv_has ls maxL (lv_args 0 As) → W p l e rm s m As.toArray below meth c s.heap [] 0 0 (MQ below (va_Qr post (fun u a t => a = ad u ∧ Aft X A (w1 u) t) A) As.toArray s mc ms A) (F0 m 0 ls [])) : CtR l X tys y (.code y cc maxL ret) rm As w0 post ad w1 mc ms := by
  intro sz
  refine Met.ofW (cc := cc) (maxL := maxL) (ret := ret) hy rfl ?_
  intro p e s m args below meth c s₁ B hml hv
  obtain ⟨rfl, hsz, hP, hD0, hE⟩ := hv
  subst hsz
  have hts := atoms_spec (ws := Cond.code y cc maxL ret :: gW) B.pre
  rw [lg_entry_eq]
  exact body p e s m below meth c (va_A w0 s.heap.size) _ ⟨B.exec, B.bytes, B.returns, hml, findClass_of_methodNamed B.named, B.notSynchronized, (name_of_methodNamed B.named B.method).1, fun w hw => hts w (List.mem_cons_of_mem _ hw), fun q h => Or.inr h, hD0.self, hP, hE⟩ (lv_entry As hn)
section BASE
variable {p : Program} {l : Launch} {e : Env} {R : Room} {s : State} {m : MethodId} {args : Array Value} {below : List Frame} {meth : Method} {c : Code} {H : Heap} {locs : List Loc} {cells slots : Nat} {Q : State → Prop}
variable {cc : ByteArray} {pc : Nat} {ls : Array Slot} {rest st : List Value} {X : Cx} {A : Nat → Prop} {S : Type} {w1 : S → va_W} {mc ms : Nat}
theorem retI {post : Int32 → S → Prop} {v : Int32} {u : S} (hx : p.tables.exec = Jvm.exec) (hb : c.code = cc) (hr : meth.sig.returnType = some .int) (hlk : meth.locks = false) (hP : va_P X.1 classes (w1 u) H) (hD : va_D A (w1 u)) (hS : va_S A s.heap H locs) (hq : post v u) (hdg : decode cc pc = .ok (.ireturn, 1)) : W p l e R s m args below meth c H locs mc ms (MQ below (va_Qi post (fun u t => Aft X A (w1 u) t) A) args s mc ms A) (F0 m pc ls [.int v]) :=
  W.iret hx hb hr (fun t ht _ => ⟨⟨v, u, rfl, hq, by rw [ht]; exact hP, hD⟩, hS.F ht⟩) hS.2.2 hdg hlk
theorem retZ {post : Int32 → S → Prop} {v : Int32} {u : S} (hx : p.tables.exec = Jvm.exec) (hb : c.code = cc) (hr : meth.sig.returnType = some .boolean) (hlk : meth.locks = false) (hz : v = 0 ∨ v = 1) (hP : va_P X.1 classes (w1 u) H) (hD : va_D A (w1 u)) (hS : va_S A s.heap H locs) (hq : post v u) (hdg : decode cc pc = .ok (.ireturn, 1)) : W p l e R s m args below meth c H locs mc ms (MQ below (va_Qi post (fun u t => Aft X A (w1 u) t) A) args s mc ms A) (F0 m pc ls [.int v]) :=
  W.zret hx hb hr (by rcases hz with rfl | rfl <;> rfl) (fun t ht _ => ⟨⟨v, u, rfl, hq, by rw [ht]; exact hP, hD⟩, hS.F ht⟩) hS.2.2 hdg hlk
theorem retL {post : Int64 → S → Prop} {v : Int64} {u : S} (hx : p.tables.exec = Jvm.exec) (hb : c.code = cc) (hr : meth.sig.returnType = some .long) (hlk : meth.locks = false) (hP : va_P X.1 classes (w1 u) H) (hD : va_D A (w1 u)) (hS : va_S A s.heap H locs) (hq : post v u) (hdg : decode cc pc = .ok (.lreturn, 1)) : W p l e R s m args below meth c H locs mc ms (MQ below (va_Ql post (fun u t => Aft X A (w1 u) t) A) args s mc ms A) (F0 m pc ls [.long v]) :=
  W.lret hx hb hr (fun t ht _ => ⟨⟨v, u, rfl, hq, by rw [ht]; exact hP, hD⟩, hS.F ht⟩) hS.2.2 hdg hlk
theorem retV {post : S → Prop} {u : S} (hx : p.tables.exec = Jvm.exec) (hb : c.code = cc) (hr : meth.sig.returnType = none) (hlk : meth.locks = false) (hP : va_P X.1 classes (w1 u) H) (hD : va_D A (w1 u)) (hS : va_S A s.heap H locs) (hq : post u) (hdg : decode cc pc = .ok (.return_, 1)) : W p l e R s m args below meth c H locs mc ms (MQ below (va_Qv post (fun u t => Aft X A (w1 u) t) A) args s mc ms A) (F0 m pc ls []) :=
  W.vret hx hb hr (fun t ht _ => ⟨⟨u, rfl, hq, by rw [ht]; exact hP, hD⟩, hS.F ht⟩) hS.2.2 hdg hlk
theorem retR {post : S → Prop} {ad : S → Nat} {u : S} {a : Nat} {C : String} (hx : p.tables.exec = Jvm.exec) (hb : c.code = cc) (hr : meth.sig.returnType = some (.object C)) (hlk : meth.locks = false) (hP : va_P X.1 classes (w1 u) H) (hD : va_D A (w1 u)) (hS : va_S A s.heap H locs) (hq : post u) (ha : a = ad u) (hdg : decode cc pc = .ok (.areturn, 1)) : W p l e R s m args below meth c H locs mc ms (MQ below (va_Qr post (fun u a t => a = ad u ∧ Aft X A (w1 u) t) A) args s mc ms A) (F0 m pc ls [.ref a]) :=
  W.aret hx hb hr (Or.inl ⟨C, rfl⟩) (Or.inr ⟨a, rfl⟩) (fun t ht _ => ⟨⟨u, a, rfl, hq, ha, by rw [ht]; exact hP, hD⟩, hS.F ht⟩) hS.2.2 hdg hlk
theorem topI {x y : Int32} (h : x = y) (k : W p l e R s m args below meth c H locs cells slots Q (F0 m pc ls (.int y :: rest))) : W p l e R s m args below meth c H locs cells slots Q (F0 m pc ls (.int x :: rest)) := h ▸ k
theorem topL {x y : Int64} (h : x = y) (k : W p l e R s m args below meth c H locs cells slots Q (F0 m pc ls (.long y :: rest))) : W p l e R s m args below meth c H locs cells slots Q (F0 m pc ls (.long x :: rest)) := h ▸ k
theorem topR {x y : Value} (h : x = y) (k : W p l e R s m args below meth c H locs cells slots Q (F0 m pc ls (y :: rest))) : W p l e R s m args below meth c H locs cells slots Q (F0 m pc ls (x :: rest)) := h ▸ k
/-- a loop: J what holds of the state x, ws its world, lo its locals -/
theorem wLoop {nL : Nat} {σ : Type} (μ : σ → Nat) (J : σ → Prop) (ws : σ → va_W) (lo : σ → List (Nat × Value))
    (hs : ∀ (x : σ) (H : Heap) (locs : List Loc) (ls : Array Slot), J x → va_P X.1 classes (ws x) H → va_D A (ws x) → va_S A s.heap H locs → lv_has ls nL (lo x) → (∀ (y : σ) (H : Heap) (locs : List Loc) (ls : Array Slot), μ y < μ x → J y → va_P X.1 classes (ws y) H → va_D A (ws y) → va_S A s.heap H locs → lv_has ls nL (lo y) → W p l e R s m args below meth c H locs cells slots Q (F0 m pc ls [])) → W p l e R s m args below meth c H locs cells slots Q (F0 m pc ls []))
    (x : σ) (hJ : J x) (hP : va_P X.1 classes (ws x) H) (hD : va_D A (ws x)) (hS : va_S A s.heap H locs) (hl : lv_has ls nL (lo x)) : W p l e R s m args below meth c H locs cells slots Q (F0 m pc ls []) := by
  have key : ∀ (n : Nat) (x : σ) (H : Heap) (locs : List Loc) (ls : Array Slot), μ x < n → J x → va_P X.1 classes (ws x) H → va_D A (ws x) → va_S A s.heap H locs → lv_has ls nL (lo x) → W p l e R s m args below meth c H locs cells slots Q (F0 m pc ls []) := by
    intro n
    induction n with
    | zero => intro x _ _ _ h; exact absurd h (Nat.not_lt_zero _)
    | succ n ih =>
      intro x H locs ls hn hJ hP hD hS hl
      exact hs x H locs ls hJ hP hD hS hl (fun y H locs ls hy => ih y H locs ls (by omega))
  exact key (μ x + 1) x H locs ls (Nat.lt_succ_self _) hJ hP hD hS hl
/-- a place where roads join -/
theorem wCut {nL : Nat} {σ : Type} {pcJ : Nat} {g : JFrame} (J : σ → Prop) (ws : σ → va_W) (lo : σ → List (Nat × Value)) (st : σ → List Value)
    (hk : ∀ (x : σ) (H : Heap) (locs : List Loc) (ls : Array Slot), J x → va_P X.1 classes (ws x) H → va_D A (ws x) → va_S A s.heap H locs → lv_has ls nL (lo x) → W p l e R s m args below meth c H locs cells slots Q (F0 m pcJ ls (st x)))
    (body : (∀ (x : σ) (H : Heap) (locs : List Loc) (ls : Array Slot), J x → va_P X.1 classes (ws x) H → va_D A (ws x) → va_S A s.heap H locs → lv_has ls nL (lo x) → W p l e R s m args below meth c H locs cells slots Q (F0 m pcJ ls (st x))) → W p l e R s m args below meth c H locs cells slots Q g) : W p l e R s m args below meth c H locs cells slots Q g := body hk
theorem clVI {tys : List (ClassId × FieldType)} {nL maxL idx n mc ms : Nat} {own : String} {y : MethodName} {bytes : ByteArray} {ret : Option FieldType} {rm : Room} {As : List Value} {ws wc wr : va_W} {C : String} {T : u_T} {N ci : Nat} {fs : List Value} {b : Nat} {post : Int32 → S → Prop} (hx : p.tables.exec = Jvm.exec) (hb : c.code = cc) (hml : c.maxLocals = nL) (hown : s.vm.findClass own = some m.cls) (hg : ∀ w ∈ gW, w.before args s = true) (hE : En X tys A s s.heap) (hA : ∀ q : Nat, s.heap.size ≤ q → A q) (hP : va_P X.1 classes ws H) (hD : va_D A ws) (hS : va_S A s.heap H locs)
    (hM : CtI l X tys y (.code y bytes maxL ret) rm (.ref b :: As) wc post w1 mc ms) (hT : GoodIn gW (wsV own idx C y (.code y bytes maxL ret :: gW))) (hd : y.cls = C ∧ y.cls ≠ "java/lang/invoke/MethodHandle" ∧ y.cls ≠ "java/lang/invoke/VarHandle" ∧ (parseMethodDescriptor y.desc).map (fun d => d.parameters.length) = some n) (isC isR : List Nat) (hC : isC.map (fun i => ws[i]?) = wc.map some) (hR : isR.map (fun i => ws[i]?) = wr.map some) (hnC : va_nd isC = true) (hn : va_nd isR = true) (hdis : ∀ i ∈ isR, i ∉ isC) (qb : Nat) (hqb : wc[qb]? = some (b, .inr (ci, fs))) (hc : classes[ci]? = some (C, T, N)) (hlen : As.length = n) (hsz : ls.size = nL) (hroom : (rest.map fun v => v.category).sum ≤ 8) (hst0 : st = As.reverse ++ .ref b :: rest) (hdg : decode cc pc = .ok (.invokevirtual idx, 3)) (hrm : rm.cells = mc ∧ rm.slots = ms ∧ rm.frames + 1 ≤ R.frames ∧ 8 + (maxL + 11) + rm.locals ≤ R.locals) (hf : cells + mc ≤ R.cells ∧ slots + ms ≤ R.slots)
    (kk : ∀ (r : Int32) (u : S) (H1 : Heap) (locs1 : List Loc), post r u → va_P X.1 classes (wr ++ w1 u) H1 → va_D A (wr ++ w1 u) → va_S A s.heap H1 locs1 → W p l e R s m args below meth c H1 locs1 (cells + mc) (slots + ms) Q (F0 m (pc + 3) ls (.int r :: rest))) : W p l e R s m args below meth c H locs cells slots Q (F0 m pc ls st) := by
  have hPc := hP.sub (ws' := wc) isC (fm_of_map hC)
  have hFc := va_free (wc := wc) hD hS hA isC hC
  have hDc : va_D A wc := ⟨(hD.sub (ws' := wc) isC hnC hC).1, fun k q hq => hFc q.1 (va_A.in hq)⟩
  refine va_calli (va_runV (As := As) (rest := rest) ⟨hx, hb, hml, hown, hg⟩ (hM H.size) (cwV n hg hT rfl hrm.1 hrm.2.1 hd hrm.2.2) ⟨Pre0.blind, va_recv hE.1 hPc hc hqb, fun U hU hW => Pre0.of hE hS hFc hPc hDc hU hW⟩ rfl hlen hsz hst0 (lv_room hroom) hdg hf) hS (fun q _ h => hFc q h) hFc (fun r u t H1 locs1 ht hvm h5 hB hz1 hk1 hS1 => ?_)
  obtain ⟨hP1, hD1⟩ := hB
  rw [ht] at hP1
  obtain ⟨hP2, hD2⟩ := va_join (wr := wr) (w1 := w1 u) hP hD isC isR hC hR hn hdis hk1 hFc hP1 hD1
  exact kk r u H1 locs1 h5 hP2 hD2 hS1
theorem clVL {tys : List (ClassId × FieldType)} {nL maxL idx n mc ms : Nat} {own : String} {y : MethodName} {bytes : ByteArray} {ret : Option FieldType} {rm : Room} {As : List Value} {ws wc wr : va_W} {C : String} {T : u_T} {N ci : Nat} {fs : List Value} {b : Nat} {post : Int64 → S → Prop} (hx : p.tables.exec = Jvm.exec) (hb : c.code = cc) (hml : c.maxLocals = nL) (hown : s.vm.findClass own = some m.cls) (hg : ∀ w ∈ gW, w.before args s = true) (hE : En X tys A s s.heap) (hA : ∀ q : Nat, s.heap.size ≤ q → A q) (hP : va_P X.1 classes ws H) (hD : va_D A ws) (hS : va_S A s.heap H locs)
    (hM : CtL l X tys y (.code y bytes maxL ret) rm (.ref b :: As) wc post w1 mc ms) (hT : GoodIn gW (wsV own idx C y (.code y bytes maxL ret :: gW))) (hd : y.cls = C ∧ y.cls ≠ "java/lang/invoke/MethodHandle" ∧ y.cls ≠ "java/lang/invoke/VarHandle" ∧ (parseMethodDescriptor y.desc).map (fun d => d.parameters.length) = some n) (isC isR : List Nat) (hC : isC.map (fun i => ws[i]?) = wc.map some) (hR : isR.map (fun i => ws[i]?) = wr.map some) (hnC : va_nd isC = true) (hn : va_nd isR = true) (hdis : ∀ i ∈ isR, i ∉ isC) (qb : Nat) (hqb : wc[qb]? = some (b, .inr (ci, fs))) (hc : classes[ci]? = some (C, T, N)) (hlen : As.length = n) (hsz : ls.size = nL) (hroom : (rest.map fun v => v.category).sum ≤ 8) (hst0 : st = As.reverse ++ .ref b :: rest) (hdg : decode cc pc = .ok (.invokevirtual idx, 3)) (hrm : rm.cells = mc ∧ rm.slots = ms ∧ rm.frames + 1 ≤ R.frames ∧ 8 + (maxL + 11) + rm.locals ≤ R.locals) (hf : cells + mc ≤ R.cells ∧ slots + ms ≤ R.slots)
    (kk : ∀ (r : Int64) (u : S) (H1 : Heap) (locs1 : List Loc), post r u → va_P X.1 classes (wr ++ w1 u) H1 → va_D A (wr ++ w1 u) → va_S A s.heap H1 locs1 → W p l e R s m args below meth c H1 locs1 (cells + mc) (slots + ms) Q (F0 m (pc + 3) ls (.long r :: rest))) : W p l e R s m args below meth c H locs cells slots Q (F0 m pc ls st) := by
  have hPc := hP.sub (ws' := wc) isC (fm_of_map hC)
  have hFc := va_free (wc := wc) hD hS hA isC hC
  have hDc : va_D A wc := ⟨(hD.sub (ws' := wc) isC hnC hC).1, fun k q hq => hFc q.1 (va_A.in hq)⟩
  refine va_calll (va_runV (As := As) (rest := rest) ⟨hx, hb, hml, hown, hg⟩ (hM H.size) (cwV n hg hT rfl hrm.1 hrm.2.1 hd hrm.2.2) ⟨Pre0.blind, va_recv hE.1 hPc hc hqb, fun U hU hW => Pre0.of hE hS hFc hPc hDc hU hW⟩ rfl hlen hsz hst0 (lv_room hroom) hdg hf) hS (fun q _ h => hFc q h) hFc (fun r u t H1 locs1 ht hvm h5 hB hz1 hk1 hS1 => ?_)
  obtain ⟨hP1, hD1⟩ := hB
  rw [ht] at hP1
  obtain ⟨hP2, hD2⟩ := va_join (wr := wr) (w1 := w1 u) hP hD isC isR hC hR hn hdis hk1 hFc hP1 hD1
  exact kk r u H1 locs1 h5 hP2 hD2 hS1
theorem clVV {tys : List (ClassId × FieldType)} {nL maxL idx n mc ms : Nat} {own : String} {y : MethodName} {bytes : ByteArray} {ret : Option FieldType} {rm : Room} {As : List Value} {ws wc wr : va_W} {C : String} {T : u_T} {N ci : Nat} {fs : List Value} {b : Nat} {post : S → Prop} (hx : p.tables.exec = Jvm.exec) (hb : c.code = cc) (hml : c.maxLocals = nL) (hown : s.vm.findClass own = some m.cls) (hg : ∀ w ∈ gW, w.before args s = true) (hE : En X tys A s s.heap) (hA : ∀ q : Nat, s.heap.size ≤ q → A q) (hP : va_P X.1 classes ws H) (hD : va_D A ws) (hS : va_S A s.heap H locs)
    (hM : CtV l X tys y (.code y bytes maxL ret) rm (.ref b :: As) wc post w1 mc ms) (hT : GoodIn gW (wsV own idx C y (.code y bytes maxL ret :: gW))) (hd : y.cls = C ∧ y.cls ≠ "java/lang/invoke/MethodHandle" ∧ y.cls ≠ "java/lang/invoke/VarHandle" ∧ (parseMethodDescriptor y.desc).map (fun d => d.parameters.length) = some n) (isC isR : List Nat) (hC : isC.map (fun i => ws[i]?) = wc.map some) (hR : isR.map (fun i => ws[i]?) = wr.map some) (hnC : va_nd isC = true) (hn : va_nd isR = true) (hdis : ∀ i ∈ isR, i ∉ isC) (qb : Nat) (hqb : wc[qb]? = some (b, .inr (ci, fs))) (hc : classes[ci]? = some (C, T, N)) (hlen : As.length = n) (hsz : ls.size = nL) (hroom : (rest.map fun v => v.category).sum ≤ 8) (hst0 : st = As.reverse ++ .ref b :: rest) (hdg : decode cc pc = .ok (.invokevirtual idx, 3)) (hrm : rm.cells = mc ∧ rm.slots = ms ∧ rm.frames + 1 ≤ R.frames ∧ 8 + (maxL + 11) + rm.locals ≤ R.locals) (hf : cells + mc ≤ R.cells ∧ slots + ms ≤ R.slots)
    (kk : ∀ (u : S) (H1 : Heap) (locs1 : List Loc), post u → va_P X.1 classes (wr ++ w1 u) H1 → va_D A (wr ++ w1 u) → va_S A s.heap H1 locs1 → W p l e R s m args below meth c H1 locs1 (cells + mc) (slots + ms) Q (F0 m (pc + 3) ls (rest))) : W p l e R s m args below meth c H locs cells slots Q (F0 m pc ls st) := by
  have hPc := hP.sub (ws' := wc) isC (fm_of_map hC)
  have hFc := va_free (wc := wc) hD hS hA isC hC
  have hDc : va_D A wc := ⟨(hD.sub (ws' := wc) isC hnC hC).1, fun k q hq => hFc q.1 (va_A.in hq)⟩
  refine va_callv (va_runV (As := As) (rest := rest) ⟨hx, hb, hml, hown, hg⟩ (hM H.size) (cwV n hg hT rfl hrm.1 hrm.2.1 hd hrm.2.2) ⟨Pre0.blind, va_recv hE.1 hPc hc hqb, fun U hU hW => Pre0.of hE hS hFc hPc hDc hU hW⟩ rfl hlen hsz hst0 (lv_room hroom) hdg hf) hS (fun q _ h => hFc q h) hFc (fun u t H1 locs1 ht hvm h5 hB hz1 hk1 hS1 => ?_)
  obtain ⟨hP1, hD1⟩ := hB
  rw [ht] at hP1
  obtain ⟨hP2, hD2⟩ := va_join (wr := wr) (w1 := w1 u) hP hD isC isR hC hR hn hdis hk1 hFc hP1 hD1
  exact kk u H1 locs1 h5 hP2 hD2 hS1
theorem clVR {tys : List (ClassId × FieldType)} {nL maxL idx n mc ms : Nat} {own : String} {y : MethodName} {bytes : ByteArray} {ret : Option FieldType} {rm : Room} {As : List Value} {ws wc wr : va_W} {C : String} {T : u_T} {N ci : Nat} {fs : List Value} {b : Nat} {post : S → Prop} {ad : S → Nat} (hx : p.tables.exec = Jvm.exec) (hb : c.code = cc) (hml : c.maxLocals = nL) (hown : s.vm.findClass own = some m.cls) (hg : ∀ w ∈ gW, w.before args s = true) (hE : En X tys A s s.heap) (hA : ∀ q : Nat, s.heap.size ≤ q → A q) (hP : va_P X.1 classes ws H) (hD : va_D A ws) (hS : va_S A s.heap H locs)
    (hM : CtR l X tys y (.code y bytes maxL ret) rm (.ref b :: As) wc post ad w1 mc ms) (hT : GoodIn gW (wsV own idx C y (.code y bytes maxL ret :: gW))) (hd : y.cls = C ∧ y.cls ≠ "java/lang/invoke/MethodHandle" ∧ y.cls ≠ "java/lang/invoke/VarHandle" ∧ (parseMethodDescriptor y.desc).map (fun d => d.parameters.length) = some n) (isC isR : List Nat) (hC : isC.map (fun i => ws[i]?) = wc.map some) (hR : isR.map (fun i => ws[i]?) = wr.map some) (hnC : va_nd isC = true) (hn : va_nd isR = true) (hdis : ∀ i ∈ isR, i ∉ isC) (qb : Nat) (hqb : wc[qb]? = some (b, .inr (ci, fs))) (hc : classes[ci]? = some (C, T, N)) (hlen : As.length = n) (hsz : ls.size = nL) (hroom : (rest.map fun v => v.category).sum ≤ 8) (hst0 : st = As.reverse ++ .ref b :: rest) (hdg : decode cc pc = .ok (.invokevirtual idx, 3)) (hrm : rm.cells = mc ∧ rm.slots = ms ∧ rm.frames + 1 ≤ R.frames ∧ 8 + (maxL + 11) + rm.locals ≤ R.locals) (hf : cells + mc ≤ R.cells ∧ slots + ms ≤ R.slots)
    (kk : ∀ (u : S) (H1 : Heap) (locs1 : List Loc), post u → va_P X.1 classes (wr ++ w1 u) H1 → va_D A (wr ++ w1 u) → va_S A s.heap H1 locs1 → W p l e R s m args below meth c H1 locs1 (cells + mc) (slots + ms) Q (F0 m (pc + 3) ls (.ref (ad u) :: rest))) : W p l e R s m args below meth c H locs cells slots Q (F0 m pc ls st) := by
  have hPc := hP.sub (ws' := wc) isC (fm_of_map hC)
  have hFc := va_free (wc := wc) hD hS hA isC hC
  have hDc : va_D A wc := ⟨(hD.sub (ws' := wc) isC hnC hC).1, fun k q hq => hFc q.1 (va_A.in hq)⟩
  refine va_callr (va_runV (As := As) (rest := rest) ⟨hx, hb, hml, hown, hg⟩ (hM H.size) (cwV n hg hT rfl hrm.1 hrm.2.1 hd hrm.2.2) ⟨Pre0.blind, va_recv hE.1 hPc hc hqb, fun U hU hW => Pre0.of hE hS hFc hPc hDc hU hW⟩ rfl hlen hsz hst0 (lv_room hroom) hdg hf) hS (fun q _ h => hFc q h) hFc (fun u a t H1 locs1 ht hvm h5 hB hz1 hk1 hS1 => ?_)
  obtain ⟨rfl, hP1, hD1⟩ := hB
  rw [ht] at hP1
  obtain ⟨hP2, hD2⟩ := va_join (wr := wr) (w1 := w1 u) hP hD isC isR hC hR hn hdis hk1 hFc hP1 hD1
  exact kk u H1 locs1 h5 hP2 hD2 hS1
theorem clSI {tys : List (ClassId × FieldType)} {nL maxL idx n mc ms : Nat} {own : String} {y : MethodName} {bytes : ByteArray} {ret : Option FieldType} {rm : Room} {As : List Value} {ws wc wr : va_W} {post : Int32 → S → Prop} (hx : p.tables.exec = Jvm.exec) (hb : c.code = cc) (hml : c.maxLocals = nL) (hown : s.vm.findClass own = some m.cls) (hg : ∀ w ∈ gW, w.before args s = true) (hE : En X tys A s s.heap) (hA : ∀ q : Nat, s.heap.size ≤ q → A q) (hP : va_P X.1 classes ws H) (hD : va_D A ws) (hS : va_S A s.heap H locs)
    (hM : CtI l X tys y (.code y bytes maxL ret) rm As wc post w1 mc ms) (hT : GoodIn gW (va_wsS own idx y (.code y bytes maxL ret :: gW))) (hd : y.cls ≠ "java/lang/invoke/MethodHandle" ∧ y.cls ≠ "java/lang/invoke/VarHandle" ∧ (parseMethodDescriptor y.desc).map (fun d => d.parameters.length) = some n) (isC isR : List Nat) (hC : isC.map (fun i => ws[i]?) = wc.map some) (hR : isR.map (fun i => ws[i]?) = wr.map some) (hnC : va_nd isC = true) (hn : va_nd isR = true) (hdis : ∀ i ∈ isR, i ∉ isC) (hlen : As.length = n) (hsz : ls.size = nL) (hroom : (rest.map fun v => v.category).sum ≤ 8) (hst0 : st = As.reverse ++ rest) (hdg : decode cc pc = .ok (.invokestatic idx, 3)) (hrm : rm.cells = mc ∧ rm.slots = ms ∧ rm.frames + 1 ≤ R.frames ∧ 8 + (maxL + 11) + rm.locals ≤ R.locals) (hf : cells + mc ≤ R.cells ∧ slots + ms ≤ R.slots)
    (kk : ∀ (r : Int32) (u : S) (H1 : Heap) (locs1 : List Loc), post r u → va_P X.1 classes (wr ++ w1 u) H1 → va_D A (wr ++ w1 u) → va_S A s.heap H1 locs1 → W p l e R s m args below meth c H1 locs1 (cells + mc) (slots + ms) Q (F0 m (pc + 3) ls (.int r :: rest))) : W p l e R s m args below meth c H locs cells slots Q (F0 m pc ls st) := by
  have hPc := hP.sub (ws' := wc) isC (fm_of_map hC)
  have hFc := va_free (wc := wc) hD hS hA isC hC
  have hDc : va_D A wc := ⟨(hD.sub (ws' := wc) isC hnC hC).1, fun k q hq => hFc q.1 (va_A.in hq)⟩
  refine va_calli (va_runS (As := As) (rest := rest) ⟨hx, hb, hml, hown, hg⟩ (hM H.size) (va_cwS n hg hT rfl hrm.1 hrm.2.1 hd hrm.2.2) ⟨Pre0.blind, fun U hU hW => Pre0.of hE hS hFc hPc hDc hU hW⟩ rfl hlen hsz hst0 (lv_room hroom) hdg hf) hS (fun q _ h => hFc q h) hFc (fun r u t H1 locs1 ht hvm h5 hB hz1 hk1 hS1 => ?_)
  obtain ⟨hP1, hD1⟩ := hB
  rw [ht] at hP1
  obtain ⟨hP2, hD2⟩ := va_join (wr := wr) (w1 := w1 u) hP hD isC isR hC hR hn hdis hk1 hFc hP1 hD1
  exact kk r u H1 locs1 h5 hP2 hD2 hS1
theorem clSL {tys : List (ClassId × FieldType)} {nL maxL idx n mc ms : Nat} {own : String} {y : MethodName} {bytes : ByteArray} {ret : Option FieldType} {rm : Room} {As : List Value} {ws wc wr : va_W} {post : Int64 → S → Prop} (hx : p.tables.exec = Jvm.exec) (hb : c.code = cc) (hml : c.maxLocals = nL) (hown : s.vm.findClass own = some m.cls) (hg : ∀ w ∈ gW, w.before args s = true) (hE : En X tys A s s.heap) (hA : ∀ q : Nat, s.heap.size ≤ q → A q) (hP : va_P X.1 classes ws H) (hD : va_D A ws) (hS : va_S A s.heap H locs)
    (hM : CtL l X tys y (.code y bytes maxL ret) rm As wc post w1 mc ms) (hT : GoodIn gW (va_wsS own idx y (.code y bytes maxL ret :: gW))) (hd : y.cls ≠ "java/lang/invoke/MethodHandle" ∧ y.cls ≠ "java/lang/invoke/VarHandle" ∧ (parseMethodDescriptor y.desc).map (fun d => d.parameters.length) = some n) (isC isR : List Nat) (hC : isC.map (fun i => ws[i]?) = wc.map some) (hR : isR.map (fun i => ws[i]?) = wr.map some) (hnC : va_nd isC = true) (hn : va_nd isR = true) (hdis : ∀ i ∈ isR, i ∉ isC) (hlen : As.length = n) (hsz : ls.size = nL) (hroom : (rest.map fun v => v.category).sum ≤ 8) (hst0 : st = As.reverse ++ rest) (hdg : decode cc pc = .ok (.invokestatic idx, 3)) (hrm : rm.cells = mc ∧ rm.slots = ms ∧ rm.frames + 1 ≤ R.frames ∧ 8 + (maxL + 11) + rm.locals ≤ R.locals) (hf : cells + mc ≤ R.cells ∧ slots + ms ≤ R.slots)
    (kk : ∀ (r : Int64) (u : S) (H1 : Heap) (locs1 : List Loc), post r u → va_P X.1 classes (wr ++ w1 u) H1 → va_D A (wr ++ w1 u) → va_S A s.heap H1 locs1 → W p l e R s m args below meth c H1 locs1 (cells + mc) (slots + ms) Q (F0 m (pc + 3) ls (.long r :: rest))) : W p l e R s m args below meth c H locs cells slots Q (F0 m pc ls st) := by
  have hPc := hP.sub (ws' := wc) isC (fm_of_map hC)
  have hFc := va_free (wc := wc) hD hS hA isC hC
  have hDc : va_D A wc := ⟨(hD.sub (ws' := wc) isC hnC hC).1, fun k q hq => hFc q.1 (va_A.in hq)⟩
  refine va_calll (va_runS (As := As) (rest := rest) ⟨hx, hb, hml, hown, hg⟩ (hM H.size) (va_cwS n hg hT rfl hrm.1 hrm.2.1 hd hrm.2.2) ⟨Pre0.blind, fun U hU hW => Pre0.of hE hS hFc hPc hDc hU hW⟩ rfl hlen hsz hst0 (lv_room hroom) hdg hf) hS (fun q _ h => hFc q h) hFc (fun r u t H1 locs1 ht hvm h5 hB hz1 hk1 hS1 => ?_)
  obtain ⟨hP1, hD1⟩ := hB
  rw [ht] at hP1
  obtain ⟨hP2, hD2⟩ := va_join (wr := wr) (w1 := w1 u) hP hD isC isR hC hR hn hdis hk1 hFc hP1 hD1
  exact kk r u H1 locs1 h5 hP2 hD2 hS1
theorem clSV {tys : List (ClassId × FieldType)} {nL maxL idx n mc ms : Nat} {own : String} {y : MethodName} {bytes : ByteArray} {ret : Option FieldType} {rm : Room} {As : List Value} {ws wc wr : va_W} {post : S → Prop} (hx : p.tables.exec = Jvm.exec) (hb : c.code = cc) (hml : c.maxLocals = nL) (hown : s.vm.findClass own = some m.cls) (hg : ∀ w ∈ gW, w.before args s = true) (hE : En X tys A s s.heap) (hA : ∀ q : Nat, s.heap.size ≤ q → A q) (hP : va_P X.1 classes ws H) (hD : va_D A ws) (hS : va_S A s.heap H locs)
    (hM : CtV l X tys y (.code y bytes maxL ret) rm As wc post w1 mc ms) (hT : GoodIn gW (va_wsS own idx y (.code y bytes maxL ret :: gW))) (hd : y.cls ≠ "java/lang/invoke/MethodHandle" ∧ y.cls ≠ "java/lang/invoke/VarHandle" ∧ (parseMethodDescriptor y.desc).map (fun d => d.parameters.length) = some n) (isC isR : List Nat) (hC : isC.map (fun i => ws[i]?) = wc.map some) (hR : isR.map (fun i => ws[i]?) = wr.map some) (hnC : va_nd isC = true) (hn : va_nd isR = true) (hdis : ∀ i ∈ isR, i ∉ isC) (hlen : As.length = n) (hsz : ls.size = nL) (hroom : (rest.map fun v => v.category).sum ≤ 8) (hst0 : st = As.reverse ++ rest) (hdg : decode cc pc = .ok (.invokestatic idx, 3)) (hrm : rm.cells = mc ∧ rm.slots = ms ∧ rm.frames + 1 ≤ R.frames ∧ 8 + (maxL + 11) + rm.locals ≤ R.locals) (hf : cells + mc ≤ R.cells ∧ slots + ms ≤ R.slots)
    (kk : ∀ (u : S) (H1 : Heap) (locs1 : List Loc), post u → va_P X.1 classes (wr ++ w1 u) H1 → va_D A (wr ++ w1 u) → va_S A s.heap H1 locs1 → W p l e R s m args below meth c H1 locs1 (cells + mc) (slots + ms) Q (F0 m (pc + 3) ls (rest))) : W p l e R s m args below meth c H locs cells slots Q (F0 m pc ls st) := by
  have hPc := hP.sub (ws' := wc) isC (fm_of_map hC)
  have hFc := va_free (wc := wc) hD hS hA isC hC
  have hDc : va_D A wc := ⟨(hD.sub (ws' := wc) isC hnC hC).1, fun k q hq => hFc q.1 (va_A.in hq)⟩
  refine va_callv (va_runS (As := As) (rest := rest) ⟨hx, hb, hml, hown, hg⟩ (hM H.size) (va_cwS n hg hT rfl hrm.1 hrm.2.1 hd hrm.2.2) ⟨Pre0.blind, fun U hU hW => Pre0.of hE hS hFc hPc hDc hU hW⟩ rfl hlen hsz hst0 (lv_room hroom) hdg hf) hS (fun q _ h => hFc q h) hFc (fun u t H1 locs1 ht hvm h5 hB hz1 hk1 hS1 => ?_)
  obtain ⟨hP1, hD1⟩ := hB
  rw [ht] at hP1
  obtain ⟨hP2, hD2⟩ := va_join (wr := wr) (w1 := w1 u) hP hD isC isR hC hR hn hdis hk1 hFc hP1 hD1
  exact kk u H1 locs1 h5 hP2 hD2 hS1
theorem clSNI {tys : List (ClassId × FieldType)} {nL maxL idx n mc ms : Nat} {own : String} {y : MethodName} {bytes : ByteArray} {ret : Option FieldType} {rm : Room} {As : List Value} {ws wc wr : va_W} {host : String} {post : Int32 → S → Prop} (hx : p.tables.exec = Jvm.exec) (hb : c.code = cc) (hml : c.maxLocals = nL) (hown : s.vm.findClass own = some m.cls) (hg : ∀ w ∈ gW, w.before args s = true) (hE : En X tys A s s.heap) (hA : ∀ q : Nat, s.heap.size ≤ q → A q) (hP : va_P X.1 classes ws H) (hD : va_D A ws) (hS : va_S A s.heap H locs)
    (hM : CtI l X tys y (.code y bytes maxL ret) rm As wc post w1 mc ms) (hT : Cond.code y bytes maxL ret ∈ gW) (hst : Cond.static y ∈ gW) (hini : Cond.initialized y.cls ∈ gW) (hl : va_Nw (.methodLinkNest own idx y host) s) (hd : y.cls ≠ "java/lang/invoke/MethodHandle" ∧ y.cls ≠ "java/lang/invoke/VarHandle" ∧ (parseMethodDescriptor y.desc).map (fun d => d.parameters.length) = some n) (isC isR : List Nat) (hC : isC.map (fun i => ws[i]?) = wc.map some) (hR : isR.map (fun i => ws[i]?) = wr.map some) (hnC : va_nd isC = true) (hn : va_nd isR = true) (hdis : ∀ i ∈ isR, i ∉ isC) (hlen : As.length = n) (hsz : ls.size = nL) (hroom : (rest.map fun v => v.category).sum ≤ 8) (hst0 : st = As.reverse ++ rest) (hdg : decode cc pc = .ok (.invokestatic idx, 3)) (hrm : rm.cells = mc ∧ rm.slots = ms ∧ rm.frames + 1 ≤ R.frames ∧ 8 + (maxL + 11) + rm.locals ≤ R.locals) (hf : cells + mc ≤ R.cells ∧ slots + ms ≤ R.slots)
    (kk : ∀ (r : Int32) (u : S) (H1 : Heap) (locs1 : List Loc), post r u → va_P X.1 classes (wr ++ w1 u) H1 → va_D A (wr ++ w1 u) → va_S A s.heap H1 locs1 → W p l e R s m args below meth c H1 locs1 (cells + mc) (slots + ms) Q (F0 m (pc + 3) ls (.int r :: rest))) : W p l e R s m args below meth c H locs cells slots Q (F0 m pc ls st) := by
  have hPc := hP.sub (ws' := wc) isC (fm_of_map hC)
  have hFc := va_free (wc := wc) hD hS hA isC hC
  have hDc : va_D A wc := ⟨(hD.sub (ws' := wc) isC hnC hC).1, fun k q hq => hFc q.1 (va_A.in hq)⟩
  refine va_calli (va_runSN (As := As) (rest := rest) ⟨hx, hb, hml, hown, hg⟩ (hM H.size) ⟨va_cnB n hg (gcons hT gG) rfl hrm.1 hrm.2.1 hl (hg _ hini) hd hrm.2.2, hg _ hst, trivial⟩ ⟨Pre0.blind, fun U hU hW => Pre0.of hE hS hFc hPc hDc hU hW⟩ rfl hlen hsz hst0 (lv_room hroom) hdg hf) hS (fun q _ h => hFc q h) hFc (fun r u t H1 locs1 ht hvm h5 hB hz1 hk1 hS1 => ?_)
  obtain ⟨hP1, hD1⟩ := hB
  rw [ht] at hP1
  obtain ⟨hP2, hD2⟩ := va_join (wr := wr) (w1 := w1 u) hP hD isC isR hC hR hn hdis hk1 hFc hP1 hD1
  exact kk r u H1 locs1 h5 hP2 hD2 hS1
theorem clSNL {tys : List (ClassId × FieldType)} {nL maxL idx n mc ms : Nat} {own : String} {y : MethodName} {bytes : ByteArray} {ret : Option FieldType} {rm : Room} {As : List Value} {ws wc wr : va_W} {host : String} {post : Int64 → S → Prop} (hx : p.tables.exec = Jvm.exec) (hb : c.code = cc) (hml : c.maxLocals = nL) (hown : s.vm.findClass own = some m.cls) (hg : ∀ w ∈ gW, w.before args s = true) (hE : En X tys A s s.heap) (hA : ∀ q : Nat, s.heap.size ≤ q → A q) (hP : va_P X.1 classes ws H) (hD : va_D A ws) (hS : va_S A s.heap H locs)
    (hM : CtL l X tys y (.code y bytes maxL ret) rm As wc post w1 mc ms) (hT : Cond.code y bytes maxL ret ∈ gW) (hst : Cond.static y ∈ gW) (hini : Cond.initialized y.cls ∈ gW) (hl : va_Nw (.methodLinkNest own idx y host) s) (hd : y.cls ≠ "java/lang/invoke/MethodHandle" ∧ y.cls ≠ "java/lang/invoke/VarHandle" ∧ (parseMethodDescriptor y.desc).map (fun d => d.parameters.length) = some n) (isC isR : List Nat) (hC : isC.map (fun i => ws[i]?) = wc.map some) (hR : isR.map (fun i => ws[i]?) = wr.map some) (hnC : va_nd isC = true) (hn : va_nd isR = true) (hdis : ∀ i ∈ isR, i ∉ isC) (hlen : As.length = n) (hsz : ls.size = nL) (hroom : (rest.map fun v => v.category).sum ≤ 8) (hst0 : st = As.reverse ++ rest) (hdg : decode cc pc = .ok (.invokestatic idx, 3)) (hrm : rm.cells = mc ∧ rm.slots = ms ∧ rm.frames + 1 ≤ R.frames ∧ 8 + (maxL + 11) + rm.locals ≤ R.locals) (hf : cells + mc ≤ R.cells ∧ slots + ms ≤ R.slots)
    (kk : ∀ (r : Int64) (u : S) (H1 : Heap) (locs1 : List Loc), post r u → va_P X.1 classes (wr ++ w1 u) H1 → va_D A (wr ++ w1 u) → va_S A s.heap H1 locs1 → W p l e R s m args below meth c H1 locs1 (cells + mc) (slots + ms) Q (F0 m (pc + 3) ls (.long r :: rest))) : W p l e R s m args below meth c H locs cells slots Q (F0 m pc ls st) := by
  have hPc := hP.sub (ws' := wc) isC (fm_of_map hC)
  have hFc := va_free (wc := wc) hD hS hA isC hC
  have hDc : va_D A wc := ⟨(hD.sub (ws' := wc) isC hnC hC).1, fun k q hq => hFc q.1 (va_A.in hq)⟩
  refine va_calll (va_runSN (As := As) (rest := rest) ⟨hx, hb, hml, hown, hg⟩ (hM H.size) ⟨va_cnB n hg (gcons hT gG) rfl hrm.1 hrm.2.1 hl (hg _ hini) hd hrm.2.2, hg _ hst, trivial⟩ ⟨Pre0.blind, fun U hU hW => Pre0.of hE hS hFc hPc hDc hU hW⟩ rfl hlen hsz hst0 (lv_room hroom) hdg hf) hS (fun q _ h => hFc q h) hFc (fun r u t H1 locs1 ht hvm h5 hB hz1 hk1 hS1 => ?_)
  obtain ⟨hP1, hD1⟩ := hB
  rw [ht] at hP1
  obtain ⟨hP2, hD2⟩ := va_join (wr := wr) (w1 := w1 u) hP hD isC isR hC hR hn hdis hk1 hFc hP1 hD1
  exact kk r u H1 locs1 h5 hP2 hD2 hS1
theorem clSNV {tys : List (ClassId × FieldType)} {nL maxL idx n mc ms : Nat} {own : String} {y : MethodName} {bytes : ByteArray} {ret : Option FieldType} {rm : Room} {As : List Value} {ws wc wr : va_W} {host : String} {post : S → Prop} (hx : p.tables.exec = Jvm.exec) (hb : c.code = cc) (hml : c.maxLocals = nL) (hown : s.vm.findClass own = some m.cls) (hg : ∀ w ∈ gW, w.before args s = true) (hE : En X tys A s s.heap) (hA : ∀ q : Nat, s.heap.size ≤ q → A q) (hP : va_P X.1 classes ws H) (hD : va_D A ws) (hS : va_S A s.heap H locs)
    (hM : CtV l X tys y (.code y bytes maxL ret) rm As wc post w1 mc ms) (hT : Cond.code y bytes maxL ret ∈ gW) (hst : Cond.static y ∈ gW) (hini : Cond.initialized y.cls ∈ gW) (hl : va_Nw (.methodLinkNest own idx y host) s) (hd : y.cls ≠ "java/lang/invoke/MethodHandle" ∧ y.cls ≠ "java/lang/invoke/VarHandle" ∧ (parseMethodDescriptor y.desc).map (fun d => d.parameters.length) = some n) (isC isR : List Nat) (hC : isC.map (fun i => ws[i]?) = wc.map some) (hR : isR.map (fun i => ws[i]?) = wr.map some) (hnC : va_nd isC = true) (hn : va_nd isR = true) (hdis : ∀ i ∈ isR, i ∉ isC) (hlen : As.length = n) (hsz : ls.size = nL) (hroom : (rest.map fun v => v.category).sum ≤ 8) (hst0 : st = As.reverse ++ rest) (hdg : decode cc pc = .ok (.invokestatic idx, 3)) (hrm : rm.cells = mc ∧ rm.slots = ms ∧ rm.frames + 1 ≤ R.frames ∧ 8 + (maxL + 11) + rm.locals ≤ R.locals) (hf : cells + mc ≤ R.cells ∧ slots + ms ≤ R.slots)
    (kk : ∀ (u : S) (H1 : Heap) (locs1 : List Loc), post u → va_P X.1 classes (wr ++ w1 u) H1 → va_D A (wr ++ w1 u) → va_S A s.heap H1 locs1 → W p l e R s m args below meth c H1 locs1 (cells + mc) (slots + ms) Q (F0 m (pc + 3) ls (rest))) : W p l e R s m args below meth c H locs cells slots Q (F0 m pc ls st) := by
  have hPc := hP.sub (ws' := wc) isC (fm_of_map hC)
  have hFc := va_free (wc := wc) hD hS hA isC hC
  have hDc : va_D A wc := ⟨(hD.sub (ws' := wc) isC hnC hC).1, fun k q hq => hFc q.1 (va_A.in hq)⟩
  refine va_callv (va_runSN (As := As) (rest := rest) ⟨hx, hb, hml, hown, hg⟩ (hM H.size) ⟨va_cnB n hg (gcons hT gG) rfl hrm.1 hrm.2.1 hl (hg _ hini) hd hrm.2.2, hg _ hst, trivial⟩ ⟨Pre0.blind, fun U hU hW => Pre0.of hE hS hFc hPc hDc hU hW⟩ rfl hlen hsz hst0 (lv_room hroom) hdg hf) hS (fun q _ h => hFc q h) hFc (fun u t H1 locs1 ht hvm h5 hB hz1 hk1 hS1 => ?_)
  obtain ⟨hP1, hD1⟩ := hB
  rw [ht] at hP1
  obtain ⟨hP2, hD2⟩ := va_join (wr := wr) (w1 := w1 u) hP hD isC isR hC hR hn hdis hk1 hFc hP1 hD1
  exact kk u H1 locs1 h5 hP2 hD2 hS1
theorem clIV {tys : List (ClassId × FieldType)} {nL maxL idx n mc ms : Nat} {own : String} {y : MethodName} {bytes : ByteArray} {ret : Option FieldType} {rm : Room} {As : List Value} {ws wc wr : va_W} {b : Nat} {post : S → Prop} (hx : p.tables.exec = Jvm.exec) (hb : c.code = cc) (hml : c.maxLocals = nL) (hown : s.vm.findClass own = some m.cls) (hg : ∀ w ∈ gW, w.before args s = true) (hE : En X tys A s s.heap) (hA : ∀ q : Nat, s.heap.size ≤ q → A q) (hP : va_P X.1 classes ws H) (hD : va_D A ws) (hS : va_S A s.heap H locs)
    (hM : CtV l X tys y (.code y bytes maxL none) rm (.ref b :: As) wc post w1 mc ms) (hT : Cond.code y bytes maxL none ∈ gW) (hini : Cond.initialized y.cls ∈ gW) (hl : Cond.methodLink own idx y ∈ gW) (him : Cond.instanceMethod y ∈ gW) (hy1 : y.name = "<init>") (hd : y.cls ≠ "java/lang/invoke/MethodHandle" ∧ y.cls ≠ "java/lang/invoke/VarHandle" ∧ (parseMethodDescriptor y.desc).map (fun d => d.parameters.length) = some n) (isC isR : List Nat) (hC : isC.map (fun i => ws[i]?) = wc.map some) (hR : isR.map (fun i => ws[i]?) = wr.map some) (hnC : va_nd isC = true) (hn : va_nd isR = true) (hdis : ∀ i ∈ isR, i ∉ isC) (hlen : As.length = n) (hsz : ls.size = nL) (hroom : (rest.map fun v => v.category).sum ≤ 8) (hst0 : st = As.reverse ++ .ref b :: rest) (hdg : decode cc pc = .ok (.invokespecial idx, 3)) (hrm : rm.cells = mc ∧ rm.slots = ms ∧ rm.frames + 1 ≤ R.frames ∧ 8 + (maxL + 11) + rm.locals ≤ R.locals) (hf : cells + mc ≤ R.cells ∧ slots + ms ≤ R.slots)
    (kk : ∀ (u : S) (H1 : Heap) (locs1 : List Loc), post u → va_P X.1 classes (wr ++ w1 u) H1 → va_D A (wr ++ w1 u) → va_S A s.heap H1 locs1 → W p l e R s m args below meth c H1 locs1 (cells + mc) (slots + ms) Q (F0 m (pc + 3) ls (rest))) : W p l e R s m args below meth c H locs cells slots Q (F0 m pc ls st) := by
  have hPc := hP.sub (ws' := wc) isC (fm_of_map hC)
  have hFc := va_free (wc := wc) hD hS hA isC hC
  have hDc : va_D A wc := ⟨(hD.sub (ws' := wc) isC hnC hC).1, fun k q hq => hFc q.1 (va_A.in hq)⟩
  refine va_callv (va_runI (As := As) (rest := rest) ⟨hx, hb, hml, hown, hg⟩ (hM H.size) (cwI n hg (gcons hT gG) rfl hrm.1 hrm.2.1 (hg _ hini) (hg _ hl) (hg _ him) hy1 hd hrm.2.2) ⟨Pre0.blind, fun U hU hW => Pre0.of hE hS hFc hPc hDc hU hW⟩ rfl hlen hsz hst0 (lv_room hroom) hdg hf) hS (fun q _ h => hFc q h) hFc (fun u t H1 locs1 ht hvm h5 hB hz1 hk1 hS1 => ?_)
  obtain ⟨hP1, hD1⟩ := hB
  rw [ht] at hP1
  obtain ⟨hP2, hD2⟩ := va_join (wr := wr) (w1 := w1 u) hP hD isC isR hC hR hn hdis hk1 hFc hP1 hD1
  exact kk u H1 locs1 h5 hP2 hD2 hS1
theorem clINV {tys : List (ClassId × FieldType)} {nL maxL idx n mc ms : Nat} {own : String} {y : MethodName} {bytes : ByteArray} {ret : Option FieldType} {rm : Room} {As : List Value} {ws wc wr : va_W} {host : String} {b : Nat} {post : S → Prop} (hx : p.tables.exec = Jvm.exec) (hb : c.code = cc) (hml : c.maxLocals = nL) (hown : s.vm.findClass own = some m.cls) (hg : ∀ w ∈ gW, w.before args s = true) (hE : En X tys A s s.heap) (hA : ∀ q : Nat, s.heap.size ≤ q → A q) (hP : va_P X.1 classes ws H) (hD : va_D A ws) (hS : va_S A s.heap H locs)
    (hM : CtV l X tys y (.code y bytes maxL none) rm (.ref b :: As) wc post w1 mc ms) (hT : Cond.code y bytes maxL none ∈ gW) (hini : Cond.initialized y.cls ∈ gW) (hl : va_Nw (.methodLinkNest own idx y host) s) (him : Cond.instanceMethod y ∈ gW) (hy1 : y.name = "<init>") (hd : y.cls ≠ "java/lang/invoke/MethodHandle" ∧ y.cls ≠ "java/lang/invoke/VarHandle" ∧ (parseMethodDescriptor y.desc).map (fun d => d.parameters.length) = some n) (isC isR : List Nat) (hC : isC.map (fun i => ws[i]?) = wc.map some) (hR : isR.map (fun i => ws[i]?) = wr.map some) (hnC : va_nd isC = true) (hn : va_nd isR = true) (hdis : ∀ i ∈ isR, i ∉ isC) (hlen : As.length = n) (hsz : ls.size = nL) (hroom : (rest.map fun v => v.category).sum ≤ 8) (hst0 : st = As.reverse ++ .ref b :: rest) (hdg : decode cc pc = .ok (.invokespecial idx, 3)) (hrm : rm.cells = mc ∧ rm.slots = ms ∧ rm.frames + 1 ≤ R.frames ∧ 8 + (maxL + 11) + rm.locals ≤ R.locals) (hf : cells + mc ≤ R.cells ∧ slots + ms ≤ R.slots)
    (kk : ∀ (u : S) (H1 : Heap) (locs1 : List Loc), post u → va_P X.1 classes (wr ++ w1 u) H1 → va_D A (wr ++ w1 u) → va_S A s.heap H1 locs1 → W p l e R s m args below meth c H1 locs1 (cells + mc) (slots + ms) Q (F0 m (pc + 3) ls (rest))) : W p l e R s m args below meth c H locs cells slots Q (F0 m pc ls st) := by
  have hPc := hP.sub (ws' := wc) isC (fm_of_map hC)
  have hFc := va_free (wc := wc) hD hS hA isC hC
  have hDc : va_D A wc := ⟨(hD.sub (ws' := wc) isC hnC hC).1, fun k q hq => hFc q.1 (va_A.in hq)⟩
  refine va_callv (va_runIN (As := As) (rest := rest) ⟨hx, hb, hml, hown, hg⟩ (hM H.size) ⟨va_cnB n hg (gcons hT gG) rfl hrm.1 hrm.2.1 hl (hg _ hini) hd hrm.2.2, hy1, hg _ him⟩ ⟨Pre0.blind, fun U hU hW => Pre0.of hE hS hFc hPc hDc hU hW⟩ rfl hlen hsz hst0 (lv_room hroom) hdg hf) hS (fun q _ h => hFc q h) hFc (fun u t H1 locs1 ht hvm h5 hB hz1 hk1 hS1 => ?_)
  obtain ⟨hP1, hD1⟩ := hB
  rw [ht] at hP1
  obtain ⟨hP2, hD2⟩ := va_join (wr := wr) (w1 := w1 u) hP hD isC isR hC hR hn hdis hk1 hFc hP1 hD1
  exact kk u H1 locs1 h5 hP2 hD2 hS1
theorem newaX {tys : List (ClassId × FieldType)} {ws : va_W} {atype : ArrayType} {ty : FieldType} {n : Int32} {N' : Nat} {a0 : vp_A} {cA0 : ClassId} (hx : p.tables.exec = Jvm.exec) (hb : c.code = cc) (harr : (Cond.arrayClass (newarray.typeOf atype)).before args s = true) (hty : newarray.typeOf atype = ty) (hE : En X tys A s s.heap) (hP : va_P X.1 classes ws H) (hD : va_D A ws) (hS : va_S A s.heap H locs) (hA : ∀ q : Nat, s.heap.size ≤ q → A q) (k : Nat) (ht : tys[k]? = some (cA0, ty)) (ha : ∀ cA : ClassId, vp_cell cA a0 = arrV cA N' (fun _ => defaultValue ty)) (hn : ¬ n < 0) (hN : n.toNatClampNeg = N') (hbytes : N' * componentBytes ty ≤ 536870912) (hcells : cells + 1 ≤ R.cells) (hslots : slots + N' ≤ R.slots) (hdg : decode cc pc = .ok (.newarray atype, 2))
    (kk : ∀ (q : Nat) (H1 : Heap), va_P X.1 classes (ws ++ [(q, .inl (cA0, a0))]) H1 → va_D A (ws ++ [(q, .inl (cA0, a0))]) → va_S A s.heap H1 locs → W p l e R s m args below meth c H1 locs (cells + 1) (slots + N') Q (F0 m (pc + 2) ls (.ref q :: rest))) : W p l e R s m args below meth c H locs cells slots Q (F0 m pc ls (.int n :: rest)) := by
  refine va_newa hx hb harr hty hE.1 hP hD hS hA ha hn hN hbytes hcells hslots hdg (fun q cA H1 hK1 hP1 hD1 hS1 => ?_)
  have e : cA = cA0 := RA_uniq (hK1.2 tys.length (cA, ty) (by simp)).2 (hE.1.2 k _ ht).2
  subst e
  exact kk q H1 hP1 hD1 hS1
theorem newqX {tys : List (ClassId × FieldType)} {ws : va_W} {own : String} {index : Nat} {n : Int32} {N' : Nat} {cA0 : ClassId} (hx : p.tables.exec = Jvm.exec) (hb : c.code = cc) (hown : s.vm.findClass own = some m.cls) (hclink : (Cond.classLink own index R_NS).before args s = true) (hE : En X tys A s s.heap) (hP : va_P X.1 classes ws H) (hD : va_D A ws) (hS : va_S A s.heap H locs) (hA : ∀ q : Nat, s.heap.size ≤ q → A q) (k : Nat) (ht : tys[k]? = some (cA0, .object R_NS)) (hn : ¬ n < 0) (hN : n.toNatClampNeg = N') (hbytes : N' * 4 ≤ 536870912) (hcells : cells + 1 ≤ R.cells) (hslots : slots + N' ≤ R.slots) (hdg : decode cc pc = .ok (.anewarray index, 3))
    (kk : ∀ (q : Nat) (H1 : Heap), va_P X.1 classes (ws ++ [(q, .inl (cA0, N', .inr (.inr (.inr (.inr (fun _ => none))))))]) H1 → va_D A (ws ++ [(q, .inl (cA0, N', .inr (.inr (.inr (.inr (fun _ => none))))))]) → va_S A s.heap H1 locs → W p l e R s m args below meth c H1 locs (cells + 1) (slots + N') Q (F0 m (pc + 3) ls (.ref q :: rest))) : W p l e R s m args below meth c H locs cells slots Q (F0 m pc ls (.int n :: rest)) := by
  refine va_newq hx hb hown hclink hE.2.1.2 hE.1 hP hD hS hA hn hN hbytes hcells hslots hdg (fun q cA H1 hK1 hP1 hD1 hS1 => ?_)
  have e : cA = cA0 := RA_uniq (hK1.2 tys.length (cA, .object R_NS) (by simp)).2 (hE.1.2 k _ ht).2
  subst e
  exact kk q H1 hP1 hD1 hS1
end BASE
