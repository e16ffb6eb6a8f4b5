section
-- ===== PART A: goes FIRST, ahead of the names: the tables' words, and 'selects' of the private methods out of them =====
/-- a private method of a class that the tables say can be made, by its rows of tables_1 -/
def lw_okq (q : MethodName × Nat) : Prop := (q.1.cls ≠ "java/lang/invoke/MethodHandle" ∧ q.1.cls ≠ "java/lang/invoke/VarHandle") ∧ Cond.instantiable q.1.cls q.2 ∈ tables_1 ∧ Cond.privateMethod q.1 ∈ tables_1 ∧ Cond.instanceMethod q.1 ∈ tables_1
theorem lw_p0 : lw_okq (⟨"CombinationRows$Space", "sortRows", "()V"⟩, 7) := ⟨⟨by decide +kernel, by decide +kernel⟩, List.mem_of_getElem? (i := 21) (by decide +kernel), List.mem_of_getElem? (i := 51) (by decide +kernel), List.mem_of_getElem? (i := 52) (by decide +kernel)⟩
theorem lw_p1 : lw_okq (⟨"CombinationRows$Space", "wordWith", "(III)J"⟩, 7) := ⟨⟨by decide +kernel, by decide +kernel⟩, List.mem_of_getElem? (i := 21) (by decide +kernel), List.mem_of_getElem? (i := 55) (by decide +kernel), List.mem_of_getElem? (i := 56) (by decide +kernel)⟩
theorem lw_p2 : lw_okq (⟨"CombinationRows$Generation", "countGoalsOf", "(I)I"⟩, 8) := ⟨⟨by decide +kernel, by decide +kernel⟩, List.mem_of_getElem? (i := 129) (by decide +kernel), List.mem_of_getElem? (i := 326) (by decide +kernel), List.mem_of_getElem? (i := 327) (by decide +kernel)⟩
theorem lw_p3 : lw_okq (⟨"CombinationRows$Generation", "isGoal", "(II)Z"⟩, 8) := ⟨⟨by decide +kernel, by decide +kernel⟩, List.mem_of_getElem? (i := 129) (by decide +kernel), List.mem_of_getElem? (i := 331) (by decide +kernel), List.mem_of_getElem? (i := 332) (by decide +kernel)⟩
theorem lw_p4 : lw_okq (⟨"CombinationRows$Generation", "setsCoveredBy", "(I)J"⟩, 8) := ⟨⟨by decide +kernel, by decide +kernel⟩, List.mem_of_getElem? (i := 129) (by decide +kernel), List.mem_of_getElem? (i := 352) (by decide +kernel), List.mem_of_getElem? (i := 353) (by decide +kernel)⟩
theorem lw_p5 : lw_okq (⟨"CombinationRows", "takeSeeds", "()V"⟩, 7) := ⟨⟨by decide +kernel, by decide +kernel⟩, List.mem_of_getElem? (i := 13) (by decide +kernel), List.mem_of_getElem? (i := 371) (by decide +kernel), List.mem_of_getElem? (i := 372) (by decide +kernel)⟩
theorem lw_p6 : lw_okq (⟨"CombinationRows$Space", "hasAllValues", "(I)Z"⟩, 7) := ⟨⟨by decide +kernel, by decide +kernel⟩, List.mem_of_getElem? (i := 21) (by decide +kernel), List.mem_of_getElem? (i := 379) (by decide +kernel), List.mem_of_getElem? (i := 380) (by decide +kernel)⟩
theorem lw_p7 : lw_okq (⟨"CombinationRows$Generation", "cover", "(II)Z"⟩, 8) := ⟨⟨by decide +kernel, by decide +kernel⟩, List.mem_of_getElem? (i := 129) (by decide +kernel), List.mem_of_getElem? (i := 388) (by decide +kernel), List.mem_of_getElem? (i := 389) (by decide +kernel)⟩
theorem lw_p8 : lw_okq (⟨"CombinationRows$Generation", "lowerGains", "(IILCombinationRows$NumberSet;)V"⟩, 8) := ⟨⟨by decide +kernel, by decide +kernel⟩, List.mem_of_getElem? (i := 129) (by decide +kernel), List.mem_of_getElem? (i := 396) (by decide +kernel), List.mem_of_getElem? (i := 397) (by decide +kernel)⟩
theorem lw_p9 : lw_okq (⟨"CombinationRows$Generation", "bestOf", "(LCombinationRows$NumberSet;)I"⟩, 8) := ⟨⟨by decide +kernel, by decide +kernel⟩, List.mem_of_getElem? (i := 129) (by decide +kernel), List.mem_of_getElem? (i := 408) (by decide +kernel), List.mem_of_getElem? (i := 409) (by decide +kernel)⟩
theorem lw_p10 : lw_okq (⟨"CombinationRows", "isTaken", "(I)Z"⟩, 7) := ⟨⟨by decide +kernel, by decide +kernel⟩, List.mem_of_getElem? (i := 13) (by decide +kernel), List.mem_of_getElem? (i := 428) (by decide +kernel), List.mem_of_getElem? (i := 429) (by decide +kernel)⟩
theorem lw_p11 : lw_okq (⟨"CombinationRows$Space", "isMinimalForbidden", "(II)Z"⟩, 7) := ⟨⟨by decide +kernel, by decide +kernel⟩, List.mem_of_getElem? (i := 21) (by decide +kernel), List.mem_of_getElem? (i := 463) (by decide +kernel), List.mem_of_getElem? (i := 464) (by decide +kernel)⟩
theorem lw_p12 : lw_okq (⟨"CombinationRowsModel", "noValue", "(II)Z"⟩, 29) := ⟨⟨by decide +kernel, by decide +kernel⟩, List.mem_of_getElem? (i := 470) (by decide +kernel), List.mem_of_getElem? (i := 575) (by decide +kernel), List.mem_of_getElem? (i := 576) (by decide +kernel)⟩
theorem lw_p13 : lw_okq (⟨"CombinationRowsModel", "size", "(I)I"⟩, 29) := ⟨⟨by decide +kernel, by decide +kernel⟩, List.mem_of_getElem? (i := 470) (by decide +kernel), List.mem_of_getElem? (i := 583) (by decide +kernel), List.mem_of_getElem? (i := 584) (by decide +kernel)⟩
theorem lw_p14 : lw_okq (⟨"CombinationRowsModel", "push", "(IIII)Z"⟩, 29) := ⟨⟨by decide +kernel, by decide +kernel⟩, List.mem_of_getElem? (i := 470) (by decide +kernel), List.mem_of_getElem? (i := 591) (by decide +kernel), List.mem_of_getElem? (i := 592) (by decide +kernel)⟩
theorem lw_p15 : lw_okq (⟨"CombinationRowsModel", "look", "()V"⟩, 29) := ⟨⟨by decide +kernel, by decide +kernel⟩, List.mem_of_getElem? (i := 470) (by decide +kernel), List.mem_of_getElem? (i := 615) (by decide +kernel), List.mem_of_getElem? (i := 616) (by decide +kernel)⟩
def lw_privs_1 : List (MethodName × Nat) := [(⟨"CombinationRows$Space", "sortRows", "()V"⟩, 7), (⟨"CombinationRows$Space", "wordWith", "(III)J"⟩, 7), (⟨"CombinationRows$Generation", "countGoalsOf", "(I)I"⟩, 8), (⟨"CombinationRows$Generation", "isGoal", "(II)Z"⟩, 8), (⟨"CombinationRows$Generation", "setsCoveredBy", "(I)J"⟩, 8), (⟨"CombinationRows", "takeSeeds", "()V"⟩, 7), (⟨"CombinationRows$Space", "hasAllValues", "(I)Z"⟩, 7), (⟨"CombinationRows$Generation", "cover", "(II)Z"⟩, 8), (⟨"CombinationRows$Generation", "lowerGains", "(IILCombinationRows$NumberSet;)V"⟩, 8), (⟨"CombinationRows$Generation", "bestOf", "(LCombinationRows$NumberSet;)I"⟩, 8), (⟨"CombinationRows", "isTaken", "(I)Z"⟩, 7), (⟨"CombinationRows$Space", "isMinimalForbidden", "(II)Z"⟩, 7), (⟨"CombinationRowsModel", "noValue", "(II)Z"⟩, 29), (⟨"CombinationRowsModel", "size", "(I)I"⟩, 29), (⟨"CombinationRowsModel", "push", "(IIII)Z"⟩, 29), (⟨"CombinationRowsModel", "look", "()V"⟩, 29)]
theorem lw_r1 : ∀ q ∈ lw_privs_1, lw_okq q := List.forall_mem_cons.mpr ⟨lw_p0, List.forall_mem_cons.mpr ⟨lw_p1, List.forall_mem_cons.mpr ⟨lw_p2, List.forall_mem_cons.mpr ⟨lw_p3, List.forall_mem_cons.mpr ⟨lw_p4, List.forall_mem_cons.mpr ⟨lw_p5, List.forall_mem_cons.mpr ⟨lw_p6, List.forall_mem_cons.mpr ⟨lw_p7, List.forall_mem_cons.mpr ⟨lw_p8, List.forall_mem_cons.mpr ⟨lw_p9, List.forall_mem_cons.mpr ⟨lw_p10, List.forall_mem_cons.mpr ⟨lw_p11, List.forall_mem_cons.mpr ⟨lw_p12, List.forall_mem_cons.mpr ⟨lw_p13, List.forall_mem_cons.mpr ⟨lw_p14, List.forall_mem_cons.mpr ⟨lw_p15, fun _ h => absurd h List.not_mem_nil⟩⟩⟩⟩⟩⟩⟩⟩⟩⟩⟩⟩⟩⟩⟩⟩
theorem lw_p16 : lw_okq (⟨"CombinationRowsModel", "judge", "(I)I"⟩, 29) := ⟨⟨by decide +kernel, by decide +kernel⟩, List.mem_of_getElem? (i := 470) (by decide +kernel), List.mem_of_getElem? (i := 619) (by decide +kernel), List.mem_of_getElem? (i := 620) (by decide +kernel)⟩
theorem lw_p17 : lw_okq (⟨"CombinationRowsModel", "meets", "(I)Z"⟩, 29) := ⟨⟨by decide +kernel, by decide +kernel⟩, List.mem_of_getElem? (i := 470) (by decide +kernel), List.mem_of_getElem? (i := 623) (by decide +kernel), List.mem_of_getElem? (i := 624) (by decide +kernel)⟩
theorem lw_p18 : lw_okq (⟨"CombinationRowsModel", "place", "(II)I"⟩, 29) := ⟨⟨by decide +kernel, by decide +kernel⟩, List.mem_of_getElem? (i := 470) (by decide +kernel), List.mem_of_getElem? (i := 627) (by decide +kernel), List.mem_of_getElem? (i := 628) (by decide +kernel)⟩
theorem lw_p19 : lw_okq (⟨"CombinationRowsModel", "asked", "(I)Z"⟩, 29) := ⟨⟨by decide +kernel, by decide +kernel⟩, List.mem_of_getElem? (i := 470) (by decide +kernel), List.mem_of_getElem? (i := 631) (by decide +kernel), List.mem_of_getElem? (i := 632) (by decide +kernel)⟩
theorem lw_p20 : lw_okq (⟨"CombinationRowsModel", "wrong", "(I)I"⟩, 29) := ⟨⟨by decide +kernel, by decide +kernel⟩, List.mem_of_getElem? (i := 470) (by decide +kernel), List.mem_of_getElem? (i := 635) (by decide +kernel), List.mem_of_getElem? (i := 636) (by decide +kernel)⟩
theorem lw_p21 : lw_okq (⟨"CombinationRowsModel", "take", "(I)V"⟩, 29) := ⟨⟨by decide +kernel, by decide +kernel⟩, List.mem_of_getElem? (i := 470) (by decide +kernel), List.mem_of_getElem? (i := 639) (by decide +kernel), List.mem_of_getElem? (i := 640) (by decide +kernel)⟩
theorem lw_p22 : lw_okq (⟨"CombinationRowsModel", "count", "(IZ)I"⟩, 29) := ⟨⟨by decide +kernel, by decide +kernel⟩, List.mem_of_getElem? (i := 470) (by decide +kernel), List.mem_of_getElem? (i := 643) (by decide +kernel), List.mem_of_getElem? (i := 644) (by decide +kernel)⟩
theorem lw_p23 : lw_okq (⟨"CombinationRowsModel", "noRow", "(I)Z"⟩, 29) := ⟨⟨by decide +kernel, by decide +kernel⟩, List.mem_of_getElem? (i := 470) (by decide +kernel), List.mem_of_getElem? (i := 663) (by decide +kernel), List.mem_of_getElem? (i := 664) (by decide +kernel)⟩
theorem lw_p24 : lw_okq (⟨"CombinationRowsModel", "least", "(I)Z"⟩, 29) := ⟨⟨by decide +kernel, by decide +kernel⟩, List.mem_of_getElem? (i := 470) (by decide +kernel), List.mem_of_getElem? (i := 691) (by decide +kernel), List.mem_of_getElem? (i := 692) (by decide +kernel)⟩
def lw_privs_2 : List (MethodName × Nat) := [(⟨"CombinationRowsModel", "judge", "(I)I"⟩, 29), (⟨"CombinationRowsModel", "meets", "(I)Z"⟩, 29), (⟨"CombinationRowsModel", "place", "(II)I"⟩, 29), (⟨"CombinationRowsModel", "asked", "(I)Z"⟩, 29), (⟨"CombinationRowsModel", "wrong", "(I)I"⟩, 29), (⟨"CombinationRowsModel", "take", "(I)V"⟩, 29), (⟨"CombinationRowsModel", "count", "(IZ)I"⟩, 29), (⟨"CombinationRowsModel", "noRow", "(I)Z"⟩, 29), (⟨"CombinationRowsModel", "least", "(I)Z"⟩, 29)]
theorem lw_r2 : ∀ q ∈ lw_privs_2, lw_okq q := List.forall_mem_cons.mpr ⟨lw_p16, List.forall_mem_cons.mpr ⟨lw_p17, List.forall_mem_cons.mpr ⟨lw_p18, List.forall_mem_cons.mpr ⟨lw_p19, List.forall_mem_cons.mpr ⟨lw_p20, List.forall_mem_cons.mpr ⟨lw_p21, List.forall_mem_cons.mpr ⟨lw_p22, List.forall_mem_cons.mpr ⟨lw_p23, List.forall_mem_cons.mpr ⟨lw_p24, fun _ h => absurd h List.not_mem_nil⟩⟩⟩⟩⟩⟩⟩⟩⟩
def lw_privs : List (MethodName × Nat) := lw_privs_1 ++ (lw_privs_2)
def lw_tbl : List Cond := k2_sels lw_privs ++ tables_1
theorem lw_privs_ok : ∀ q ∈ lw_privs, lw_okq q := by
  show ∀ q ∈ lw_privs_1 ++ (lw_privs_2), lw_okq q
  exact List.forall_mem_append.mpr ⟨lw_r1, lw_r2⟩
end
section
def R_NS : String := "CombinationRows$NumberSet"
def F_NS : u_T := fun k => match k with
  | _ => ("CombinationRows$NumberSet", "words", "[J", true)
def t_NS : Nat → FieldType := fun k => match k with
  | _ => .array .long
theorem n_NS : ∀ a, a < 1 → ∀ b, b < 1 → a ≠ b → (F_NS a).2.1 ≠ (F_NS b).2.1 := by decide +kernel
theorem t_NS_ok : ∀ k, k < 1 → parseFieldDescriptor (F_NS k).2.2.1 = some (t_NS k) := by decide +kernel
def R_Re : String := "CombinationRows$Relations"
def F_Re : u_T := fun k => match k with
  | 0 => ("CombinationRows$Relations", "asked", "J", false)
  | _ => ("CombinationRows$Relations", "count", "I", false)
def t_Re : Nat → FieldType := fun k => match k with
  | 0 => .long
  | _ => .int
theorem n_Re : ∀ a, a < 2 → ∀ b, b < 2 → a ≠ b → (F_Re a).2.1 ≠ (F_Re b).2.1 := by decide +kernel
theorem t_Re_ok : ∀ k, k < 2 → parseFieldDescriptor (F_Re k).2.2.1 = some (t_Re k) := by decide +kernel
def R_Sp : String := "CombinationRows$Space"
def F_Sp : u_T := fun k => match k with
  | 0 => ("CombinationRows$Space", "values", "[I", true)
  | 1 => ("CombinationRows$Space", "invalidValues", "[I", true)
  | 2 => ("CombinationRows$Space", "meetingRules", "LCombinationRows$NumberSet;", true)
  | 3 => ("CombinationRows$Space", "valid", "LCombinationRows$NumberSet;", true)
  | 4 => ("CombinationRows$Space", "negative", "LCombinationRows$NumberSet;", true)
  | 5 => ("CombinationRows$Space", "parameters", "I", false)
  | _ => ("CombinationRows$Space", "rules", "I", false)
def t_Sp : Nat → FieldType := fun k => match k with
  | 0 => .array .int
  | 1 => .array .int
  | 2 => .object "CombinationRows$NumberSet"
  | 3 => .object "CombinationRows$NumberSet"
  | 4 => .object "CombinationRows$NumberSet"
  | 5 => .int
  | _ => .int
theorem n_Sp : ∀ a, a < 7 → ∀ b, b < 7 → a ≠ b → (F_Sp a).2.1 ≠ (F_Sp b).2.1 := by decide +kernel
theorem t_Sp_ok : ∀ k, k < 7 → parseFieldDescriptor (F_Sp k).2.2.1 = some (t_Sp k) := by decide +kernel
def R_Te : String := "CombinationRows$Terms"
def F_Te : u_T := fun k => match k with
  | 0 => ("CombinationRows$Terms", "meeting", "[LCombinationRows$NumberSet;", true)
  | 1 => ("CombinationRows$Terms", "depths", "[I", true)
  | _ => ("CombinationRows$Terms", "count", "I", false)
def t_Te : Nat → FieldType := fun k => match k with
  | 0 => .array (.object "CombinationRows$NumberSet")
  | 1 => .array .int
  | _ => .int
theorem n_Te : ∀ a, a < 3 → ∀ b, b < 3 → a ≠ b → (F_Te a).2.1 ≠ (F_Te b).2.1 := by decide +kernel
theorem t_Te_ok : ∀ k, k < 3 → parseFieldDescriptor (F_Te k).2.2.1 = some (t_Te k) := by decide +kernel
def R_Ge : String := "CombinationRows$Generation"
def F_Ge : u_T := fun k => match k with
  | 0 => ("CombinationRows$Generation", "space", "LCombinationRows$Space;", true)
  | 1 => ("CombinationRows$Generation", "relations", "LCombinationRows$Relations;", true)
  | 2 => ("CombinationRows$Generation", "covered", "[J", true)
  | 3 => ("CombinationRows$Generation", "gains", "[I", true)
  | 4 => ("CombinationRows$Generation", "numbers", "[I", true)
  | 5 => ("CombinationRows$Generation", "gainsTaken", "[I", true)
  | 6 => ("CombinationRows$Generation", "taken", "I", false)
  | _ => ("CombinationRows$Generation", "goalsLeft", "I", false)
def t_Ge : Nat → FieldType := fun k => match k with
  | 0 => .object "CombinationRows$Space"
  | 1 => .object "CombinationRows$Relations"
  | 2 => .array .long
  | 3 => .array .int
  | 4 => .array .int
  | 5 => .array .int
  | 6 => .int
  | _ => .int
theorem n_Ge : ∀ a, a < 8 → ∀ b, b < 8 → a ≠ b → (F_Ge a).2.1 ≠ (F_Ge b).2.1 := by decide +kernel
theorem t_Ge_ok : ∀ k, k < 8 → parseFieldDescriptor (F_Ge k).2.2.1 = some (t_Ge k) := by decide +kernel
def R_CR : String := "CombinationRows"
def F_CR : u_T := fun k => match k with
  | 0 => ("CombinationRows", "space", "LCombinationRows$Space;", true)
  | 1 => ("CombinationRows", "relations", "LCombinationRows$Relations;", true)
  | 2 => ("CombinationRows", "terms", "LCombinationRows$Terms;", true)
  | 3 => ("CombinationRows", "seeds", "[I", true)
  | 4 => ("CombinationRows", "generation", "LCombinationRows$Generation;", true)
  | 5 => ("CombinationRows", "seedCount", "I", false)
  | _ => ("CombinationRows", "underWay", "Z", false)
def t_CR : Nat → FieldType := fun k => match k with
  | 0 => .object "CombinationRows$Space"
  | 1 => .object "CombinationRows$Relations"
  | 2 => .object "CombinationRows$Terms"
  | 3 => .array .int
  | 4 => .object "CombinationRows$Generation"
  | 5 => .int
  | _ => .boolean
theorem n_CR : ∀ a, a < 7 → ∀ b, b < 7 → a ≠ b → (F_CR a).2.1 ≠ (F_CR b).2.1 := by decide +kernel
theorem t_CR_ok : ∀ k, k < 7 → parseFieldDescriptor (F_CR k).2.2.1 = some (t_CR k) := by decide +kernel
def R_Mo : String := "CombinationRowsModel"
def F_Mo : u_T := fun k => match k with
  | 0 => ("CombinationRowsModel", "params", "I", false)
  | 1 => ("CombinationRowsModel", "values", "[I", false)
  | 2 => ("CombinationRowsModel", "bad", "[Z", false)
  | 3 => ("CombinationRowsModel", "relations", "I", false)
  | 4 => ("CombinationRowsModel", "relSet", "[I", false)
  | 5 => ("CombinationRowsModel", "relStrength", "[I", false)
  | 6 => ("CombinationRowsModel", "terms", "I", false)
  | 7 => ("CombinationRowsModel", "termOp", "[B", false)
  | 8 => ("CombinationRowsModel", "termA", "[S", false)
  | 9 => ("CombinationRowsModel", "termB", "[S", false)
  | 10 => ("CombinationRowsModel", "termDepth", "[B", false)
  | 11 => ("CombinationRowsModel", "truth", "[Z", false)
  | 12 => ("CombinationRowsModel", "stacked", "I", false)
  | 13 => ("CombinationRowsModel", "stack", "[I", false)
  | 14 => ("CombinationRowsModel", "rules", "I", false)
  | 15 => ("CombinationRowsModel", "rule", "[I", false)
  | 16 => ("CombinationRowsModel", "seeds", "I", false)
  | 17 => ("CombinationRowsModel", "seed", "[I", false)
  | 18 => ("CombinationRowsModel", "fresh", "Z", false)
  | 19 => ("CombinationRowsModel", "kinds", "[B", false)
  | 20 => ("CombinationRowsModel", "inValid", "[Z", false)
  | 21 => ("CombinationRowsModel", "inNegative", "[Z", false)
  | 22 => ("CombinationRowsModel", "on", "Z", false)
  | 23 => ("CombinationRowsModel", "open", "[Z", false)
  | 24 => ("CombinationRowsModel", "openPlain", "I", false)
  | 25 => ("CombinationRowsModel", "openAll", "I", false)
  | 26 => ("CombinationRowsModel", "taken", "I", false)
  | 27 => ("CombinationRowsModel", "rows", "[S", false)
  | _ => ("CombinationRowsModel", "gains", "[S", false)
def t_Mo : Nat → FieldType := fun k => match k with
  | 0 => .int
  | 1 => .array .int
  | 2 => .array .boolean
  | 3 => .int
  | 4 => .array .int
  | 5 => .array .int
  | 6 => .int
  | 7 => .array .byte
  | 8 => .array .short
  | 9 => .array .short
  | 10 => .array .byte
  | 11 => .array .boolean
  | 12 => .int
  | 13 => .array .int
  | 14 => .int
  | 15 => .array .int
  | 16 => .int
  | 17 => .array .int
  | 18 => .boolean
  | 19 => .array .byte
  | 20 => .array .boolean
  | 21 => .array .boolean
  | 22 => .boolean
  | 23 => .array .boolean
  | 24 => .int
  | 25 => .int
  | 26 => .int
  | 27 => .array .short
  | _ => .array .short
theorem n_Mo : ∀ a, a < 29 → ∀ b, b < 29 → a ≠ b → (F_Mo a).2.1 ≠ (F_Mo b).2.1 := by decide +kernel
theorem t_Mo_ok : ∀ k, k < 29 → parseFieldDescriptor (F_Mo k).2.2.1 = some (t_Mo k) := by decide +kernel
def R_JI : String := "java/lang/Integer"
def R_JL : String := "java/lang/Long"
def R_JM : String := "java/lang/Math"
def R_JA : String := "java/util/Arrays"
def R_La : String := "CombinationRowsLaw"
abbrev classes : List vw_C := [(R_NS, F_NS, 1), (R_Re, F_Re, 2), (R_Sp, F_Sp, 7), (R_Te, F_Te, 3), (R_Ge, F_Ge, 8), (R_CR, F_CR, 7), (R_Mo, F_Mo, 29)]
abbrev b_CR_init : ByteArray := prog_1_method_1_code
def y_CR_init : MethodName := ⟨R_CR, "<init>", "()V"⟩
abbrev cw_CR_init : Cond := .code y_CR_init b_CR_init 1 none
abbrev b_Sp_init : ByteArray := prog_5_method_1_code
def y_Sp_init : MethodName := ⟨R_Sp, "<init>", "()V"⟩
abbrev cw_Sp_init : Cond := .code y_Sp_init b_Sp_init 1 none
abbrev b_NS_init : ByteArray := prog_3_method_1_code
def y_NS_init : MethodName := ⟨R_NS, "<init>", "()V"⟩
abbrev cw_NS_init : Cond := .code y_NS_init b_NS_init 1 none
abbrev b_JA_fillI : ByteArray := prog_12_method_103_code
def y_JA_fillI : MethodName := ⟨R_JA, "fill", "([II)V"⟩
abbrev cw_JA_fillI : Cond := .code y_JA_fillI b_JA_fillI 4 none
abbrev b_NS_becomeAll : ByteArray := prog_3_method_8_code
def y_NS_becomeAll : MethodName := ⟨R_NS, "becomeAll", "()V"⟩
abbrev cw_NS_becomeAll : Cond := .code y_NS_becomeAll b_NS_becomeAll 1 none
abbrev b_JA_fillL : ByteArray := prog_12_method_101_code
def y_JA_fillL : MethodName := ⟨R_JA, "fill", "([JJ)V"⟩
abbrev cw_JA_fillL : Cond := .code y_JA_fillL b_JA_fillL 5 none
abbrev b_Sp_sortRows : ByteArray := prog_5_method_5_code
def y_Sp_sortRows : MethodName := ⟨R_Sp, "sortRows", "()V"⟩
abbrev cw_Sp_sortRows : Cond := .code y_Sp_sortRows b_Sp_sortRows 11 none
abbrev b_Sp_wordWith : ByteArray := prog_5_method_6_code
def y_Sp_wordWith : MethodName := ⟨R_Sp, "wordWith", "(III)J"⟩
abbrev cw_Sp_wordWith : Cond := .code y_Sp_wordWith b_Sp_wordWith 7 (some .long)
abbrev b_NS_wordOf : ByteArray := prog_3_method_6_code
def y_NS_wordOf : MethodName := ⟨R_NS, "wordOf", "(III)J"⟩
abbrev cw_NS_wordOf : Cond := .code y_NS_wordOf b_NS_wordOf 3 (some .long)
abbrev b_CR_valueOf : ByteArray := prog_1_method_24_code
def y_CR_valueOf : MethodName := ⟨R_CR, "valueOf", "(II)I"⟩
abbrev cw_CR_valueOf : Cond := .code y_CR_valueOf b_CR_valueOf 2 (some .int)
abbrev b_Re_init : ByteArray := prog_4_method_1_code
def y_Re_init : MethodName := ⟨R_Re, "<init>", "()V"⟩
abbrev cw_Re_init : Cond := .code y_Re_init b_Re_init 1 none
abbrev b_Te_init : ByteArray := prog_6_method_1_code
def y_Te_init : MethodName := ⟨R_Te, "<init>", "()V"⟩
abbrev cw_Te_init : Cond := .code y_Te_init b_Te_init 2 none
abbrev b_Ge_init : ByteArray := prog_2_method_1_code
def y_Ge_init : MethodName := ⟨R_Ge, "<init>", "(LCombinationRows$Space;LCombinationRows$Relations;)V"⟩
abbrev cw_Ge_init : Cond := .code y_Ge_init b_Ge_init 3 none
abbrev b_CR_parameter : ByteArray := prog_1_method_2_code
def y_CR_parameter : MethodName := ⟨R_CR, "parameter", "(I)I"⟩
abbrev cw_CR_parameter : Cond := .code y_CR_parameter b_CR_parameter 2 (some .int)
abbrev b_Sp_addParameter : ByteArray := prog_5_method_2_code
def y_Sp_addParameter : MethodName := ⟨R_Sp, "addParameter", "(I)V"⟩
abbrev cw_Sp_addParameter : Cond := .code y_Sp_addParameter b_Sp_addParameter 2 none
abbrev b_CR_invalid : ByteArray := prog_1_method_3_code
def y_CR_invalid : MethodName := ⟨R_CR, "invalid", "(II)Z"⟩
abbrev cw_CR_invalid : Cond := .code y_CR_invalid b_CR_invalid 3 (some .boolean)
abbrev b_Sp_hasValue : ByteArray := prog_5_method_7_code
def y_Sp_hasValue : MethodName := ⟨R_Sp, "hasValue", "(II)Z"⟩
abbrev cw_Sp_hasValue : Cond := .code y_Sp_hasValue b_Sp_hasValue 3 (some .boolean)
abbrev b_Sp_isInvalid : ByteArray := prog_5_method_8_code
def y_Sp_isInvalid : MethodName := ⟨R_Sp, "isInvalid", "(II)Z"⟩
abbrev cw_Sp_isInvalid : Cond := .code y_Sp_isInvalid b_Sp_isInvalid 3 (some .boolean)
abbrev b_Sp_makeInvalid : ByteArray := prog_5_method_3_code
def y_Sp_makeInvalid : MethodName := ⟨R_Sp, "makeInvalid", "(II)V"⟩
abbrev cw_Sp_makeInvalid : Cond := .code y_Sp_makeInvalid b_Sp_makeInvalid 3 none
abbrev b_CR_relation : ByteArray := prog_1_method_4_code
def y_CR_relation : MethodName := ⟨R_CR, "relation", "(II)I"⟩
abbrev cw_CR_relation : Cond := .code y_CR_relation b_CR_relation 3 (some .int)
abbrev b_Sp_isSet : ByteArray := prog_5_method_11_code
def y_Sp_isSet : MethodName := ⟨R_Sp, "isSet", "(I)Z"⟩
abbrev cw_Sp_isSet : Cond := .code y_Sp_isSet b_Sp_isSet 2 (some .boolean)
abbrev b_JI_bitCount : ByteArray := prog_9_method_49_code
def y_JI_bitCount : MethodName := ⟨R_JI, "bitCount", "(I)I"⟩
abbrev cw_JI_bitCount : Cond := .code y_JI_bitCount b_JI_bitCount 1 (some .int)
abbrev b_Re_add : ByteArray := prog_4_method_2_code
def y_Re_add : MethodName := ⟨R_Re, "add", "(II)V"⟩
abbrev cw_Re_add : Cond := .code y_Re_add b_Re_add 4 none
abbrev b_CR_is : ByteArray := prog_1_method_5_code
def y_CR_is : MethodName := ⟨R_CR, "is", "(II)Z"⟩
abbrev cw_CR_is : Cond := .code y_CR_is b_CR_is 3 (some .boolean)
abbrev b_Te_push : ByteArray := prog_6_method_2_code
def y_Te_push : MethodName := ⟨R_Te, "push", "(II)Z"⟩
abbrev cw_Te_push : Cond := .code y_Te_push b_Te_push 3 (some .boolean)
abbrev b_NS_becomeIs : ByteArray := prog_3_method_7_code
def y_NS_becomeIs : MethodName := ⟨R_NS, "becomeIs", "(II)V"⟩
abbrev cw_NS_becomeIs : Cond := .code y_NS_becomeIs b_NS_becomeIs 4 none
abbrev b_CR_not : ByteArray := prog_1_method_6_code
def y_CR_not : MethodName := ⟨R_CR, "not", "()Z"⟩
abbrev cw_CR_not : Cond := .code y_CR_not b_CR_not 1 (some .boolean)
abbrev b_Te_negate : ByteArray := prog_6_method_3_code
def y_Te_negate : MethodName := ⟨R_Te, "negate", "()Z"⟩
abbrev cw_Te_negate : Cond := .code y_Te_negate b_Te_negate 1 (some .boolean)
abbrev b_NS_becomeNot : ByteArray := prog_3_method_9_code
def y_NS_becomeNot : MethodName := ⟨R_NS, "becomeNot", "()V"⟩
abbrev cw_NS_becomeNot : Cond := .code y_NS_becomeNot b_NS_becomeNot 2 none
abbrev b_CR_join : ByteArray := prog_1_method_7_code
def y_CR_join : MethodName := ⟨R_CR, "join", "(I)Z"⟩
abbrev cw_CR_join : Cond := .code y_CR_join b_CR_join 2 (some .boolean)
abbrev b_Te_combine : ByteArray := prog_6_method_4_code
def y_Te_combine : MethodName := ⟨R_Te, "combine", "(I)Z"⟩
abbrev cw_Te_combine : Cond := .code y_Te_combine b_Te_combine 3 (some .boolean)
abbrev b_JM_max : ByteArray := prog_11_method_65_code
def y_JM_max : MethodName := ⟨R_JM, "max", "(II)I"⟩
abbrev cw_JM_max : Cond := .code y_JM_max b_JM_max 2 (some .int)
abbrev b_Te_combineSets : ByteArray := prog_6_method_5_code
def y_Te_combineSets : MethodName := ⟨R_Te, "combineSets", "(ILCombinationRows$NumberSet;LCombinationRows$NumberSet;)V"⟩
abbrev cw_Te_combineSets : Cond := .code y_Te_combineSets b_Te_combineSets 3 none
abbrev b_NS_becomeAnd : ByteArray := prog_3_method_10_code
def y_NS_becomeAnd : MethodName := ⟨R_NS, "becomeAnd", "(LCombinationRows$NumberSet;)V"⟩
abbrev cw_NS_becomeAnd : Cond := .code y_NS_becomeAnd b_NS_becomeAnd 3 none
abbrev b_NS_becomeOr : ByteArray := prog_3_method_11_code
def y_NS_becomeOr : MethodName := ⟨R_NS, "becomeOr", "(LCombinationRows$NumberSet;)V"⟩
abbrev cw_NS_becomeOr : Cond := .code y_NS_becomeOr b_NS_becomeOr 3 none
abbrev b_CR_require : ByteArray := prog_1_method_8_code
def y_CR_require : MethodName := ⟨R_CR, "require", "()I"⟩
abbrev cw_CR_require : Cond := .code y_CR_require b_CR_require 1 (some .int)
abbrev b_Te_pop : ByteArray := prog_6_method_6_code
def y_Te_pop : MethodName := ⟨R_Te, "pop", "()LCombinationRows$NumberSet;"⟩
abbrev cw_Te_pop : Cond := .code y_Te_pop b_Te_pop 1 (some (.object "CombinationRows$NumberSet"))
abbrev b_Sp_addRule : ByteArray := prog_5_method_4_code
def y_Sp_addRule : MethodName := ⟨R_Sp, "addRule", "(LCombinationRows$NumberSet;)V"⟩
abbrev cw_Sp_addRule : Cond := .code y_Sp_addRule b_Sp_addRule 2 none
abbrev b_CR_seed : ByteArray := prog_1_method_9_code
def y_CR_seed : MethodName := ⟨R_CR, "seed", "(I)I"⟩
abbrev cw_CR_seed : Cond := .code y_CR_seed b_CR_seed 2 (some .int)
abbrev b_CR_begin : ByteArray := prog_1_method_10_code
def y_CR_begin : MethodName := ⟨R_CR, "begin", "()I"⟩
abbrev cw_CR_begin : Cond := .code y_CR_begin b_CR_begin 2 (some .int)
abbrev b_NS_isEmpty : ByteArray := prog_3_method_3_code
def y_NS_isEmpty : MethodName := ⟨R_NS, "isEmpty", "()Z"⟩
abbrev cw_NS_isEmpty : Cond := .code y_NS_isEmpty b_NS_isEmpty 1 (some .boolean)
abbrev b_NS_hasRowWith : ByteArray := prog_3_method_4_code
def y_NS_hasRowWith : MethodName := ⟨R_NS, "hasRowWith", "(II)Z"⟩
abbrev cw_NS_hasRowWith : Cond := .code y_NS_hasRowWith b_NS_hasRowWith 10 (some .boolean)
abbrev b_NS_inWordWith : ByteArray := prog_3_method_5_code
def y_NS_inWordWith : MethodName := ⟨R_NS, "inWordWith", "(II)J"⟩
abbrev cw_NS_inWordWith : Cond := .code y_NS_inWordWith b_NS_inWordWith 5 (some .long)
abbrev b_CR_nextWithin : ByteArray := prog_1_method_25_code
def y_CR_nextWithin : MethodName := ⟨R_CR, "nextWithin", "(II)I"⟩
abbrev cw_CR_nextWithin : Cond := .code y_CR_nextWithin b_CR_nextWithin 2 (some .int)
abbrev b_Ge_countGoals : ByteArray := prog_2_method_3_code
def y_Ge_countGoals : MethodName := ⟨R_Ge, "countGoals", "()I"⟩
abbrev cw_Ge_countGoals : Cond := .code y_Ge_countGoals b_Ge_countGoals 5 (some .int)
abbrev b_Re_askedWith : ByteArray := prog_4_method_3_code
def y_Re_askedWith : MethodName := ⟨R_Re, "askedWith", "(I)J"⟩
abbrev cw_Re_askedWith : Cond := .code y_Re_askedWith b_Re_askedWith 5 (some .long)
abbrev b_CR_fieldsOf : ByteArray := prog_1_method_23_code
def y_CR_fieldsOf : MethodName := ⟨R_CR, "fieldsOf", "(I)I"⟩
abbrev cw_CR_fieldsOf : Cond := .code y_CR_fieldsOf b_CR_fieldsOf 3 (some .int)
abbrev b_Ge_countGoalsOf : ByteArray := prog_2_method_4_code
def y_Ge_countGoalsOf : MethodName := ⟨R_Ge, "countGoalsOf", "(I)I"⟩
abbrev cw_Ge_countGoalsOf : Cond := .code y_Ge_countGoalsOf b_Ge_countGoalsOf 6 (some .int)
abbrev b_Ge_isGoal : ByteArray := prog_2_method_5_code
def y_Ge_isGoal : MethodName := ⟨R_Ge, "isGoal", "(II)Z"⟩
abbrev cw_Ge_isGoal : Cond := .code y_Ge_isGoal b_Ge_isGoal 4 (some .boolean)
abbrev b_Sp_invalidIn : ByteArray := prog_5_method_14_code
def y_Sp_invalidIn : MethodName := ⟨R_Sp, "invalidIn", "(II)I"⟩
abbrev cw_Sp_invalidIn : Cond := .code y_Sp_invalidIn b_Sp_invalidIn 5 (some .int)
abbrev b_Ge_start : ByteArray := prog_2_method_2_code
def y_Ge_start : MethodName := ⟨R_Ge, "start", "(I)V"⟩
abbrev cw_Ge_start : Cond := .code y_Ge_start b_Ge_start 4 none
abbrev b_Sp_numberLimit : ByteArray := prog_5_method_9_code
def y_Sp_numberLimit : MethodName := ⟨R_Sp, "numberLimit", "()I"⟩
abbrev cw_Sp_numberLimit : Cond := .code y_Sp_numberLimit b_Sp_numberLimit 1 (some .int)
abbrev b_Ge_setsCoveredBy : ByteArray := prog_2_method_6_code
def y_Ge_setsCoveredBy : MethodName := ⟨R_Ge, "setsCoveredBy", "(I)J"⟩
abbrev cw_Ge_setsCoveredBy : Cond := .code y_Ge_setsCoveredBy b_Ge_setsCoveredBy 2 (some .long)
abbrev b_NS_has : ByteArray := prog_3_method_2_code
def y_NS_has : MethodName := ⟨R_NS, "has", "(I)Z"⟩
abbrev cw_NS_has : Cond := .code y_NS_has b_NS_has 2 (some .boolean)
abbrev b_Sp_allFields : ByteArray := prog_5_method_10_code
def y_Sp_allFields : MethodName := ⟨R_Sp, "allFields", "()I"⟩
abbrev cw_Sp_allFields : Cond := .code y_Sp_allFields b_Sp_allFields 1 (some .int)
abbrev b_JL_bitCount : ByteArray := prog_10_method_50_code
def y_JL_bitCount : MethodName := ⟨R_JL, "bitCount", "(J)I"⟩
abbrev cw_JL_bitCount : Cond := .code y_JL_bitCount b_JL_bitCount 2 (some .int)
abbrev b_CR_takeSeeds : ByteArray := prog_1_method_11_code
def y_CR_takeSeeds : MethodName := ⟨R_CR, "takeSeeds", "()V"⟩
abbrev cw_CR_takeSeeds : Cond := .code y_CR_takeSeeds b_CR_takeSeeds 2 none
abbrev b_Sp_rank : ByteArray := prog_5_method_12_code
def y_Sp_rank : MethodName := ⟨R_Sp, "rank", "(I)I"⟩
abbrev cw_Sp_rank : Cond := .code y_Sp_rank b_Sp_rank 2 (some .int)
abbrev b_Sp_hasAllValues : ByteArray := prog_5_method_13_code
def y_Sp_hasAllValues : MethodName := ⟨R_Sp, "hasAllValues", "(I)Z"⟩
abbrev cw_Sp_hasAllValues : Cond := .code y_Sp_hasAllValues b_Sp_hasAllValues 3 (some .boolean)
abbrev b_Ge_take : ByteArray := prog_2_method_10_code
def y_Ge_take : MethodName := ⟨R_Ge, "take", "(I)V"⟩
abbrev cw_Ge_take : Cond := .code y_Ge_take b_Ge_take 7 none
abbrev b_Ge_cover : ByteArray := prog_2_method_11_code
def y_Ge_cover : MethodName := ⟨R_Ge, "cover", "(II)Z"⟩
abbrev cw_Ge_cover : Cond := .code y_Ge_cover b_Ge_cover 6 (some .boolean)
abbrev b_Ge_pack : ByteArray := prog_2_method_12_code
def y_Ge_pack : MethodName := ⟨R_Ge, "pack", "(II)I"⟩
abbrev cw_Ge_pack : Cond := .code y_Ge_pack b_Ge_pack 4 (some .int)
abbrev b_Ge_lowerGains : ByteArray := prog_2_method_13_code
def y_Ge_lowerGains : MethodName := ⟨R_Ge, "lowerGains", "(IILCombinationRows$NumberSet;)V"⟩
abbrev cw_Ge_lowerGains : Cond := .code y_Ge_lowerGains b_Ge_lowerGains 9 none
abbrev b_CR_next : ByteArray := prog_1_method_12_code
def y_CR_next : MethodName := ⟨R_CR, "next", "()I"⟩
abbrev cw_CR_next : Cond := .code y_CR_next b_CR_next 2 (some .int)
abbrev b_Ge_best : ByteArray := prog_2_method_8_code
def y_Ge_best : MethodName := ⟨R_Ge, "best", "()I"⟩
abbrev cw_Ge_best : Cond := .code y_Ge_best b_Ge_best 2 (some .int)
abbrev b_Ge_bestOf : ByteArray := prog_2_method_9_code
def y_Ge_bestOf : MethodName := ⟨R_Ge, "bestOf", "(LCombinationRows$NumberSet;)I"⟩
abbrev cw_Ge_bestOf : Cond := .code y_Ge_bestOf b_Ge_bestOf 6 (some .int)
abbrev b_Ge_isFull : ByteArray := prog_2_method_7_code
def y_Ge_isFull : MethodName := ⟨R_Ge, "isFull", "()Z"⟩
abbrev cw_Ge_isFull : Cond := .code y_Ge_isFull b_Ge_isFull 1 (some .boolean)
abbrev b_CR_end : ByteArray := prog_1_method_13_code
def y_CR_end : MethodName := ⟨R_CR, "end", "()Z"⟩
abbrev cw_CR_end : Cond := .code y_CR_end b_CR_end 2 (some .boolean)
abbrev b_CR_rows : ByteArray := prog_1_method_14_code
def y_CR_rows : MethodName := ⟨R_CR, "rows", "()I"⟩
abbrev cw_CR_rows : Cond := .code y_CR_rows b_CR_rows 1 (some .int)
abbrev b_CR_row : ByteArray := prog_1_method_15_code
def y_CR_row : MethodName := ⟨R_CR, "row", "(I)I"⟩
abbrev cw_CR_row : Cond := .code y_CR_row b_CR_row 2 (some .int)
abbrev b_CR_isTaken : ByteArray := prog_1_method_17_code
def y_CR_isTaken : MethodName := ⟨R_CR, "isTaken", "(I)Z"⟩
abbrev cw_CR_isTaken : Cond := .code y_CR_isTaken b_CR_isTaken 2 (some .boolean)
abbrev b_CR_gained : ByteArray := prog_1_method_16_code
def y_CR_gained : MethodName := ⟨R_CR, "gained", "(I)I"⟩
abbrev cw_CR_gained : Cond := .code y_CR_gained b_CR_gained 2 (some .int)
abbrev b_CR_left : ByteArray := prog_1_method_18_code
def y_CR_left : MethodName := ⟨R_CR, "left", "()I"⟩
abbrev cw_CR_left : Cond := .code y_CR_left b_CR_left 1 (some .int)
abbrev b_CR_gain : ByteArray := prog_1_method_19_code
def y_CR_gain : MethodName := ⟨R_CR, "gain", "(I)I"⟩
abbrev cw_CR_gain : Cond := .code y_CR_gain b_CR_gain 2 (some .int)
abbrev b_CR_kind : ByteArray := prog_1_method_20_code
def y_CR_kind : MethodName := ⟨R_CR, "kind", "(I)I"⟩
abbrev cw_CR_kind : Cond := .code y_CR_kind b_CR_kind 2 (some .int)
abbrev b_CR_extendable : ByteArray := prog_1_method_21_code
def y_CR_extendable : MethodName := ⟨R_CR, "extendable", "(I)I"⟩
abbrev cw_CR_extendable : Cond := .code y_CR_extendable b_CR_extendable 6 (some .int)
abbrev b_CR_forbidden : ByteArray := prog_1_method_22_code
def y_CR_forbidden : MethodName := ⟨R_CR, "forbidden", "(I)I"⟩
abbrev cw_CR_forbidden : Cond := .code y_CR_forbidden b_CR_forbidden 4 (some .int)
abbrev b_Sp_minimalForbidden : ByteArray := prog_5_method_15_code
def y_Sp_minimalForbidden : MethodName := ⟨R_Sp, "minimalForbidden", "(I)I"⟩
abbrev cw_Sp_minimalForbidden : Cond := .code y_Sp_minimalForbidden b_Sp_minimalForbidden 6 (some .int)
abbrev b_Sp_isMinimalForbidden : ByteArray := prog_5_method_16_code
def y_Sp_isMinimalForbidden : MethodName := ⟨R_Sp, "isMinimalForbidden", "(II)Z"⟩
abbrev cw_Sp_isMinimalForbidden : Cond := .code y_Sp_isMinimalForbidden b_Sp_isMinimalForbidden 5 (some .boolean)
abbrev b_Mo_init : ByteArray := prog_8_method_1_code
def y_Mo_init : MethodName := ⟨R_Mo, "<init>", "()V"⟩
abbrev cw_Mo_init : Cond := .code y_Mo_init b_Mo_init 1 none
abbrev b_Mo_parameter : ByteArray := prog_8_method_2_code
def y_Mo_parameter : MethodName := ⟨R_Mo, "parameter", "(I)I"⟩
abbrev cw_Mo_parameter : Cond := .code y_Mo_parameter b_Mo_parameter 2 (some .int)
abbrev b_Mo_invalid : ByteArray := prog_8_method_4_code
def y_Mo_invalid : MethodName := ⟨R_Mo, "invalid", "(II)Z"⟩
abbrev cw_Mo_invalid : Cond := .code y_Mo_invalid b_Mo_invalid 3 (some .boolean)
abbrev b_Mo_noValue : ByteArray := prog_8_method_3_code
def y_Mo_noValue : MethodName := ⟨R_Mo, "noValue", "(II)Z"⟩
abbrev cw_Mo_noValue : Cond := .code y_Mo_noValue b_Mo_noValue 3 (some .boolean)
abbrev b_Mo_relation : ByteArray := prog_8_method_6_code
def y_Mo_relation : MethodName := ⟨R_Mo, "relation", "(II)I"⟩
abbrev cw_Mo_relation : Cond := .code y_Mo_relation b_Mo_relation 3 (some .int)
abbrev b_Mo_size : ByteArray := prog_8_method_5_code
def y_Mo_size : MethodName := ⟨R_Mo, "size", "(I)I"⟩
abbrev cw_Mo_size : Cond := .code y_Mo_size b_Mo_size 4 (some .int)
abbrev b_Mo_is : ByteArray := prog_8_method_8_code
def y_Mo_is : MethodName := ⟨R_Mo, "is", "(II)Z"⟩
abbrev cw_Mo_is : Cond := .code y_Mo_is b_Mo_is 3 (some .boolean)
abbrev b_Mo_push : ByteArray := prog_8_method_7_code
def y_Mo_push : MethodName := ⟨R_Mo, "push", "(IIII)Z"⟩
abbrev cw_Mo_push : Cond := .code y_Mo_push b_Mo_push 5 (some .boolean)
abbrev b_Mo_not : ByteArray := prog_8_method_9_code
def y_Mo_not : MethodName := ⟨R_Mo, "not", "()Z"⟩
abbrev cw_Mo_not : Cond := .code y_Mo_not b_Mo_not 2 (some .boolean)
abbrev b_Mo_join : ByteArray := prog_8_method_10_code
def y_Mo_join : MethodName := ⟨R_Mo, "join", "(I)Z"⟩
abbrev cw_Mo_join : Cond := .code y_Mo_join b_Mo_join 5 (some .boolean)
abbrev b_Mo_require : ByteArray := prog_8_method_11_code
def y_Mo_require : MethodName := ⟨R_Mo, "require", "()I"⟩
abbrev cw_Mo_require : Cond := .code y_Mo_require b_Mo_require 1 (some .int)
abbrev b_Mo_seed : ByteArray := prog_8_method_12_code
def y_Mo_seed : MethodName := ⟨R_Mo, "seed", "(I)I"⟩
abbrev cw_Mo_seed : Cond := .code y_Mo_seed b_Mo_seed 2 (some .int)
abbrev b_Mo_begin : ByteArray := prog_8_method_19_code
def y_Mo_begin : MethodName := ⟨R_Mo, "begin", "()I"⟩
abbrev cw_Mo_begin : Cond := .code y_Mo_begin b_Mo_begin 4 (some .int)
abbrev b_Mo_look : ByteArray := prog_8_method_16_code
def y_Mo_look : MethodName := ⟨R_Mo, "look", "()V"⟩
abbrev cw_Mo_look : Cond := .code y_Mo_look b_Mo_look 4 none
abbrev b_Mo_judge : ByteArray := prog_8_method_14_code
def y_Mo_judge : MethodName := ⟨R_Mo, "judge", "(I)I"⟩
abbrev cw_Mo_judge : Cond := .code y_Mo_judge b_Mo_judge 5 (some .int)
abbrev b_Mo_meets : ByteArray := prog_8_method_13_code
def y_Mo_meets : MethodName := ⟨R_Mo, "meets", "(I)Z"⟩
abbrev cw_Mo_meets : Cond := .code y_Mo_meets b_Mo_meets 5 (some .boolean)
abbrev b_Mo_place : ByteArray := prog_8_method_15_code
def y_Mo_place : MethodName := ⟨R_Mo, "place", "(II)I"⟩
abbrev cw_Mo_place : Cond := .code y_Mo_place b_Mo_place 6 (some .int)
abbrev b_Mo_asked : ByteArray := prog_8_method_18_code
def y_Mo_asked : MethodName := ⟨R_Mo, "asked", "(I)Z"⟩
abbrev cw_Mo_asked : Cond := .code y_Mo_asked b_Mo_asked 4 (some .boolean)
abbrev b_Mo_wrong : ByteArray := prog_8_method_17_code
def y_Mo_wrong : MethodName := ⟨R_Mo, "wrong", "(I)I"⟩
abbrev cw_Mo_wrong : Cond := .code y_Mo_wrong b_Mo_wrong 7 (some .int)
abbrev b_Mo_take : ByteArray := prog_8_method_21_code
def y_Mo_take : MethodName := ⟨R_Mo, "take", "(I)V"⟩
abbrev cw_Mo_take : Cond := .code y_Mo_take b_Mo_take 2 none
abbrev b_Mo_count : ByteArray := prog_8_method_20_code
def y_Mo_count : MethodName := ⟨R_Mo, "count", "(IZ)I"⟩
abbrev cw_Mo_count : Cond := .code y_Mo_count b_Mo_count 7 (some .int)
abbrev b_Mo_next : ByteArray := prog_8_method_22_code
def y_Mo_next : MethodName := ⟨R_Mo, "next", "()I"⟩
abbrev cw_Mo_next : Cond := .code y_Mo_next b_Mo_next 6 (some .int)
abbrev b_Mo_end : ByteArray := prog_8_method_23_code
def y_Mo_end : MethodName := ⟨R_Mo, "end", "()Z"⟩
abbrev cw_Mo_end : Cond := .code y_Mo_end b_Mo_end 2 (some .boolean)
abbrev b_Mo_rows : ByteArray := prog_8_method_24_code
def y_Mo_rows : MethodName := ⟨R_Mo, "rows", "()I"⟩
abbrev cw_Mo_rows : Cond := .code y_Mo_rows b_Mo_rows 1 (some .int)
abbrev b_Mo_row : ByteArray := prog_8_method_26_code
def y_Mo_row : MethodName := ⟨R_Mo, "row", "(I)I"⟩
abbrev cw_Mo_row : Cond := .code y_Mo_row b_Mo_row 2 (some .int)
abbrev b_Mo_noRow : ByteArray := prog_8_method_25_code
def y_Mo_noRow : MethodName := ⟨R_Mo, "noRow", "(I)Z"⟩
abbrev cw_Mo_noRow : Cond := .code y_Mo_noRow b_Mo_noRow 2 (some .boolean)
abbrev b_Mo_gained : ByteArray := prog_8_method_27_code
def y_Mo_gained : MethodName := ⟨R_Mo, "gained", "(I)I"⟩
abbrev cw_Mo_gained : Cond := .code y_Mo_gained b_Mo_gained 2 (some .int)
abbrev b_Mo_left : ByteArray := prog_8_method_28_code
def y_Mo_left : MethodName := ⟨R_Mo, "left", "()I"⟩
abbrev cw_Mo_left : Cond := .code y_Mo_left b_Mo_left 1 (some .int)
abbrev b_Mo_gain : ByteArray := prog_8_method_29_code
def y_Mo_gain : MethodName := ⟨R_Mo, "gain", "(I)I"⟩
abbrev cw_Mo_gain : Cond := .code y_Mo_gain b_Mo_gain 2 (some .int)
abbrev b_Mo_kind : ByteArray := prog_8_method_30_code
def y_Mo_kind : MethodName := ⟨R_Mo, "kind", "(I)I"⟩
abbrev cw_Mo_kind : Cond := .code y_Mo_kind b_Mo_kind 2 (some .int)
abbrev b_Mo_extendable : ByteArray := prog_8_method_31_code
def y_Mo_extendable : MethodName := ⟨R_Mo, "extendable", "(I)I"⟩
abbrev cw_Mo_extendable : Cond := .code y_Mo_extendable b_Mo_extendable 7 (some .int)
abbrev b_Mo_forbidden : ByteArray := prog_8_method_33_code
def y_Mo_forbidden : MethodName := ⟨R_Mo, "forbidden", "(I)I"⟩
abbrev cw_Mo_forbidden : Cond := .code y_Mo_forbidden b_Mo_forbidden 5 (some .int)
abbrev b_Mo_least : ByteArray := prog_8_method_32_code
def y_Mo_least : MethodName := ⟨R_Mo, "least", "(I)Z"⟩
abbrev cw_Mo_least : Cond := .code y_Mo_least b_Mo_least 8 (some .boolean)
def gW : List Cond := lw_tbl.filter goodWord
theorem gW_good {w : Cond} (h : w ∈ gW) : w ∈ lw_tbl ∧ goodWord w = true := List.mem_filter.mp h
theorem gG : GoodIn gW gW := fun _ h => ⟨h, good_of_word (gW_good h).2⟩
theorem gcons {w : Cond} {ws : List Cond} (h : w ∈ gW) (k : GoodIn gW ws) : GoodIn gW (w :: ws) := fun x hx => (List.mem_cons.mp hx).elim (fun e => e ▸ ⟨h, good_of_word (gW_good h).2⟩) (k x)
theorem gmT {w : Cond} (i : Nat) (h : tables_1[i]? = some w) (hg : goodWord w = true) : w ∈ gW := List.mem_filter.mpr ⟨List.mem_append_right _ (List.mem_of_getElem? h), hg⟩
theorem gmS {w : Cond} (i : Nat) (h : (k2_sels lw_privs)[i]? = some w) (hg : goodWord w = true) : w ∈ gW := List.mem_filter.mpr ⟨List.mem_append_left _ (List.mem_of_getElem? h), hg⟩
theorem m_0 : Cond.initialized R_La ∈ gW := gmT 0 (by decide +kernel) (by decide +kernel)
theorem m_1 : Cond.initialized R_CR ∈ gW := gmT 1 (by decide +kernel) (by decide +kernel)
theorem m_2 : Cond.initialized R_Sp ∈ gW := gmT 2 (by decide +kernel) (by decide +kernel)
theorem m_3 : Cond.initialized R_NS ∈ gW := gmT 3 (by decide +kernel) (by decide +kernel)
theorem m_4 : Cond.initialized R_JA ∈ gW := gmT 4 (by decide +kernel) (by decide +kernel)
theorem m_5 : Cond.initialized R_Re ∈ gW := gmT 5 (by decide +kernel) (by decide +kernel)
theorem m_6 : Cond.initialized R_Te ∈ gW := gmT 6 (by decide +kernel) (by decide +kernel)
theorem m_7 : Cond.initialized R_Ge ∈ gW := gmT 7 (by decide +kernel) (by decide +kernel)
theorem m_8 : Cond.initialized R_Mo ∈ gW := gmT 8 (by decide +kernel) (by decide +kernel)
theorem m_9 : Cond.initialized R_JI ∈ gW := gmT 9 (by decide +kernel) (by decide +kernel)
theorem m_10 : Cond.initialized R_JM ∈ gW := gmT 10 (by decide +kernel) (by decide +kernel)
theorem m_11 : Cond.initialized R_JL ∈ gW := gmT 11 (by decide +kernel) (by decide +kernel)
theorem m_12 : Cond.classLink R_La 7 R_CR ∈ gW := gmT 12 (by decide +kernel) (by decide +kernel)
theorem m_13 : Cond.instantiable R_CR 7 ∈ gW := gmT 13 (by decide +kernel) (by decide +kernel)
theorem m_14 : Cond.methodLink R_La 9 y_CR_init ∈ gW := gmT 14 (by decide +kernel) (by decide +kernel)
theorem m_15 : Cond.instanceMethod y_CR_init ∈ gW := gmT 15 (by decide +kernel) (by decide +kernel)
theorem m_16 : Cond.code y_CR_init b_CR_init 1 none ∈ gW := gmT 16 (by decide +kernel) (by decide +kernel)
theorem m_17 : Cond.methodLink R_CR 3 objectInit ∈ gW := gmT 17 (by decide +kernel) (by decide +kernel)
theorem m_18 : Cond.instanceMethod objectInit ∈ gW := gmT 18 (by decide +kernel) (by decide +kernel)
theorem m_19 : Cond.code objectInit ⟨#[0xb1]⟩ 1 none ∈ gW := gmT 19 (by decide +kernel) (by decide +kernel)
theorem m_20 : Cond.classLink R_CR 9 R_Sp ∈ gW := gmT 20 (by decide +kernel) (by decide +kernel)
theorem m_21 : Cond.instantiable R_Sp 7 ∈ gW := gmT 21 (by decide +kernel) (by decide +kernel)
theorem m_22 : Cond.methodLink R_CR 11 y_Sp_init ∈ gW := gmT 22 (by decide +kernel) (by decide +kernel)
theorem m_23 : Cond.instanceMethod y_Sp_init ∈ gW := gmT 23 (by decide +kernel) (by decide +kernel)
theorem m_24 : Cond.code y_Sp_init b_Sp_init 1 none ∈ gW := gmT 24 (by decide +kernel) (by decide +kernel)
theorem m_25 : Cond.methodLink R_Sp 3 objectInit ∈ gW := gmT 25 (by decide +kernel) (by decide +kernel)
theorem m_26 : Cond.classLink R_Sp 18 R_NS ∈ gW := gmT 26 (by decide +kernel) (by decide +kernel)
theorem m_27 : Cond.instantiable R_NS 1 ∈ gW := gmT 27 (by decide +kernel) (by decide +kernel)
theorem m_29 : Cond.instanceMethod y_NS_init ∈ gW := gmT 29 (by decide +kernel) (by decide +kernel)
theorem m_30 : Cond.code y_NS_init b_NS_init 1 none ∈ gW := gmT 30 (by decide +kernel) (by decide +kernel)
theorem m_31 : Cond.methodLink R_NS 3 objectInit ∈ gW := gmT 31 (by decide +kernel) (by decide +kernel)
theorem m_32 : Cond.fieldLink R_NS 9 "CombinationRows$NumberSet" "words" "[J" ∈ gW := gmT 32 (by decide +kernel) (by decide +kernel)
theorem m_33 : Cond.fieldLink R_Sp 54 "CombinationRows$NumberSet" "words" "[J" ∈ gW := gmT 33 (by decide +kernel) (by decide +kernel)
theorem m_37 : Cond.arrayClass .int ∈ gW := gmT 37 (by decide +kernel) (by decide +kernel)
theorem m_38 : Cond.arrayClass .long ∈ gW := gmT 38 (by decide +kernel) (by decide +kernel)
theorem m_39 : Cond.methodLink R_Sp 31 y_JA_fillI ∈ gW := gmT 39 (by decide +kernel) (by decide +kernel)
theorem m_40 : Cond.static y_JA_fillI ∈ gW := gmT 40 (by decide +kernel) (by decide +kernel)
theorem m_41 : Cond.code y_JA_fillI b_JA_fillI 4 none ∈ gW := gmT 41 (by decide +kernel) (by decide +kernel)
theorem m_42 : Cond.methodLink R_Sp 37 y_NS_becomeAll ∈ gW := gmT 42 (by decide +kernel) (by decide +kernel)
theorem m_43 : Cond.instanceMethod y_NS_becomeAll ∈ gW := gmT 43 (by decide +kernel) (by decide +kernel)
theorem m_44 : Cond.selects R_NS y_NS_becomeAll y_NS_becomeAll ∈ gW := gmT 44 (by decide +kernel) (by decide +kernel)
theorem m_45 : Cond.code y_NS_becomeAll b_NS_becomeAll 1 none ∈ gW := gmT 45 (by decide +kernel) (by decide +kernel)
theorem m_46 : Cond.constantLong R_NS 33 (-1) ∈ gW := gmT 46 (by decide +kernel) (by decide +kernel)
theorem m_47 : Cond.methodLink R_NS 45 y_JA_fillL ∈ gW := gmT 47 (by decide +kernel) (by decide +kernel)
theorem m_48 : Cond.static y_JA_fillL ∈ gW := gmT 48 (by decide +kernel) (by decide +kernel)
theorem m_49 : Cond.code y_JA_fillL b_JA_fillL 5 none ∈ gW := gmT 49 (by decide +kernel) (by decide +kernel)
theorem m_50 : Cond.methodLink R_Sp 40 y_Sp_sortRows ∈ gW := gmT 50 (by decide +kernel) (by decide +kernel)
theorem m_52 : Cond.instanceMethod y_Sp_sortRows ∈ gW := gmT 52 (by decide +kernel) (by decide +kernel)
theorem m_53 : Cond.code y_Sp_sortRows b_Sp_sortRows 11 none ∈ gW := gmT 53 (by decide +kernel) (by decide +kernel)
theorem m_54 : Cond.methodLink R_Sp 58 y_Sp_wordWith ∈ gW := gmT 54 (by decide +kernel) (by decide +kernel)
theorem m_56 : Cond.instanceMethod y_Sp_wordWith ∈ gW := gmT 56 (by decide +kernel) (by decide +kernel)
theorem m_57 : Cond.code y_Sp_wordWith b_Sp_wordWith 7 (some .long) ∈ gW := gmT 57 (by decide +kernel) (by decide +kernel)
theorem m_58 : Cond.methodLink R_Sp 62 y_NS_wordOf ∈ gW := gmT 58 (by decide +kernel) (by decide +kernel)
theorem m_59 : Cond.static y_NS_wordOf ∈ gW := gmT 59 (by decide +kernel) (by decide +kernel)
theorem m_60 : Cond.code y_NS_wordOf b_NS_wordOf 3 (some .long) ∈ gW := gmT 60 (by decide +kernel) (by decide +kernel)
theorem m_64 : Cond.static y_CR_valueOf ∈ gW := gmT 64 (by decide +kernel) (by decide +kernel)
theorem m_65 : Cond.code y_CR_valueOf b_CR_valueOf 2 (some .int) ∈ gW := gmT 65 (by decide +kernel) (by decide +kernel)
theorem m_66 : Cond.fieldLink R_Sp 9 "CombinationRows$Space" "values" "[I" ∈ gW := gmT 66 (by decide +kernel) (by decide +kernel)
theorem m_67 : Cond.fieldLink R_Sp 15 "CombinationRows$Space" "invalidValues" "[I" ∈ gW := gmT 67 (by decide +kernel) (by decide +kernel)
theorem m_68 : Cond.fieldLink R_Sp 21 "CombinationRows$Space" "meetingRules" "LCombinationRows$NumberSet;" ∈ gW := gmT 68 (by decide +kernel) (by decide +kernel)
theorem m_69 : Cond.fieldLink R_Sp 25 "CombinationRows$Space" "valid" "LCombinationRows$NumberSet;" ∈ gW := gmT 69 (by decide +kernel) (by decide +kernel)
theorem m_70 : Cond.fieldLink R_Ge 89 "CombinationRows$Space" "valid" "LCombinationRows$NumberSet;" ∈ gW := gmT 70 (by decide +kernel) (by decide +kernel)
theorem m_71 : Cond.fieldLink R_CR 107 "CombinationRows$Space" "valid" "LCombinationRows$NumberSet;" ∈ gW := gmT 71 (by decide +kernel) (by decide +kernel)
theorem m_72 : Cond.fieldLink R_Sp 28 "CombinationRows$Space" "negative" "LCombinationRows$NumberSet;" ∈ gW := gmT 72 (by decide +kernel) (by decide +kernel)
theorem m_73 : Cond.fieldLink R_Ge 98 "CombinationRows$Space" "negative" "LCombinationRows$NumberSet;" ∈ gW := gmT 73 (by decide +kernel) (by decide +kernel)
theorem m_74 : Cond.fieldLink R_CR 159 "CombinationRows$Space" "negative" "LCombinationRows$NumberSet;" ∈ gW := gmT 74 (by decide +kernel) (by decide +kernel)
theorem m_75 : Cond.fieldLink R_Sp 43 "CombinationRows$Space" "parameters" "I" ∈ gW := gmT 75 (by decide +kernel) (by decide +kernel)
theorem m_76 : Cond.fieldLink R_CR 47 "CombinationRows$Space" "parameters" "I" ∈ gW := gmT 76 (by decide +kernel) (by decide +kernel)
theorem m_77 : Cond.fieldLink R_Sp 51 "CombinationRows$Space" "rules" "I" ∈ gW := gmT 77 (by decide +kernel) (by decide +kernel)
theorem m_78 : Cond.fieldLink R_CR 93 "CombinationRows$Space" "rules" "I" ∈ gW := gmT 78 (by decide +kernel) (by decide +kernel)
theorem m_94 : Cond.classLink R_CR 16 R_Re ∈ gW := gmT 94 (by decide +kernel) (by decide +kernel)
theorem m_95 : Cond.instantiable R_Re 2 ∈ gW := gmT 95 (by decide +kernel) (by decide +kernel)
theorem m_97 : Cond.instanceMethod y_Re_init ∈ gW := gmT 97 (by decide +kernel) (by decide +kernel)
theorem m_98 : Cond.code y_Re_init b_Re_init 1 none ∈ gW := gmT 98 (by decide +kernel) (by decide +kernel)
theorem m_99 : Cond.methodLink R_Re 3 objectInit ∈ gW := gmT 99 (by decide +kernel) (by decide +kernel)
theorem m_100 : Cond.fieldLink R_Re 15 "CombinationRows$Relations" "asked" "J" ∈ gW := gmT 100 (by decide +kernel) (by decide +kernel)
theorem m_101 : Cond.fieldLink R_Re 21 "CombinationRows$Relations" "count" "I" ∈ gW := gmT 101 (by decide +kernel) (by decide +kernel)
theorem m_102 : Cond.fieldLink R_CR 76 "CombinationRows$Relations" "count" "I" ∈ gW := gmT 102 (by decide +kernel) (by decide +kernel)
theorem m_108 : Cond.classLink R_CR 23 R_Te ∈ gW := gmT 108 (by decide +kernel) (by decide +kernel)
theorem m_109 : Cond.instantiable R_Te 3 ∈ gW := gmT 109 (by decide +kernel) (by decide +kernel)
theorem m_110 : Cond.methodLink R_CR 25 y_Te_init ∈ gW := gmT 110 (by decide +kernel) (by decide +kernel)
theorem m_111 : Cond.instanceMethod y_Te_init ∈ gW := gmT 111 (by decide +kernel) (by decide +kernel)
theorem m_112 : Cond.code y_Te_init b_Te_init 2 none ∈ gW := gmT 112 (by decide +kernel) (by decide +kernel)
theorem m_113 : Cond.methodLink R_Te 3 objectInit ∈ gW := gmT 113 (by decide +kernel) (by decide +kernel)
theorem m_114 : Cond.classLink R_Te 9 R_NS ∈ gW := gmT 114 (by decide +kernel) (by decide +kernel)
theorem m_117 : Cond.fieldLink R_Te 11 "CombinationRows$Terms" "meeting" "[LCombinationRows$NumberSet;" ∈ gW := gmT 117 (by decide +kernel) (by decide +kernel)
theorem m_118 : Cond.fieldLink R_Te 17 "CombinationRows$Terms" "depths" "[I" ∈ gW := gmT 118 (by decide +kernel) (by decide +kernel)
theorem m_119 : Cond.fieldLink R_Te 22 "CombinationRows$Terms" "count" "I" ∈ gW := gmT 119 (by decide +kernel) (by decide +kernel)
theorem m_120 : Cond.fieldLink R_CR 92 "CombinationRows$Terms" "count" "I" ∈ gW := gmT 120 (by decide +kernel) (by decide +kernel)
theorem m_128 : Cond.classLink R_CR 34 R_Ge ∈ gW := gmT 128 (by decide +kernel) (by decide +kernel)
theorem m_129 : Cond.instantiable R_Ge 8 ∈ gW := gmT 129 (by decide +kernel) (by decide +kernel)
theorem m_130 : Cond.methodLink R_CR 36 y_Ge_init ∈ gW := gmT 130 (by decide +kernel) (by decide +kernel)
theorem m_131 : Cond.instanceMethod y_Ge_init ∈ gW := gmT 131 (by decide +kernel) (by decide +kernel)
theorem m_132 : Cond.code y_Ge_init b_Ge_init 3 none ∈ gW := gmT 132 (by decide +kernel) (by decide +kernel)
theorem m_133 : Cond.methodLink R_Ge 3 objectInit ∈ gW := gmT 133 (by decide +kernel) (by decide +kernel)
theorem m_134 : Cond.fieldLink R_Ge 25 "CombinationRows$Generation" "space" "LCombinationRows$Space;" ∈ gW := gmT 134 (by decide +kernel) (by decide +kernel)
theorem m_135 : Cond.fieldLink R_Ge 29 "CombinationRows$Generation" "relations" "LCombinationRows$Relations;" ∈ gW := gmT 135 (by decide +kernel) (by decide +kernel)
theorem m_136 : Cond.fieldLink R_Ge 9 "CombinationRows$Generation" "covered" "[J" ∈ gW := gmT 136 (by decide +kernel) (by decide +kernel)
theorem m_137 : Cond.fieldLink R_Ge 15 "CombinationRows$Generation" "gains" "[I" ∈ gW := gmT 137 (by decide +kernel) (by decide +kernel)
theorem m_138 : Cond.fieldLink R_CR 153 "CombinationRows$Generation" "gains" "[I" ∈ gW := gmT 138 (by decide +kernel) (by decide +kernel)
theorem m_139 : Cond.fieldLink R_Ge 19 "CombinationRows$Generation" "numbers" "[I" ∈ gW := gmT 139 (by decide +kernel) (by decide +kernel)
theorem m_140 : Cond.fieldLink R_CR 144 "CombinationRows$Generation" "numbers" "[I" ∈ gW := gmT 140 (by decide +kernel) (by decide +kernel)
theorem m_141 : Cond.fieldLink R_Ge 22 "CombinationRows$Generation" "gainsTaken" "[I" ∈ gW := gmT 141 (by decide +kernel) (by decide +kernel)
theorem m_142 : Cond.fieldLink R_CR 147 "CombinationRows$Generation" "gainsTaken" "[I" ∈ gW := gmT 142 (by decide +kernel) (by decide +kernel)
theorem m_143 : Cond.fieldLink R_Ge 39 "CombinationRows$Generation" "taken" "I" ∈ gW := gmT 143 (by decide +kernel) (by decide +kernel)
theorem m_144 : Cond.fieldLink R_CR 138 "CombinationRows$Generation" "taken" "I" ∈ gW := gmT 144 (by decide +kernel) (by decide +kernel)
theorem m_145 : Cond.fieldLink R_Ge 43 "CombinationRows$Generation" "goalsLeft" "I" ∈ gW := gmT 145 (by decide +kernel) (by decide +kernel)
theorem m_146 : Cond.fieldLink R_CR 150 "CombinationRows$Generation" "goalsLeft" "I" ∈ gW := gmT 146 (by decide +kernel) (by decide +kernel)
theorem m_164 : Cond.fieldLink R_CR 12 "CombinationRows" "space" "LCombinationRows$Space;" ∈ gW := gmT 164 (by decide +kernel) (by decide +kernel)
theorem m_165 : Cond.fieldLink R_CR 19 "CombinationRows" "relations" "LCombinationRows$Relations;" ∈ gW := gmT 165 (by decide +kernel) (by decide +kernel)
theorem m_166 : Cond.fieldLink R_CR 26 "CombinationRows" "terms" "LCombinationRows$Terms;" ∈ gW := gmT 166 (by decide +kernel) (by decide +kernel)
theorem m_167 : Cond.fieldLink R_CR 30 "CombinationRows" "seeds" "[I" ∈ gW := gmT 167 (by decide +kernel) (by decide +kernel)
theorem m_168 : Cond.fieldLink R_CR 39 "CombinationRows" "generation" "LCombinationRows$Generation;" ∈ gW := gmT 168 (by decide +kernel) (by decide +kernel)
theorem m_169 : Cond.fieldLink R_CR 104 "CombinationRows" "seedCount" "I" ∈ gW := gmT 169 (by decide +kernel) (by decide +kernel)
theorem m_170 : Cond.fieldLink R_CR 43 "CombinationRows" "underWay" "Z" ∈ gW := gmT 170 (by decide +kernel) (by decide +kernel)
theorem m_186 : Cond.methodLink R_La 13 y_CR_parameter ∈ gW := gmT 186 (by decide +kernel) (by decide +kernel)
theorem m_187 : Cond.instanceMethod y_CR_parameter ∈ gW := gmT 187 (by decide +kernel) (by decide +kernel)
theorem m_188 : Cond.selects R_CR y_CR_parameter y_CR_parameter ∈ gW := gmT 188 (by decide +kernel) (by decide +kernel)
theorem m_189 : Cond.code y_CR_parameter b_CR_parameter 2 (some .int) ∈ gW := gmT 189 (by decide +kernel) (by decide +kernel)
theorem m_190 : Cond.methodLink R_CR 51 y_Sp_addParameter ∈ gW := gmT 190 (by decide +kernel) (by decide +kernel)
theorem m_191 : Cond.instanceMethod y_Sp_addParameter ∈ gW := gmT 191 (by decide +kernel) (by decide +kernel)
theorem m_192 : Cond.selects R_Sp y_Sp_addParameter y_Sp_addParameter ∈ gW := gmT 192 (by decide +kernel) (by decide +kernel)
theorem m_193 : Cond.code y_Sp_addParameter b_Sp_addParameter 2 none ∈ gW := gmT 193 (by decide +kernel) (by decide +kernel)
theorem m_194 : Cond.methodLink R_La 18 y_CR_invalid ∈ gW := gmT 194 (by decide +kernel) (by decide +kernel)
theorem m_195 : Cond.instanceMethod y_CR_invalid ∈ gW := gmT 195 (by decide +kernel) (by decide +kernel)
theorem m_196 : Cond.selects R_CR y_CR_invalid y_CR_invalid ∈ gW := gmT 196 (by decide +kernel) (by decide +kernel)
theorem m_197 : Cond.code y_CR_invalid b_CR_invalid 3 (some .boolean) ∈ gW := gmT 197 (by decide +kernel) (by decide +kernel)
theorem m_198 : Cond.methodLink R_CR 55 y_Sp_hasValue ∈ gW := gmT 198 (by decide +kernel) (by decide +kernel)
theorem m_199 : Cond.instanceMethod y_Sp_hasValue ∈ gW := gmT 199 (by decide +kernel) (by decide +kernel)
theorem m_200 : Cond.selects R_Sp y_Sp_hasValue y_Sp_hasValue ∈ gW := gmT 200 (by decide +kernel) (by decide +kernel)
theorem m_201 : Cond.code y_Sp_hasValue b_Sp_hasValue 3 (some .boolean) ∈ gW := gmT 201 (by decide +kernel) (by decide +kernel)
theorem m_202 : Cond.methodLink R_CR 59 y_Sp_isInvalid ∈ gW := gmT 202 (by decide +kernel) (by decide +kernel)
theorem m_203 : Cond.instanceMethod y_Sp_isInvalid ∈ gW := gmT 203 (by decide +kernel) (by decide +kernel)
theorem m_204 : Cond.selects R_Sp y_Sp_isInvalid y_Sp_isInvalid ∈ gW := gmT 204 (by decide +kernel) (by decide +kernel)
theorem m_205 : Cond.code y_Sp_isInvalid b_Sp_isInvalid 3 (some .boolean) ∈ gW := gmT 205 (by decide +kernel) (by decide +kernel)
theorem m_206 : Cond.methodLink R_CR 62 y_Sp_makeInvalid ∈ gW := gmT 206 (by decide +kernel) (by decide +kernel)
theorem m_207 : Cond.instanceMethod y_Sp_makeInvalid ∈ gW := gmT 207 (by decide +kernel) (by decide +kernel)
theorem m_208 : Cond.selects R_Sp y_Sp_makeInvalid y_Sp_makeInvalid ∈ gW := gmT 208 (by decide +kernel) (by decide +kernel)
theorem m_209 : Cond.code y_Sp_makeInvalid b_Sp_makeInvalid 3 none ∈ gW := gmT 209 (by decide +kernel) (by decide +kernel)
theorem m_210 : Cond.methodLink R_La 23 y_CR_relation ∈ gW := gmT 210 (by decide +kernel) (by decide +kernel)
theorem m_211 : Cond.instanceMethod y_CR_relation ∈ gW := gmT 211 (by decide +kernel) (by decide +kernel)
theorem m_212 : Cond.selects R_CR y_CR_relation y_CR_relation ∈ gW := gmT 212 (by decide +kernel) (by decide +kernel)
theorem m_213 : Cond.code y_CR_relation b_CR_relation 3 (some .int) ∈ gW := gmT 213 (by decide +kernel) (by decide +kernel)
theorem m_214 : Cond.methodLink R_CR 66 y_Sp_isSet ∈ gW := gmT 214 (by decide +kernel) (by decide +kernel)
theorem m_215 : Cond.instanceMethod y_Sp_isSet ∈ gW := gmT 215 (by decide +kernel) (by decide +kernel)
theorem m_216 : Cond.selects R_Sp y_Sp_isSet y_Sp_isSet ∈ gW := gmT 216 (by decide +kernel) (by decide +kernel)
theorem m_217 : Cond.code y_Sp_isSet b_Sp_isSet 2 (some .boolean) ∈ gW := gmT 217 (by decide +kernel) (by decide +kernel)
theorem m_218 : Cond.methodLink R_CR 70 y_JI_bitCount ∈ gW := gmT 218 (by decide +kernel) (by decide +kernel)
theorem m_219 : Cond.static y_JI_bitCount ∈ gW := gmT 219 (by decide +kernel) (by decide +kernel)
theorem m_220 : Cond.code y_JI_bitCount b_JI_bitCount 1 (some .int) ∈ gW := gmT 220 (by decide +kernel) (by decide +kernel)
theorem m_221 : Cond.constant R_JI 265 1431655765 ∈ gW := gmT 221 (by decide +kernel) (by decide +kernel)
theorem m_222 : Cond.constant R_JI 266 858993459 ∈ gW := gmT 222 (by decide +kernel) (by decide +kernel)
theorem m_223 : Cond.constant R_JI 267 252645135 ∈ gW := gmT 223 (by decide +kernel) (by decide +kernel)
theorem m_224 : Cond.methodLink R_CR 79 y_Re_add ∈ gW := gmT 224 (by decide +kernel) (by decide +kernel)
theorem m_225 : Cond.instanceMethod y_Re_add ∈ gW := gmT 225 (by decide +kernel) (by decide +kernel)
theorem m_226 : Cond.selects R_Re y_Re_add y_Re_add ∈ gW := gmT 226 (by decide +kernel) (by decide +kernel)
theorem m_227 : Cond.code y_Re_add b_Re_add 4 none ∈ gW := gmT 227 (by decide +kernel) (by decide +kernel)
theorem m_228 : Cond.methodLink R_Re 9 y_JI_bitCount ∈ gW := gmT 228 (by decide +kernel) (by decide +kernel)
theorem m_229 : Cond.methodLink R_La 28 y_CR_is ∈ gW := gmT 229 (by decide +kernel) (by decide +kernel)
theorem m_230 : Cond.instanceMethod y_CR_is ∈ gW := gmT 230 (by decide +kernel) (by decide +kernel)
theorem m_231 : Cond.selects R_CR y_CR_is y_CR_is ∈ gW := gmT 231 (by decide +kernel) (by decide +kernel)
theorem m_232 : Cond.code y_CR_is b_CR_is 3 (some .boolean) ∈ gW := gmT 232 (by decide +kernel) (by decide +kernel)
theorem m_233 : Cond.methodLink R_CR 82 y_Te_push ∈ gW := gmT 233 (by decide +kernel) (by decide +kernel)
theorem m_234 : Cond.instanceMethod y_Te_push ∈ gW := gmT 234 (by decide +kernel) (by decide +kernel)
theorem m_235 : Cond.selects R_Te y_Te_push y_Te_push ∈ gW := gmT 235 (by decide +kernel) (by decide +kernel)
theorem m_236 : Cond.code y_Te_push b_Te_push 3 (some .boolean) ∈ gW := gmT 236 (by decide +kernel) (by decide +kernel)
theorem m_237 : Cond.methodLink R_Te 26 y_NS_becomeIs ∈ gW := gmT 237 (by decide +kernel) (by decide +kernel)
theorem m_238 : Cond.instanceMethod y_NS_becomeIs ∈ gW := gmT 238 (by decide +kernel) (by decide +kernel)
theorem m_239 : Cond.selects R_NS y_NS_becomeIs y_NS_becomeIs ∈ gW := gmT 239 (by decide +kernel) (by decide +kernel)
theorem m_240 : Cond.code y_NS_becomeIs b_NS_becomeIs 4 none ∈ gW := gmT 240 (by decide +kernel) (by decide +kernel)
theorem m_241 : Cond.methodLink R_NS 41 y_NS_wordOf ∈ gW := gmT 241 (by decide +kernel) (by decide +kernel)
theorem m_242 : Cond.methodLink R_La 32 y_CR_not ∈ gW := gmT 242 (by decide +kernel) (by decide +kernel)
theorem m_243 : Cond.instanceMethod y_CR_not ∈ gW := gmT 243 (by decide +kernel) (by decide +kernel)
theorem m_244 : Cond.selects R_CR y_CR_not y_CR_not ∈ gW := gmT 244 (by decide +kernel) (by decide +kernel)
theorem m_245 : Cond.code y_CR_not b_CR_not 1 (some .boolean) ∈ gW := gmT 245 (by decide +kernel) (by decide +kernel)
theorem m_246 : Cond.methodLink R_CR 85 y_Te_negate ∈ gW := gmT 246 (by decide +kernel) (by decide +kernel)
theorem m_247 : Cond.instanceMethod y_Te_negate ∈ gW := gmT 247 (by decide +kernel) (by decide +kernel)
theorem m_248 : Cond.selects R_Te y_Te_negate y_Te_negate ∈ gW := gmT 248 (by decide +kernel) (by decide +kernel)
theorem m_249 : Cond.code y_Te_negate b_Te_negate 1 (some .boolean) ∈ gW := gmT 249 (by decide +kernel) (by decide +kernel)
theorem m_250 : Cond.methodLink R_Te 30 y_NS_becomeNot ∈ gW := gmT 250 (by decide +kernel) (by decide +kernel)
theorem m_251 : Cond.instanceMethod y_NS_becomeNot ∈ gW := gmT 251 (by decide +kernel) (by decide +kernel)
theorem m_252 : Cond.selects R_NS y_NS_becomeNot y_NS_becomeNot ∈ gW := gmT 252 (by decide +kernel) (by decide +kernel)
theorem m_253 : Cond.code y_NS_becomeNot b_NS_becomeNot 2 none ∈ gW := gmT 253 (by decide +kernel) (by decide +kernel)
theorem m_254 : Cond.methodLink R_La 37 y_CR_join ∈ gW := gmT 254 (by decide +kernel) (by decide +kernel)
theorem m_255 : Cond.instanceMethod y_CR_join ∈ gW := gmT 255 (by decide +kernel) (by decide +kernel)
theorem m_256 : Cond.selects R_CR y_CR_join y_CR_join ∈ gW := gmT 256 (by decide +kernel) (by decide +kernel)
theorem m_257 : Cond.code y_CR_join b_CR_join 2 (some .boolean) ∈ gW := gmT 257 (by decide +kernel) (by decide +kernel)
theorem m_258 : Cond.methodLink R_CR 89 y_Te_combine ∈ gW := gmT 258 (by decide +kernel) (by decide +kernel)
theorem m_259 : Cond.instanceMethod y_Te_combine ∈ gW := gmT 259 (by decide +kernel) (by decide +kernel)
theorem m_260 : Cond.selects R_Te y_Te_combine y_Te_combine ∈ gW := gmT 260 (by decide +kernel) (by decide +kernel)
theorem m_261 : Cond.code y_Te_combine b_Te_combine 3 (some .boolean) ∈ gW := gmT 261 (by decide +kernel) (by decide +kernel)
theorem m_262 : Cond.methodLink R_Te 33 y_JM_max ∈ gW := gmT 262 (by decide +kernel) (by decide +kernel)
theorem m_263 : Cond.static y_JM_max ∈ gW := gmT 263 (by decide +kernel) (by decide +kernel)
theorem m_264 : Cond.code y_JM_max b_JM_max 2 (some .int) ∈ gW := gmT 264 (by decide +kernel) (by decide +kernel)
theorem m_265 : Cond.methodLink R_Te 39 y_Te_combineSets ∈ gW := gmT 265 (by decide +kernel) (by decide +kernel)
theorem m_266 : Cond.static y_Te_combineSets ∈ gW := gmT 266 (by decide +kernel) (by decide +kernel)
theorem m_267 : Cond.code y_Te_combineSets b_Te_combineSets 3 none ∈ gW := gmT 267 (by decide +kernel) (by decide +kernel)
theorem m_268 : Cond.methodLink R_Te 43 y_NS_becomeAnd ∈ gW := gmT 268 (by decide +kernel) (by decide +kernel)
theorem m_269 : Cond.instanceMethod y_NS_becomeAnd ∈ gW := gmT 269 (by decide +kernel) (by decide +kernel)
theorem m_270 : Cond.selects R_NS y_NS_becomeAnd y_NS_becomeAnd ∈ gW := gmT 270 (by decide +kernel) (by decide +kernel)
theorem m_271 : Cond.code y_NS_becomeAnd b_NS_becomeAnd 3 none ∈ gW := gmT 271 (by decide +kernel) (by decide +kernel)
theorem m_272 : Cond.methodLink R_Te 47 y_NS_becomeOr ∈ gW := gmT 272 (by decide +kernel) (by decide +kernel)
theorem m_273 : Cond.instanceMethod y_NS_becomeOr ∈ gW := gmT 273 (by decide +kernel) (by decide +kernel)
theorem m_274 : Cond.selects R_NS y_NS_becomeOr y_NS_becomeOr ∈ gW := gmT 274 (by decide +kernel) (by decide +kernel)
theorem m_275 : Cond.code y_NS_becomeOr b_NS_becomeOr 3 none ∈ gW := gmT 275 (by decide +kernel) (by decide +kernel)
theorem m_276 : Cond.methodLink R_La 42 y_CR_require ∈ gW := gmT 276 (by decide +kernel) (by decide +kernel)
theorem m_277 : Cond.instanceMethod y_CR_require ∈ gW := gmT 277 (by decide +kernel) (by decide +kernel)
theorem m_278 : Cond.selects R_CR y_CR_require y_CR_require ∈ gW := gmT 278 (by decide +kernel) (by decide +kernel)
theorem m_279 : Cond.code y_CR_require b_CR_require 1 (some .int) ∈ gW := gmT 279 (by decide +kernel) (by decide +kernel)
theorem m_280 : Cond.methodLink R_CR 96 y_Te_pop ∈ gW := gmT 280 (by decide +kernel) (by decide +kernel)
theorem m_281 : Cond.instanceMethod y_Te_pop ∈ gW := gmT 281 (by decide +kernel) (by decide +kernel)
theorem m_282 : Cond.selects R_Te y_Te_pop y_Te_pop ∈ gW := gmT 282 (by decide +kernel) (by decide +kernel)
theorem m_283 : Cond.code y_Te_pop b_Te_pop 1 (some (.object "CombinationRows$NumberSet")) ∈ gW := gmT 283 (by decide +kernel) (by decide +kernel)
theorem m_284 : Cond.methodLink R_CR 100 y_Sp_addRule ∈ gW := gmT 284 (by decide +kernel) (by decide +kernel)
theorem m_285 : Cond.instanceMethod y_Sp_addRule ∈ gW := gmT 285 (by decide +kernel) (by decide +kernel)
theorem m_286 : Cond.selects R_Sp y_Sp_addRule y_Sp_addRule ∈ gW := gmT 286 (by decide +kernel) (by decide +kernel)
theorem m_287 : Cond.code y_Sp_addRule b_Sp_addRule 2 none ∈ gW := gmT 287 (by decide +kernel) (by decide +kernel)
theorem m_288 : Cond.methodLink R_Sp 47 y_NS_becomeAnd ∈ gW := gmT 288 (by decide +kernel) (by decide +kernel)
theorem m_289 : Cond.methodLink R_La 47 y_CR_seed ∈ gW := gmT 289 (by decide +kernel) (by decide +kernel)
theorem m_290 : Cond.instanceMethod y_CR_seed ∈ gW := gmT 290 (by decide +kernel) (by decide +kernel)
theorem m_291 : Cond.selects R_CR y_CR_seed y_CR_seed ∈ gW := gmT 291 (by decide +kernel) (by decide +kernel)
theorem m_292 : Cond.code y_CR_seed b_CR_seed 2 (some .int) ∈ gW := gmT 292 (by decide +kernel) (by decide +kernel)
theorem m_293 : Cond.methodLink R_La 51 y_CR_begin ∈ gW := gmT 293 (by decide +kernel) (by decide +kernel)
theorem m_294 : Cond.instanceMethod y_CR_begin ∈ gW := gmT 294 (by decide +kernel) (by decide +kernel)
theorem m_295 : Cond.selects R_CR y_CR_begin y_CR_begin ∈ gW := gmT 295 (by decide +kernel) (by decide +kernel)
theorem m_296 : Cond.code y_CR_begin b_CR_begin 2 (some .int) ∈ gW := gmT 296 (by decide +kernel) (by decide +kernel)
theorem m_297 : Cond.methodLink R_CR 111 y_NS_isEmpty ∈ gW := gmT 297 (by decide +kernel) (by decide +kernel)
theorem m_298 : Cond.instanceMethod y_NS_isEmpty ∈ gW := gmT 298 (by decide +kernel) (by decide +kernel)
theorem m_299 : Cond.selects R_NS y_NS_isEmpty y_NS_isEmpty ∈ gW := gmT 299 (by decide +kernel) (by decide +kernel)
theorem m_300 : Cond.code y_NS_isEmpty b_NS_isEmpty 1 (some .boolean) ∈ gW := gmT 300 (by decide +kernel) (by decide +kernel)
theorem m_301 : Cond.methodLink R_NS 15 y_NS_hasRowWith ∈ gW := gmT 301 (by decide +kernel) (by decide +kernel)
theorem m_302 : Cond.instanceMethod y_NS_hasRowWith ∈ gW := gmT 302 (by decide +kernel) (by decide +kernel)
theorem m_303 : Cond.selects R_NS y_NS_hasRowWith y_NS_hasRowWith ∈ gW := gmT 303 (by decide +kernel) (by decide +kernel)
theorem m_304 : Cond.code y_NS_hasRowWith b_NS_hasRowWith 10 (some .boolean) ∈ gW := gmT 304 (by decide +kernel) (by decide +kernel)
theorem m_305 : Cond.methodLink R_NS 19 y_NS_inWordWith ∈ gW := gmT 305 (by decide +kernel) (by decide +kernel)
theorem m_306 : Cond.static y_NS_inWordWith ∈ gW := gmT 306 (by decide +kernel) (by decide +kernel)
theorem m_307 : Cond.code y_NS_inWordWith b_NS_inWordWith 5 (some .long) ∈ gW := gmT 307 (by decide +kernel) (by decide +kernel)
theorem m_308 : Cond.methodLink R_NS 23 y_JI_bitCount ∈ gW := gmT 308 (by decide +kernel) (by decide +kernel)
theorem m_310 : Cond.static y_CR_nextWithin ∈ gW := gmT 310 (by decide +kernel) (by decide +kernel)
theorem m_311 : Cond.code y_CR_nextWithin b_CR_nextWithin 2 (some .int) ∈ gW := gmT 311 (by decide +kernel) (by decide +kernel)
theorem m_312 : Cond.methodLink R_CR 116 y_Ge_countGoals ∈ gW := gmT 312 (by decide +kernel) (by decide +kernel)
theorem m_313 : Cond.instanceMethod y_Ge_countGoals ∈ gW := gmT 313 (by decide +kernel) (by decide +kernel)
theorem m_314 : Cond.selects R_Ge y_Ge_countGoals y_Ge_countGoals ∈ gW := gmT 314 (by decide +kernel) (by decide +kernel)
theorem m_315 : Cond.code y_Ge_countGoals b_Ge_countGoals 5 (some .int) ∈ gW := gmT 315 (by decide +kernel) (by decide +kernel)
theorem m_316 : Cond.methodLink R_Ge 62 y_Re_askedWith ∈ gW := gmT 316 (by decide +kernel) (by decide +kernel)
theorem m_317 : Cond.instanceMethod y_Re_askedWith ∈ gW := gmT 317 (by decide +kernel) (by decide +kernel)
theorem m_318 : Cond.selects R_Re y_Re_askedWith y_Re_askedWith ∈ gW := gmT 318 (by decide +kernel) (by decide +kernel)
theorem m_319 : Cond.code y_Re_askedWith b_Re_askedWith 5 (some .long) ∈ gW := gmT 319 (by decide +kernel) (by decide +kernel)
theorem m_323 : Cond.static y_CR_fieldsOf ∈ gW := gmT 323 (by decide +kernel) (by decide +kernel)
theorem m_324 : Cond.code y_CR_fieldsOf b_CR_fieldsOf 3 (some .int) ∈ gW := gmT 324 (by decide +kernel) (by decide +kernel)
theorem m_325 : Cond.methodLink R_Ge 71 y_Ge_countGoalsOf ∈ gW := gmT 325 (by decide +kernel) (by decide +kernel)
theorem m_327 : Cond.instanceMethod y_Ge_countGoalsOf ∈ gW := gmT 327 (by decide +kernel) (by decide +kernel)
theorem m_328 : Cond.code y_Ge_countGoalsOf b_Ge_countGoalsOf 6 (some .int) ∈ gW := gmT 328 (by decide +kernel) (by decide +kernel)
theorem m_329 : Cond.methodLink R_Ge 74 y_JI_bitCount ∈ gW := gmT 329 (by decide +kernel) (by decide +kernel)
theorem m_330 : Cond.methodLink R_Ge 78 y_Ge_isGoal ∈ gW := gmT 330 (by decide +kernel) (by decide +kernel)
theorem m_332 : Cond.instanceMethod y_Ge_isGoal ∈ gW := gmT 332 (by decide +kernel) (by decide +kernel)
theorem m_333 : Cond.code y_Ge_isGoal b_Ge_isGoal 4 (some .boolean) ∈ gW := gmT 333 (by decide +kernel) (by decide +kernel)
theorem m_334 : Cond.methodLink R_Ge 86 y_Sp_invalidIn ∈ gW := gmT 334 (by decide +kernel) (by decide +kernel)
theorem m_335 : Cond.instanceMethod y_Sp_invalidIn ∈ gW := gmT 335 (by decide +kernel) (by decide +kernel)
theorem m_336 : Cond.selects R_Sp y_Sp_invalidIn y_Sp_invalidIn ∈ gW := gmT 336 (by decide +kernel) (by decide +kernel)
theorem m_337 : Cond.code y_Sp_invalidIn b_Sp_invalidIn 5 (some .int) ∈ gW := gmT 337 (by decide +kernel) (by decide +kernel)
theorem m_339 : Cond.methodLink R_Sp 80 y_Sp_isInvalid ∈ gW := gmT 339 (by decide +kernel) (by decide +kernel)
theorem m_340 : Cond.methodLink R_Ge 93 y_NS_hasRowWith ∈ gW := gmT 340 (by decide +kernel) (by decide +kernel)
theorem m_342 : Cond.methodLink R_CR 120 y_Ge_start ∈ gW := gmT 342 (by decide +kernel) (by decide +kernel)
theorem m_343 : Cond.instanceMethod y_Ge_start ∈ gW := gmT 343 (by decide +kernel) (by decide +kernel)
theorem m_344 : Cond.selects R_Ge y_Ge_start y_Ge_start ∈ gW := gmT 344 (by decide +kernel) (by decide +kernel)
theorem m_345 : Cond.code y_Ge_start b_Ge_start 4 none ∈ gW := gmT 345 (by decide +kernel) (by decide +kernel)
theorem m_346 : Cond.methodLink R_Ge 33 y_JA_fillL ∈ gW := gmT 346 (by decide +kernel) (by decide +kernel)
theorem m_347 : Cond.methodLink R_Ge 46 y_Sp_numberLimit ∈ gW := gmT 347 (by decide +kernel) (by decide +kernel)
theorem m_348 : Cond.instanceMethod y_Sp_numberLimit ∈ gW := gmT 348 (by decide +kernel) (by decide +kernel)
theorem m_349 : Cond.selects R_Sp y_Sp_numberLimit y_Sp_numberLimit ∈ gW := gmT 349 (by decide +kernel) (by decide +kernel)
theorem m_350 : Cond.code y_Sp_numberLimit b_Sp_numberLimit 1 (some .int) ∈ gW := gmT 350 (by decide +kernel) (by decide +kernel)
theorem m_351 : Cond.methodLink R_Ge 52 y_Ge_setsCoveredBy ∈ gW := gmT 351 (by decide +kernel) (by decide +kernel)
theorem m_353 : Cond.instanceMethod y_Ge_setsCoveredBy ∈ gW := gmT 353 (by decide +kernel) (by decide +kernel)
theorem m_354 : Cond.code y_Ge_setsCoveredBy b_Ge_setsCoveredBy 2 (some .long) ∈ gW := gmT 354 (by decide +kernel) (by decide +kernel)
theorem m_355 : Cond.methodLink R_Ge 101 y_NS_has ∈ gW := gmT 355 (by decide +kernel) (by decide +kernel)
theorem m_356 : Cond.instanceMethod y_NS_has ∈ gW := gmT 356 (by decide +kernel) (by decide +kernel)
theorem m_357 : Cond.selects R_NS y_NS_has y_NS_has ∈ gW := gmT 357 (by decide +kernel) (by decide +kernel)
theorem m_358 : Cond.code y_NS_has b_NS_has 2 (some .boolean) ∈ gW := gmT 358 (by decide +kernel) (by decide +kernel)
theorem m_359 : Cond.methodLink R_Ge 105 y_Sp_allFields ∈ gW := gmT 359 (by decide +kernel) (by decide +kernel)
theorem m_360 : Cond.instanceMethod y_Sp_allFields ∈ gW := gmT 360 (by decide +kernel) (by decide +kernel)
theorem m_361 : Cond.selects R_Sp y_Sp_allFields y_Sp_allFields ∈ gW := gmT 361 (by decide +kernel) (by decide +kernel)
theorem m_362 : Cond.code y_Sp_allFields b_Sp_allFields 1 (some .int) ∈ gW := gmT 362 (by decide +kernel) (by decide +kernel)
theorem m_363 : Cond.methodLink R_Sp 65 y_Sp_numberLimit ∈ gW := gmT 363 (by decide +kernel) (by decide +kernel)
theorem m_364 : Cond.methodLink R_Ge 56 y_JL_bitCount ∈ gW := gmT 364 (by decide +kernel) (by decide +kernel)
theorem m_365 : Cond.static y_JL_bitCount ∈ gW := gmT 365 (by decide +kernel) (by decide +kernel)
theorem m_366 : Cond.code y_JL_bitCount b_JL_bitCount 2 (some .int) ∈ gW := gmT 366 (by decide +kernel) (by decide +kernel)
theorem m_367 : Cond.constantLong R_JL 314 6148914691236517205 ∈ gW := gmT 367 (by decide +kernel) (by decide +kernel)
theorem m_368 : Cond.constantLong R_JL 316 3689348814741910323 ∈ gW := gmT 368 (by decide +kernel) (by decide +kernel)
theorem m_369 : Cond.constantLong R_JL 318 1085102592571150095 ∈ gW := gmT 369 (by decide +kernel) (by decide +kernel)
theorem m_370 : Cond.methodLink R_CR 123 y_CR_takeSeeds ∈ gW := gmT 370 (by decide +kernel) (by decide +kernel)
theorem m_372 : Cond.instanceMethod y_CR_takeSeeds ∈ gW := gmT 372 (by decide +kernel) (by decide +kernel)
theorem m_373 : Cond.code y_CR_takeSeeds b_CR_takeSeeds 2 none ∈ gW := gmT 373 (by decide +kernel) (by decide +kernel)
theorem m_374 : Cond.methodLink R_CR 126 y_Sp_rank ∈ gW := gmT 374 (by decide +kernel) (by decide +kernel)
theorem m_375 : Cond.instanceMethod y_Sp_rank ∈ gW := gmT 375 (by decide +kernel) (by decide +kernel)
theorem m_376 : Cond.selects R_Sp y_Sp_rank y_Sp_rank ∈ gW := gmT 376 (by decide +kernel) (by decide +kernel)
theorem m_377 : Cond.code y_Sp_rank b_Sp_rank 2 (some .int) ∈ gW := gmT 377 (by decide +kernel) (by decide +kernel)
theorem m_378 : Cond.methodLink R_Sp 69 y_Sp_hasAllValues ∈ gW := gmT 378 (by decide +kernel) (by decide +kernel)
theorem m_380 : Cond.instanceMethod y_Sp_hasAllValues ∈ gW := gmT 380 (by decide +kernel) (by decide +kernel)
theorem m_381 : Cond.code y_Sp_hasAllValues b_Sp_hasAllValues 3 (some .boolean) ∈ gW := gmT 381 (by decide +kernel) (by decide +kernel)
theorem m_382 : Cond.methodLink R_Sp 73 y_NS_has ∈ gW := gmT 382 (by decide +kernel) (by decide +kernel)
theorem m_383 : Cond.methodLink R_CR 129 y_Ge_take ∈ gW := gmT 383 (by decide +kernel) (by decide +kernel)
theorem m_384 : Cond.instanceMethod y_Ge_take ∈ gW := gmT 384 (by decide +kernel) (by decide +kernel)
theorem m_385 : Cond.selects R_Ge y_Ge_take y_Ge_take ∈ gW := gmT 385 (by decide +kernel) (by decide +kernel)
theorem m_386 : Cond.code y_Ge_take b_Ge_take 7 none ∈ gW := gmT 386 (by decide +kernel) (by decide +kernel)
theorem m_387 : Cond.methodLink R_Ge 112 y_Ge_cover ∈ gW := gmT 387 (by decide +kernel) (by decide +kernel)
theorem m_389 : Cond.instanceMethod y_Ge_cover ∈ gW := gmT 389 (by decide +kernel) (by decide +kernel)
theorem m_390 : Cond.code y_Ge_cover b_Ge_cover 6 (some .boolean) ∈ gW := gmT 390 (by decide +kernel) (by decide +kernel)
theorem m_391 : Cond.methodLink R_Ge 119 y_Ge_pack ∈ gW := gmT 391 (by decide +kernel) (by decide +kernel)
theorem m_392 : Cond.static y_Ge_pack ∈ gW := gmT 392 (by decide +kernel) (by decide +kernel)
theorem m_393 : Cond.code y_Ge_pack b_Ge_pack 4 (some .int) ∈ gW := gmT 393 (by decide +kernel) (by decide +kernel)
theorem m_395 : Cond.methodLink R_Ge 115 y_Ge_lowerGains ∈ gW := gmT 395 (by decide +kernel) (by decide +kernel)
theorem m_397 : Cond.instanceMethod y_Ge_lowerGains ∈ gW := gmT 397 (by decide +kernel) (by decide +kernel)
theorem m_398 : Cond.code y_Ge_lowerGains b_Ge_lowerGains 9 none ∈ gW := gmT 398 (by decide +kernel) (by decide +kernel)
theorem m_399 : Cond.methodLink R_La 55 y_CR_next ∈ gW := gmT 399 (by decide +kernel) (by decide +kernel)
theorem m_400 : Cond.instanceMethod y_CR_next ∈ gW := gmT 400 (by decide +kernel) (by decide +kernel)
theorem m_401 : Cond.selects R_CR y_CR_next y_CR_next ∈ gW := gmT 401 (by decide +kernel) (by decide +kernel)
theorem m_402 : Cond.code y_CR_next b_CR_next 2 (some .int) ∈ gW := gmT 402 (by decide +kernel) (by decide +kernel)
theorem m_403 : Cond.methodLink R_CR 132 y_Ge_best ∈ gW := gmT 403 (by decide +kernel) (by decide +kernel)
theorem m_404 : Cond.instanceMethod y_Ge_best ∈ gW := gmT 404 (by decide +kernel) (by decide +kernel)
theorem m_405 : Cond.selects R_Ge y_Ge_best y_Ge_best ∈ gW := gmT 405 (by decide +kernel) (by decide +kernel)
theorem m_406 : Cond.code y_Ge_best b_Ge_best 2 (some .int) ∈ gW := gmT 406 (by decide +kernel) (by decide +kernel)
theorem m_407 : Cond.methodLink R_Ge 108 y_Ge_bestOf ∈ gW := gmT 407 (by decide +kernel) (by decide +kernel)
theorem m_409 : Cond.instanceMethod y_Ge_bestOf ∈ gW := gmT 409 (by decide +kernel) (by decide +kernel)
theorem m_410 : Cond.code y_Ge_bestOf b_Ge_bestOf 6 (some .int) ∈ gW := gmT 410 (by decide +kernel) (by decide +kernel)
theorem m_411 : Cond.methodLink R_CR 135 y_Ge_isFull ∈ gW := gmT 411 (by decide +kernel) (by decide +kernel)
theorem m_412 : Cond.instanceMethod y_Ge_isFull ∈ gW := gmT 412 (by decide +kernel) (by decide +kernel)
theorem m_413 : Cond.selects R_Ge y_Ge_isFull y_Ge_isFull ∈ gW := gmT 413 (by decide +kernel) (by decide +kernel)
theorem m_414 : Cond.code y_Ge_isFull b_Ge_isFull 1 (some .boolean) ∈ gW := gmT 414 (by decide +kernel) (by decide +kernel)
theorem m_415 : Cond.methodLink R_La 59 y_CR_end ∈ gW := gmT 415 (by decide +kernel) (by decide +kernel)
theorem m_416 : Cond.instanceMethod y_CR_end ∈ gW := gmT 416 (by decide +kernel) (by decide +kernel)
theorem m_417 : Cond.selects R_CR y_CR_end y_CR_end ∈ gW := gmT 417 (by decide +kernel) (by decide +kernel)
theorem m_418 : Cond.code y_CR_end b_CR_end 2 (some .boolean) ∈ gW := gmT 418 (by decide +kernel) (by decide +kernel)
theorem m_419 : Cond.methodLink R_La 63 y_CR_rows ∈ gW := gmT 419 (by decide +kernel) (by decide +kernel)
theorem m_420 : Cond.instanceMethod y_CR_rows ∈ gW := gmT 420 (by decide +kernel) (by decide +kernel)
theorem m_421 : Cond.selects R_CR y_CR_rows y_CR_rows ∈ gW := gmT 421 (by decide +kernel) (by decide +kernel)
theorem m_422 : Cond.code y_CR_rows b_CR_rows 1 (some .int) ∈ gW := gmT 422 (by decide +kernel) (by decide +kernel)
theorem m_423 : Cond.methodLink R_La 67 y_CR_row ∈ gW := gmT 423 (by decide +kernel) (by decide +kernel)
theorem m_424 : Cond.instanceMethod y_CR_row ∈ gW := gmT 424 (by decide +kernel) (by decide +kernel)
theorem m_425 : Cond.selects R_CR y_CR_row y_CR_row ∈ gW := gmT 425 (by decide +kernel) (by decide +kernel)
theorem m_426 : Cond.code y_CR_row b_CR_row 2 (some .int) ∈ gW := gmT 426 (by decide +kernel) (by decide +kernel)
theorem m_427 : Cond.methodLink R_CR 141 y_CR_isTaken ∈ gW := gmT 427 (by decide +kernel) (by decide +kernel)
theorem m_429 : Cond.instanceMethod y_CR_isTaken ∈ gW := gmT 429 (by decide +kernel) (by decide +kernel)
theorem m_430 : Cond.code y_CR_isTaken b_CR_isTaken 2 (some .boolean) ∈ gW := gmT 430 (by decide +kernel) (by decide +kernel)
theorem m_431 : Cond.methodLink R_La 71 y_CR_gained ∈ gW := gmT 431 (by decide +kernel) (by decide +kernel)
theorem m_432 : Cond.instanceMethod y_CR_gained ∈ gW := gmT 432 (by decide +kernel) (by decide +kernel)
theorem m_433 : Cond.selects R_CR y_CR_gained y_CR_gained ∈ gW := gmT 433 (by decide +kernel) (by decide +kernel)
theorem m_434 : Cond.code y_CR_gained b_CR_gained 2 (some .int) ∈ gW := gmT 434 (by decide +kernel) (by decide +kernel)
theorem m_435 : Cond.methodLink R_La 75 y_CR_left ∈ gW := gmT 435 (by decide +kernel) (by decide +kernel)
theorem m_436 : Cond.instanceMethod y_CR_left ∈ gW := gmT 436 (by decide +kernel) (by decide +kernel)
theorem m_437 : Cond.selects R_CR y_CR_left y_CR_left ∈ gW := gmT 437 (by decide +kernel) (by decide +kernel)
theorem m_438 : Cond.code y_CR_left b_CR_left 1 (some .int) ∈ gW := gmT 438 (by decide +kernel) (by decide +kernel)
theorem m_439 : Cond.methodLink R_La 79 y_CR_gain ∈ gW := gmT 439 (by decide +kernel) (by decide +kernel)
theorem m_440 : Cond.instanceMethod y_CR_gain ∈ gW := gmT 440 (by decide +kernel) (by decide +kernel)
theorem m_441 : Cond.selects R_CR y_CR_gain y_CR_gain ∈ gW := gmT 441 (by decide +kernel) (by decide +kernel)
theorem m_442 : Cond.code y_CR_gain b_CR_gain 2 (some .int) ∈ gW := gmT 442 (by decide +kernel) (by decide +kernel)
theorem m_443 : Cond.methodLink R_La 83 y_CR_kind ∈ gW := gmT 443 (by decide +kernel) (by decide +kernel)
theorem m_444 : Cond.instanceMethod y_CR_kind ∈ gW := gmT 444 (by decide +kernel) (by decide +kernel)
theorem m_445 : Cond.selects R_CR y_CR_kind y_CR_kind ∈ gW := gmT 445 (by decide +kernel) (by decide +kernel)
theorem m_446 : Cond.code y_CR_kind b_CR_kind 2 (some .int) ∈ gW := gmT 446 (by decide +kernel) (by decide +kernel)
theorem m_447 : Cond.methodLink R_La 87 y_CR_extendable ∈ gW := gmT 447 (by decide +kernel) (by decide +kernel)
theorem m_448 : Cond.instanceMethod y_CR_extendable ∈ gW := gmT 448 (by decide +kernel) (by decide +kernel)
theorem m_449 : Cond.selects R_CR y_CR_extendable y_CR_extendable ∈ gW := gmT 449 (by decide +kernel) (by decide +kernel)
theorem m_450 : Cond.code y_CR_extendable b_CR_extendable 6 (some .int) ∈ gW := gmT 450 (by decide +kernel) (by decide +kernel)
theorem m_451 : Cond.methodLink R_CR 156 y_NS_hasRowWith ∈ gW := gmT 451 (by decide +kernel) (by decide +kernel)
theorem m_452 : Cond.methodLink R_La 91 y_CR_forbidden ∈ gW := gmT 452 (by decide +kernel) (by decide +kernel)
theorem m_453 : Cond.instanceMethod y_CR_forbidden ∈ gW := gmT 453 (by decide +kernel) (by decide +kernel)
theorem m_454 : Cond.selects R_CR y_CR_forbidden y_CR_forbidden ∈ gW := gmT 454 (by decide +kernel) (by decide +kernel)
theorem m_455 : Cond.code y_CR_forbidden b_CR_forbidden 4 (some .int) ∈ gW := gmT 455 (by decide +kernel) (by decide +kernel)
theorem m_456 : Cond.methodLink R_CR 162 y_CR_fieldsOf ∈ gW := gmT 456 (by decide +kernel) (by decide +kernel)
theorem m_457 : Cond.methodLink R_CR 165 y_Sp_minimalForbidden ∈ gW := gmT 457 (by decide +kernel) (by decide +kernel)
theorem m_458 : Cond.instanceMethod y_Sp_minimalForbidden ∈ gW := gmT 458 (by decide +kernel) (by decide +kernel)
theorem m_459 : Cond.selects R_Sp y_Sp_minimalForbidden y_Sp_minimalForbidden ∈ gW := gmT 459 (by decide +kernel) (by decide +kernel)
theorem m_460 : Cond.code y_Sp_minimalForbidden b_Sp_minimalForbidden 6 (some .int) ∈ gW := gmT 460 (by decide +kernel) (by decide +kernel)
theorem m_461 : Cond.methodLink R_Sp 84 y_JI_bitCount ∈ gW := gmT 461 (by decide +kernel) (by decide +kernel)
theorem m_462 : Cond.methodLink R_Sp 90 y_Sp_isMinimalForbidden ∈ gW := gmT 462 (by decide +kernel) (by decide +kernel)
theorem m_464 : Cond.instanceMethod y_Sp_isMinimalForbidden ∈ gW := gmT 464 (by decide +kernel) (by decide +kernel)
theorem m_465 : Cond.code y_Sp_isMinimalForbidden b_Sp_isMinimalForbidden 5 (some .boolean) ∈ gW := gmT 465 (by decide +kernel) (by decide +kernel)
theorem m_466 : Cond.methodLink R_Sp 96 y_Sp_invalidIn ∈ gW := gmT 466 (by decide +kernel) (by decide +kernel)
theorem m_467 : Cond.methodLink R_Sp 99 y_NS_hasRowWith ∈ gW := gmT 467 (by decide +kernel) (by decide +kernel)
theorem m_469 : Cond.classLink R_La 10 R_Mo ∈ gW := gmT 469 (by decide +kernel) (by decide +kernel)
theorem m_470 : Cond.instantiable R_Mo 29 ∈ gW := gmT 470 (by decide +kernel) (by decide +kernel)
theorem m_471 : Cond.methodLink R_La 12 y_Mo_init ∈ gW := gmT 471 (by decide +kernel) (by decide +kernel)
theorem m_472 : Cond.instanceMethod y_Mo_init ∈ gW := gmT 472 (by decide +kernel) (by decide +kernel)
theorem m_473 : Cond.code y_Mo_init b_Mo_init 1 none ∈ gW := gmT 473 (by decide +kernel) (by decide +kernel)
theorem m_474 : Cond.methodLink R_Mo 1 objectInit ∈ gW := gmT 474 (by decide +kernel) (by decide +kernel)
theorem m_475 : Cond.fieldLink R_Mo 71 "CombinationRowsModel" "params" "I" ∈ gW := gmT 475 (by decide +kernel) (by decide +kernel)
theorem m_476 : Cond.fieldLink R_Mo 7 "CombinationRowsModel" "values" "[I" ∈ gW := gmT 476 (by decide +kernel) (by decide +kernel)
theorem m_477 : Cond.fieldLink R_Mo 13 "CombinationRowsModel" "bad" "[Z" ∈ gW := gmT 477 (by decide +kernel) (by decide +kernel)
theorem m_478 : Cond.fieldLink R_Mo 86 "CombinationRowsModel" "relations" "I" ∈ gW := gmT 478 (by decide +kernel) (by decide +kernel)
theorem m_479 : Cond.fieldLink R_Mo 17 "CombinationRowsModel" "relSet" "[I" ∈ gW := gmT 479 (by decide +kernel) (by decide +kernel)
theorem m_480 : Cond.fieldLink R_Mo 20 "CombinationRowsModel" "relStrength" "[I" ∈ gW := gmT 480 (by decide +kernel) (by decide +kernel)
theorem m_481 : Cond.fieldLink R_Mo 89 "CombinationRowsModel" "terms" "I" ∈ gW := gmT 481 (by decide +kernel) (by decide +kernel)
theorem m_482 : Cond.fieldLink R_Mo 23 "CombinationRowsModel" "termOp" "[B" ∈ gW := gmT 482 (by decide +kernel) (by decide +kernel)
theorem m_483 : Cond.fieldLink R_Mo 27 "CombinationRowsModel" "termA" "[S" ∈ gW := gmT 483 (by decide +kernel) (by decide +kernel)
theorem m_484 : Cond.fieldLink R_Mo 31 "CombinationRowsModel" "termB" "[S" ∈ gW := gmT 484 (by decide +kernel) (by decide +kernel)
theorem m_485 : Cond.fieldLink R_Mo 34 "CombinationRowsModel" "termDepth" "[B" ∈ gW := gmT 485 (by decide +kernel) (by decide +kernel)
theorem m_486 : Cond.fieldLink R_Mo 37 "CombinationRowsModel" "truth" "[Z" ∈ gW := gmT 486 (by decide +kernel) (by decide +kernel)
theorem m_487 : Cond.fieldLink R_Mo 92 "CombinationRowsModel" "stacked" "I" ∈ gW := gmT 487 (by decide +kernel) (by decide +kernel)
theorem m_488 : Cond.fieldLink R_Mo 40 "CombinationRowsModel" "stack" "[I" ∈ gW := gmT 488 (by decide +kernel) (by decide +kernel)
theorem m_489 : Cond.fieldLink R_Mo 99 "CombinationRowsModel" "rules" "I" ∈ gW := gmT 489 (by decide +kernel) (by decide +kernel)
theorem m_490 : Cond.fieldLink R_Mo 43 "CombinationRowsModel" "rule" "[I" ∈ gW := gmT 490 (by decide +kernel) (by decide +kernel)
theorem m_491 : Cond.fieldLink R_Mo 102 "CombinationRowsModel" "seeds" "I" ∈ gW := gmT 491 (by decide +kernel) (by decide +kernel)
theorem m_492 : Cond.fieldLink R_Mo 46 "CombinationRowsModel" "seed" "[I" ∈ gW := gmT 492 (by decide +kernel) (by decide +kernel)
theorem m_493 : Cond.fieldLink R_Mo 75 "CombinationRowsModel" "fresh" "Z" ∈ gW := gmT 493 (by decide +kernel) (by decide +kernel)
theorem m_494 : Cond.fieldLink R_Mo 49 "CombinationRowsModel" "kinds" "[B" ∈ gW := gmT 494 (by decide +kernel) (by decide +kernel)
theorem m_495 : Cond.fieldLink R_Mo 52 "CombinationRowsModel" "inValid" "[Z" ∈ gW := gmT 495 (by decide +kernel) (by decide +kernel)
theorem m_496 : Cond.fieldLink R_Mo 55 "CombinationRowsModel" "inNegative" "[Z" ∈ gW := gmT 496 (by decide +kernel) (by decide +kernel)
theorem m_497 : Cond.fieldLink R_Mo 67 "CombinationRowsModel" "on" "Z" ∈ gW := gmT 497 (by decide +kernel) (by decide +kernel)
theorem m_498 : Cond.fieldLink R_Mo 58 "CombinationRowsModel" "open" "[Z" ∈ gW := gmT 498 (by decide +kernel) (by decide +kernel)
theorem m_499 : Cond.fieldLink R_Mo 125 "CombinationRowsModel" "openPlain" "I" ∈ gW := gmT 499 (by decide +kernel) (by decide +kernel)
theorem m_500 : Cond.fieldLink R_Mo 122 "CombinationRowsModel" "openAll" "I" ∈ gW := gmT 500 (by decide +kernel) (by decide +kernel)
theorem m_501 : Cond.fieldLink R_Mo 119 "CombinationRowsModel" "taken" "I" ∈ gW := gmT 501 (by decide +kernel) (by decide +kernel)
theorem m_502 : Cond.fieldLink R_Mo 61 "CombinationRowsModel" "rows" "[S" ∈ gW := gmT 502 (by decide +kernel) (by decide +kernel)
theorem m_503 : Cond.fieldLink R_Mo 64 "CombinationRowsModel" "gains" "[S" ∈ gW := gmT 503 (by decide +kernel) (by decide +kernel)
theorem m_563 : Cond.arrayClass .boolean ∈ gW := gmT 563 (by decide +kernel) (by decide +kernel)
theorem m_564 : Cond.arrayClass .byte ∈ gW := gmT 564 (by decide +kernel) (by decide +kernel)
theorem m_565 : Cond.arrayClass .short ∈ gW := gmT 565 (by decide +kernel) (by decide +kernel)
theorem m_566 : Cond.methodLink R_La 17 y_Mo_parameter ∈ gW := gmT 566 (by decide +kernel) (by decide +kernel)
theorem m_567 : Cond.instanceMethod y_Mo_parameter ∈ gW := gmT 567 (by decide +kernel) (by decide +kernel)
theorem m_568 : Cond.selects R_Mo y_Mo_parameter y_Mo_parameter ∈ gW := gmT 568 (by decide +kernel) (by decide +kernel)
theorem m_569 : Cond.code y_Mo_parameter b_Mo_parameter 2 (some .int) ∈ gW := gmT 569 (by decide +kernel) (by decide +kernel)
theorem m_570 : Cond.methodLink R_La 22 y_Mo_invalid ∈ gW := gmT 570 (by decide +kernel) (by decide +kernel)
theorem m_571 : Cond.instanceMethod y_Mo_invalid ∈ gW := gmT 571 (by decide +kernel) (by decide +kernel)
theorem m_572 : Cond.selects R_Mo y_Mo_invalid y_Mo_invalid ∈ gW := gmT 572 (by decide +kernel) (by decide +kernel)
theorem m_573 : Cond.code y_Mo_invalid b_Mo_invalid 3 (some .boolean) ∈ gW := gmT 573 (by decide +kernel) (by decide +kernel)
theorem m_574 : Cond.methodLink R_Mo 78 y_Mo_noValue ∈ gW := gmT 574 (by decide +kernel) (by decide +kernel)
theorem m_576 : Cond.instanceMethod y_Mo_noValue ∈ gW := gmT 576 (by decide +kernel) (by decide +kernel)
theorem m_577 : Cond.code y_Mo_noValue b_Mo_noValue 3 (some .boolean) ∈ gW := gmT 577 (by decide +kernel) (by decide +kernel)
theorem m_578 : Cond.methodLink R_La 27 y_Mo_relation ∈ gW := gmT 578 (by decide +kernel) (by decide +kernel)
theorem m_579 : Cond.instanceMethod y_Mo_relation ∈ gW := gmT 579 (by decide +kernel) (by decide +kernel)
theorem m_580 : Cond.selects R_Mo y_Mo_relation y_Mo_relation ∈ gW := gmT 580 (by decide +kernel) (by decide +kernel)
theorem m_581 : Cond.code y_Mo_relation b_Mo_relation 3 (some .int) ∈ gW := gmT 581 (by decide +kernel) (by decide +kernel)
theorem m_582 : Cond.methodLink R_Mo 82 y_Mo_size ∈ gW := gmT 582 (by decide +kernel) (by decide +kernel)
theorem m_584 : Cond.instanceMethod y_Mo_size ∈ gW := gmT 584 (by decide +kernel) (by decide +kernel)
theorem m_585 : Cond.code y_Mo_size b_Mo_size 4 (some .int) ∈ gW := gmT 585 (by decide +kernel) (by decide +kernel)
theorem m_586 : Cond.methodLink R_La 31 y_Mo_is ∈ gW := gmT 586 (by decide +kernel) (by decide +kernel)
theorem m_587 : Cond.instanceMethod y_Mo_is ∈ gW := gmT 587 (by decide +kernel) (by decide +kernel)
theorem m_588 : Cond.selects R_Mo y_Mo_is y_Mo_is ∈ gW := gmT 588 (by decide +kernel) (by decide +kernel)
theorem m_589 : Cond.code y_Mo_is b_Mo_is 3 (some .boolean) ∈ gW := gmT 589 (by decide +kernel) (by decide +kernel)
theorem m_590 : Cond.methodLink R_Mo 95 y_Mo_push ∈ gW := gmT 590 (by decide +kernel) (by decide +kernel)
theorem m_592 : Cond.instanceMethod y_Mo_push ∈ gW := gmT 592 (by decide +kernel) (by decide +kernel)
theorem m_593 : Cond.code y_Mo_push b_Mo_push 5 (some .boolean) ∈ gW := gmT 593 (by decide +kernel) (by decide +kernel)
theorem m_594 : Cond.methodLink R_La 36 y_Mo_not ∈ gW := gmT 594 (by decide +kernel) (by decide +kernel)
theorem m_595 : Cond.instanceMethod y_Mo_not ∈ gW := gmT 595 (by decide +kernel) (by decide +kernel)
theorem m_596 : Cond.selects R_Mo y_Mo_not y_Mo_not ∈ gW := gmT 596 (by decide +kernel) (by decide +kernel)
theorem m_597 : Cond.code y_Mo_not b_Mo_not 2 (some .boolean) ∈ gW := gmT 597 (by decide +kernel) (by decide +kernel)
theorem m_598 : Cond.methodLink R_La 41 y_Mo_join ∈ gW := gmT 598 (by decide +kernel) (by decide +kernel)
theorem m_599 : Cond.instanceMethod y_Mo_join ∈ gW := gmT 599 (by decide +kernel) (by decide +kernel)
theorem m_600 : Cond.selects R_Mo y_Mo_join y_Mo_join ∈ gW := gmT 600 (by decide +kernel) (by decide +kernel)
theorem m_601 : Cond.code y_Mo_join b_Mo_join 5 (some .boolean) ∈ gW := gmT 601 (by decide +kernel) (by decide +kernel)
theorem m_602 : Cond.methodLink R_La 46 y_Mo_require ∈ gW := gmT 602 (by decide +kernel) (by decide +kernel)
theorem m_603 : Cond.instanceMethod y_Mo_require ∈ gW := gmT 603 (by decide +kernel) (by decide +kernel)
theorem m_604 : Cond.selects R_Mo y_Mo_require y_Mo_require ∈ gW := gmT 604 (by decide +kernel) (by decide +kernel)
theorem m_605 : Cond.code y_Mo_require b_Mo_require 1 (some .int) ∈ gW := gmT 605 (by decide +kernel) (by decide +kernel)
theorem m_606 : Cond.methodLink R_La 50 y_Mo_seed ∈ gW := gmT 606 (by decide +kernel) (by decide +kernel)
theorem m_607 : Cond.instanceMethod y_Mo_seed ∈ gW := gmT 607 (by decide +kernel) (by decide +kernel)
theorem m_608 : Cond.selects R_Mo y_Mo_seed y_Mo_seed ∈ gW := gmT 608 (by decide +kernel) (by decide +kernel)
theorem m_609 : Cond.code y_Mo_seed b_Mo_seed 2 (some .int) ∈ gW := gmT 609 (by decide +kernel) (by decide +kernel)
theorem m_610 : Cond.methodLink R_La 54 y_Mo_begin ∈ gW := gmT 610 (by decide +kernel) (by decide +kernel)
theorem m_611 : Cond.instanceMethod y_Mo_begin ∈ gW := gmT 611 (by decide +kernel) (by decide +kernel)
theorem m_612 : Cond.selects R_Mo y_Mo_begin y_Mo_begin ∈ gW := gmT 612 (by decide +kernel) (by decide +kernel)
theorem m_613 : Cond.code y_Mo_begin b_Mo_begin 4 (some .int) ∈ gW := gmT 613 (by decide +kernel) (by decide +kernel)
theorem m_614 : Cond.methodLink R_Mo 116 y_Mo_look ∈ gW := gmT 614 (by decide +kernel) (by decide +kernel)
theorem m_616 : Cond.instanceMethod y_Mo_look ∈ gW := gmT 616 (by decide +kernel) (by decide +kernel)
theorem m_617 : Cond.code y_Mo_look b_Mo_look 4 none ∈ gW := gmT 617 (by decide +kernel) (by decide +kernel)
theorem m_618 : Cond.methodLink R_Mo 109 y_Mo_judge ∈ gW := gmT 618 (by decide +kernel) (by decide +kernel)
theorem m_620 : Cond.instanceMethod y_Mo_judge ∈ gW := gmT 620 (by decide +kernel) (by decide +kernel)
theorem m_621 : Cond.code y_Mo_judge b_Mo_judge 5 (some .int) ∈ gW := gmT 621 (by decide +kernel) (by decide +kernel)
theorem m_622 : Cond.methodLink R_Mo 105 y_Mo_meets ∈ gW := gmT 622 (by decide +kernel) (by decide +kernel)
theorem m_624 : Cond.instanceMethod y_Mo_meets ∈ gW := gmT 624 (by decide +kernel) (by decide +kernel)
theorem m_625 : Cond.code y_Mo_meets b_Mo_meets 5 (some .boolean) ∈ gW := gmT 625 (by decide +kernel) (by decide +kernel)
theorem m_626 : Cond.methodLink R_Mo 112 y_Mo_place ∈ gW := gmT 626 (by decide +kernel) (by decide +kernel)
theorem m_628 : Cond.instanceMethod y_Mo_place ∈ gW := gmT 628 (by decide +kernel) (by decide +kernel)
theorem m_629 : Cond.code y_Mo_place b_Mo_place 6 (some .int) ∈ gW := gmT 629 (by decide +kernel) (by decide +kernel)
theorem m_630 : Cond.methodLink R_Mo 128 y_Mo_asked ∈ gW := gmT 630 (by decide +kernel) (by decide +kernel)
theorem m_632 : Cond.instanceMethod y_Mo_asked ∈ gW := gmT 632 (by decide +kernel) (by decide +kernel)
theorem m_633 : Cond.code y_Mo_asked b_Mo_asked 4 (some .boolean) ∈ gW := gmT 633 (by decide +kernel) (by decide +kernel)
theorem m_634 : Cond.methodLink R_Mo 131 y_Mo_wrong ∈ gW := gmT 634 (by decide +kernel) (by decide +kernel)
theorem m_636 : Cond.instanceMethod y_Mo_wrong ∈ gW := gmT 636 (by decide +kernel) (by decide +kernel)
theorem m_637 : Cond.code y_Mo_wrong b_Mo_wrong 7 (some .int) ∈ gW := gmT 637 (by decide +kernel) (by decide +kernel)
theorem m_638 : Cond.methodLink R_Mo 134 y_Mo_take ∈ gW := gmT 638 (by decide +kernel) (by decide +kernel)
theorem m_640 : Cond.instanceMethod y_Mo_take ∈ gW := gmT 640 (by decide +kernel) (by decide +kernel)
theorem m_641 : Cond.code y_Mo_take b_Mo_take 2 none ∈ gW := gmT 641 (by decide +kernel) (by decide +kernel)
theorem m_642 : Cond.methodLink R_Mo 138 y_Mo_count ∈ gW := gmT 642 (by decide +kernel) (by decide +kernel)
theorem m_644 : Cond.instanceMethod y_Mo_count ∈ gW := gmT 644 (by decide +kernel) (by decide +kernel)
theorem m_645 : Cond.code y_Mo_count b_Mo_count 7 (some .int) ∈ gW := gmT 645 (by decide +kernel) (by decide +kernel)
theorem m_646 : Cond.methodLink R_La 58 y_Mo_next ∈ gW := gmT 646 (by decide +kernel) (by decide +kernel)
theorem m_647 : Cond.instanceMethod y_Mo_next ∈ gW := gmT 647 (by decide +kernel) (by decide +kernel)
theorem m_648 : Cond.selects R_Mo y_Mo_next y_Mo_next ∈ gW := gmT 648 (by decide +kernel) (by decide +kernel)
theorem m_649 : Cond.code y_Mo_next b_Mo_next 6 (some .int) ∈ gW := gmT 649 (by decide +kernel) (by decide +kernel)
theorem m_650 : Cond.methodLink R_La 62 y_Mo_end ∈ gW := gmT 650 (by decide +kernel) (by decide +kernel)
theorem m_651 : Cond.instanceMethod y_Mo_end ∈ gW := gmT 651 (by decide +kernel) (by decide +kernel)
theorem m_652 : Cond.selects R_Mo y_Mo_end y_Mo_end ∈ gW := gmT 652 (by decide +kernel) (by decide +kernel)
theorem m_653 : Cond.code y_Mo_end b_Mo_end 2 (some .boolean) ∈ gW := gmT 653 (by decide +kernel) (by decide +kernel)
theorem m_654 : Cond.methodLink R_La 66 y_Mo_rows ∈ gW := gmT 654 (by decide +kernel) (by decide +kernel)
theorem m_655 : Cond.instanceMethod y_Mo_rows ∈ gW := gmT 655 (by decide +kernel) (by decide +kernel)
theorem m_656 : Cond.selects R_Mo y_Mo_rows y_Mo_rows ∈ gW := gmT 656 (by decide +kernel) (by decide +kernel)
theorem m_657 : Cond.code y_Mo_rows b_Mo_rows 1 (some .int) ∈ gW := gmT 657 (by decide +kernel) (by decide +kernel)
theorem m_658 : Cond.methodLink R_La 70 y_Mo_row ∈ gW := gmT 658 (by decide +kernel) (by decide +kernel)
theorem m_659 : Cond.instanceMethod y_Mo_row ∈ gW := gmT 659 (by decide +kernel) (by decide +kernel)
theorem m_660 : Cond.selects R_Mo y_Mo_row y_Mo_row ∈ gW := gmT 660 (by decide +kernel) (by decide +kernel)
theorem m_661 : Cond.code y_Mo_row b_Mo_row 2 (some .int) ∈ gW := gmT 661 (by decide +kernel) (by decide +kernel)
theorem m_662 : Cond.methodLink R_Mo 142 y_Mo_noRow ∈ gW := gmT 662 (by decide +kernel) (by decide +kernel)
theorem m_664 : Cond.instanceMethod y_Mo_noRow ∈ gW := gmT 664 (by decide +kernel) (by decide +kernel)
theorem m_665 : Cond.code y_Mo_noRow b_Mo_noRow 2 (some .boolean) ∈ gW := gmT 665 (by decide +kernel) (by decide +kernel)
theorem m_666 : Cond.methodLink R_La 74 y_Mo_gained ∈ gW := gmT 666 (by decide +kernel) (by decide +kernel)
theorem m_667 : Cond.instanceMethod y_Mo_gained ∈ gW := gmT 667 (by decide +kernel) (by decide +kernel)
theorem m_668 : Cond.selects R_Mo y_Mo_gained y_Mo_gained ∈ gW := gmT 668 (by decide +kernel) (by decide +kernel)
theorem m_669 : Cond.code y_Mo_gained b_Mo_gained 2 (some .int) ∈ gW := gmT 669 (by decide +kernel) (by decide +kernel)
theorem m_670 : Cond.methodLink R_La 78 y_Mo_left ∈ gW := gmT 670 (by decide +kernel) (by decide +kernel)
theorem m_671 : Cond.instanceMethod y_Mo_left ∈ gW := gmT 671 (by decide +kernel) (by decide +kernel)
theorem m_672 : Cond.selects R_Mo y_Mo_left y_Mo_left ∈ gW := gmT 672 (by decide +kernel) (by decide +kernel)
theorem m_673 : Cond.code y_Mo_left b_Mo_left 1 (some .int) ∈ gW := gmT 673 (by decide +kernel) (by decide +kernel)
theorem m_674 : Cond.methodLink R_La 82 y_Mo_gain ∈ gW := gmT 674 (by decide +kernel) (by decide +kernel)
theorem m_675 : Cond.instanceMethod y_Mo_gain ∈ gW := gmT 675 (by decide +kernel) (by decide +kernel)
theorem m_676 : Cond.selects R_Mo y_Mo_gain y_Mo_gain ∈ gW := gmT 676 (by decide +kernel) (by decide +kernel)
theorem m_677 : Cond.code y_Mo_gain b_Mo_gain 2 (some .int) ∈ gW := gmT 677 (by decide +kernel) (by decide +kernel)
theorem m_678 : Cond.methodLink R_La 86 y_Mo_kind ∈ gW := gmT 678 (by decide +kernel) (by decide +kernel)
theorem m_679 : Cond.instanceMethod y_Mo_kind ∈ gW := gmT 679 (by decide +kernel) (by decide +kernel)
theorem m_680 : Cond.selects R_Mo y_Mo_kind y_Mo_kind ∈ gW := gmT 680 (by decide +kernel) (by decide +kernel)
theorem m_681 : Cond.code y_Mo_kind b_Mo_kind 2 (some .int) ∈ gW := gmT 681 (by decide +kernel) (by decide +kernel)
theorem m_682 : Cond.methodLink R_La 90 y_Mo_extendable ∈ gW := gmT 682 (by decide +kernel) (by decide +kernel)
theorem m_683 : Cond.instanceMethod y_Mo_extendable ∈ gW := gmT 683 (by decide +kernel) (by decide +kernel)
theorem m_684 : Cond.selects R_Mo y_Mo_extendable y_Mo_extendable ∈ gW := gmT 684 (by decide +kernel) (by decide +kernel)
theorem m_685 : Cond.code y_Mo_extendable b_Mo_extendable 7 (some .int) ∈ gW := gmT 685 (by decide +kernel) (by decide +kernel)
theorem m_686 : Cond.methodLink R_La 94 y_Mo_forbidden ∈ gW := gmT 686 (by decide +kernel) (by decide +kernel)
theorem m_687 : Cond.instanceMethod y_Mo_forbidden ∈ gW := gmT 687 (by decide +kernel) (by decide +kernel)
theorem m_688 : Cond.selects R_Mo y_Mo_forbidden y_Mo_forbidden ∈ gW := gmT 688 (by decide +kernel) (by decide +kernel)
theorem m_689 : Cond.code y_Mo_forbidden b_Mo_forbidden 5 (some .int) ∈ gW := gmT 689 (by decide +kernel) (by decide +kernel)
theorem m_690 : Cond.methodLink R_Mo 145 y_Mo_least ∈ gW := gmT 690 (by decide +kernel) (by decide +kernel)
theorem m_692 : Cond.instanceMethod y_Mo_least ∈ gW := gmT 692 (by decide +kernel) (by decide +kernel)
theorem m_693 : Cond.code y_Mo_least b_Mo_least 8 (some .boolean) ∈ gW := gmT 693 (by decide +kernel) (by decide +kernel)
theorem ms_Sp_sortRows : Cond.selects R_Sp y_Sp_sortRows y_Sp_sortRows ∈ gW := gmS 0 (by decide +kernel) (by decide +kernel)
theorem ms_Sp_wordWith : Cond.selects R_Sp y_Sp_wordWith y_Sp_wordWith ∈ gW := gmS 1 (by decide +kernel) (by decide +kernel)
theorem ms_Ge_countGoalsOf : Cond.selects R_Ge y_Ge_countGoalsOf y_Ge_countGoalsOf ∈ gW := gmS 2 (by decide +kernel) (by decide +kernel)
theorem ms_Ge_isGoal : Cond.selects R_Ge y_Ge_isGoal y_Ge_isGoal ∈ gW := gmS 3 (by decide +kernel) (by decide +kernel)
theorem ms_Ge_setsCoveredBy : Cond.selects R_Ge y_Ge_setsCoveredBy y_Ge_setsCoveredBy ∈ gW := gmS 4 (by decide +kernel) (by decide +kernel)
theorem ms_CR_takeSeeds : Cond.selects R_CR y_CR_takeSeeds y_CR_takeSeeds ∈ gW := gmS 5 (by decide +kernel) (by decide +kernel)
theorem ms_Sp_hasAllValues : Cond.selects R_Sp y_Sp_hasAllValues y_Sp_hasAllValues ∈ gW := gmS 6 (by decide +kernel) (by decide +kernel)
theorem ms_Ge_cover : Cond.selects R_Ge y_Ge_cover y_Ge_cover ∈ gW := gmS 7 (by decide +kernel) (by decide +kernel)
theorem ms_Ge_lowerGains : Cond.selects R_Ge y_Ge_lowerGains y_Ge_lowerGains ∈ gW := gmS 8 (by decide +kernel) (by decide +kernel)
theorem ms_Ge_bestOf : Cond.selects R_Ge y_Ge_bestOf y_Ge_bestOf ∈ gW := gmS 9 (by decide +kernel) (by decide +kernel)
theorem ms_CR_isTaken : Cond.selects R_CR y_CR_isTaken y_CR_isTaken ∈ gW := gmS 10 (by decide +kernel) (by decide +kernel)
theorem ms_Sp_isMinimalForbidden : Cond.selects R_Sp y_Sp_isMinimalForbidden y_Sp_isMinimalForbidden ∈ gW := gmS 11 (by decide +kernel) (by decide +kernel)
theorem ms_Mo_noValue : Cond.selects R_Mo y_Mo_noValue y_Mo_noValue ∈ gW := gmS 12 (by decide +kernel) (by decide +kernel)
theorem ms_Mo_size : Cond.selects R_Mo y_Mo_size y_Mo_size ∈ gW := gmS 13 (by decide +kernel) (by decide +kernel)
theorem ms_Mo_push : Cond.selects R_Mo y_Mo_push y_Mo_push ∈ gW := gmS 14 (by decide +kernel) (by decide +kernel)
theorem ms_Mo_look : Cond.selects R_Mo y_Mo_look y_Mo_look ∈ gW := gmS 15 (by decide +kernel) (by decide +kernel)
theorem ms_Mo_judge : Cond.selects R_Mo y_Mo_judge y_Mo_judge ∈ gW := gmS 16 (by decide +kernel) (by decide +kernel)
theorem ms_Mo_meets : Cond.selects R_Mo y_Mo_meets y_Mo_meets ∈ gW := gmS 17 (by decide +kernel) (by decide +kernel)
theorem ms_Mo_place : Cond.selects R_Mo y_Mo_place y_Mo_place ∈ gW := gmS 18 (by decide +kernel) (by decide +kernel)
theorem ms_Mo_asked : Cond.selects R_Mo y_Mo_asked y_Mo_asked ∈ gW := gmS 19 (by decide +kernel) (by decide +kernel)
theorem ms_Mo_wrong : Cond.selects R_Mo y_Mo_wrong y_Mo_wrong ∈ gW := gmS 20 (by decide +kernel) (by decide +kernel)
theorem ms_Mo_take : Cond.selects R_Mo y_Mo_take y_Mo_take ∈ gW := gmS 21 (by decide +kernel) (by decide +kernel)
theorem ms_Mo_count : Cond.selects R_Mo y_Mo_count y_Mo_count ∈ gW := gmS 22 (by decide +kernel) (by decide +kernel)
theorem ms_Mo_noRow : Cond.selects R_Mo y_Mo_noRow y_Mo_noRow ∈ gW := gmS 23 (by decide +kernel) (by decide +kernel)
theorem ms_Mo_least : Cond.selects R_Mo y_Mo_least y_Mo_least ∈ gW := gmS 24 (by decide +kernel) (by decide +kernel)
theorem in_NS : ∀ w ∈ u_ws R_NS F_NS 1, w ∈ gW := by
  have h : (u_ws R_NS F_NS 1).all (fun w => decide (w ∈ tables_1) && goodWord w) = true := by decide +kernel
  intro w hw
  have h1 := List.all_eq_true.mp h w hw
  simp only [Bool.and_eq_true, decide_eq_true_eq] at h1
  exact List.mem_filter.mpr ⟨List.mem_append_right _ h1.1, h1.2⟩
theorem in_Re : ∀ w ∈ u_ws R_Re F_Re 2, w ∈ gW := by
  have h : (u_ws R_Re F_Re 2).all (fun w => decide (w ∈ tables_1) && goodWord w) = true := by decide +kernel
  intro w hw
  have h1 := List.all_eq_true.mp h w hw
  simp only [Bool.and_eq_true, decide_eq_true_eq] at h1
  exact List.mem_filter.mpr ⟨List.mem_append_right _ h1.1, h1.2⟩
theorem in_Sp : ∀ w ∈ u_ws R_Sp F_Sp 7, w ∈ gW := by
  have h : (u_ws R_Sp F_Sp 7).all (fun w => decide (w ∈ tables_1) && goodWord w) = true := by decide +kernel
  intro w hw
  have h1 := List.all_eq_true.mp h w hw
  simp only [Bool.and_eq_true, decide_eq_true_eq] at h1
  exact List.mem_filter.mpr ⟨List.mem_append_right _ h1.1, h1.2⟩
theorem in_Te : ∀ w ∈ u_ws R_Te F_Te 3, w ∈ gW := by
  have h : (u_ws R_Te F_Te 3).all (fun w => decide (w ∈ tables_1) && goodWord w) = true := by decide +kernel
  intro w hw
  have h1 := List.all_eq_true.mp h w hw
  simp only [Bool.and_eq_true, decide_eq_true_eq] at h1
  exact List.mem_filter.mpr ⟨List.mem_append_right _ h1.1, h1.2⟩
theorem in_Ge : ∀ w ∈ u_ws R_Ge F_Ge 8, w ∈ gW := by
  have h : (u_ws R_Ge F_Ge 8).all (fun w => decide (w ∈ tables_1) && goodWord w) = true := by decide +kernel
  intro w hw
  have h1 := List.all_eq_true.mp h w hw
  simp only [Bool.and_eq_true, decide_eq_true_eq] at h1
  exact List.mem_filter.mpr ⟨List.mem_append_right _ h1.1, h1.2⟩
theorem in_CR : ∀ w ∈ u_ws R_CR F_CR 7, w ∈ gW := by
  have h : (u_ws R_CR F_CR 7).all (fun w => decide (w ∈ tables_1) && goodWord w) = true := by decide +kernel
  intro w hw
  have h1 := List.all_eq_true.mp h w hw
  simp only [Bool.and_eq_true, decide_eq_true_eq] at h1
  exact List.mem_filter.mpr ⟨List.mem_append_right _ h1.1, h1.2⟩
theorem in_Mo : ∀ w ∈ u_ws R_Mo F_Mo 29, w ∈ gW := by
  have h : (u_ws R_Mo F_Mo 29).all (fun w => decide (w ∈ tables_1) && goodWord w) = true := by decide +kernel
  intro w hw
  have h1 := List.all_eq_true.mp h w hw
  simp only [Bool.and_eq_true, decide_eq_true_eq] at h1
  exact List.mem_filter.mpr ⟨List.mem_append_right _ h1.1, h1.2⟩
end
section
/-! the environment of every method: class numbers, array classes, nest words, the two static tables -/
abbrev Cx : Type := va_G × (Nat → ClassId)
abbrev TY (X : Cx) : List (ClassId × FieldType) := [(X.2 0, .int), (X.2 1, .long), (X.2 2, .boolean), (X.2 3, .byte), (X.2 4, .short), (X.2 5, .object R_NS)]
def nestW : List Cond := [.methodLinkNest "CombinationRows$Space" 20 y_NS_init "CombinationRows", .fieldLinkNest "CombinationRows$NumberSet" 38 "CombinationRows" "ZERO_IN_WORD" "[J" "CombinationRows", .methodLinkNest "CombinationRows$NumberSet" 35 y_CR_valueOf "CombinationRows", .methodLinkNest "CombinationRows" 18 y_Re_init "CombinationRows", .methodLinkNest "CombinationRows$Terms" 21 y_NS_init "CombinationRows", .methodLinkNest "CombinationRows$NumberSet" 29 y_CR_nextWithin "CombinationRows", .fieldLinkNest "CombinationRows$Relations" 25 "CombinationRows" "SETS_WITH" "[J" "CombinationRows", .methodLinkNest "CombinationRows$Generation" 67 y_CR_fieldsOf "CombinationRows", .methodLinkNest "CombinationRows$Space" 76 y_CR_valueOf "CombinationRows", .methodLinkNest "CombinationRows$Generation" 82 y_CR_nextWithin "CombinationRows", .methodLinkNest "CombinationRows$Generation" 122 y_CR_valueOf "CombinationRows", .methodLinkNest "CombinationRows$Space" 93 y_CR_nextWithin "CombinationRows"]
def NW (U : State) : Prop := ∀ w ∈ nestW, va_Nw w U
theorem nest_kind : ∀ w ∈ nestW, w.onTables = true := by
  have h : nestW.all (fun w => w.onTables) = true := by decide +kernel
  exact fun w hw => List.all_eq_true.mp h w hw
theorem NW.same {u U : State} (h : u.vm = U.vm) (hn : NW u) : NW U := fun w hw => (hn w hw).same (nest_kind w hw) h
theorem NW.warm {s U : State} (hW : s.WarmedH U.vm) (h : NW s) : NW U := by
  intro w hw
  have h0 := h w hw
  simp only [nestW, List.mem_cons, List.not_mem_nil, or_false] at hw
  rcases hw with rfl | rfl | rfl | rfl | rfl | rfl | rfl | rfl | rfl | rfl | rfl | rfl <;> first | exact va_Nw.warmM hW h0 | exact va_Nw.warmF hW h0
theorem nw_0 {U : State} (h : NW U) : va_Nw (.methodLinkNest "CombinationRows$Space" 20 y_NS_init "CombinationRows") U := h _ (List.mem_of_getElem? (i := 0) rfl)
theorem nw_1 {U : State} (h : NW U) : va_Nw (.fieldLinkNest "CombinationRows$NumberSet" 38 "CombinationRows" "ZERO_IN_WORD" "[J" "CombinationRows") U := h _ (List.mem_of_getElem? (i := 1) rfl)
theorem nw_2 {U : State} (h : NW U) : va_Nw (.methodLinkNest "CombinationRows$NumberSet" 35 y_CR_valueOf "CombinationRows") U := h _ (List.mem_of_getElem? (i := 2) rfl)
theorem nw_3 {U : State} (h : NW U) : va_Nw (.methodLinkNest "CombinationRows" 18 y_Re_init "CombinationRows") U := h _ (List.mem_of_getElem? (i := 3) rfl)
theorem nw_4 {U : State} (h : NW U) : va_Nw (.methodLinkNest "CombinationRows$Terms" 21 y_NS_init "CombinationRows") U := h _ (List.mem_of_getElem? (i := 4) rfl)
theorem nw_5 {U : State} (h : NW U) : va_Nw (.methodLinkNest "CombinationRows$NumberSet" 29 y_CR_nextWithin "CombinationRows") U := h _ (List.mem_of_getElem? (i := 5) rfl)
theorem nw_6 {U : State} (h : NW U) : va_Nw (.fieldLinkNest "CombinationRows$Relations" 25 "CombinationRows" "SETS_WITH" "[J" "CombinationRows") U := h _ (List.mem_of_getElem? (i := 6) rfl)
theorem nw_7 {U : State} (h : NW U) : va_Nw (.methodLinkNest "CombinationRows$Generation" 67 y_CR_fieldsOf "CombinationRows") U := h _ (List.mem_of_getElem? (i := 7) rfl)
theorem nw_8 {U : State} (h : NW U) : va_Nw (.methodLinkNest "CombinationRows$Space" 76 y_CR_valueOf "CombinationRows") U := h _ (List.mem_of_getElem? (i := 8) rfl)
theorem nw_9 {U : State} (h : NW U) : va_Nw (.methodLinkNest "CombinationRows$Generation" 82 y_CR_nextWithin "CombinationRows") U := h _ (List.mem_of_getElem? (i := 9) rfl)
theorem nw_10 {U : State} (h : NW U) : va_Nw (.methodLinkNest "CombinationRows$Generation" 122 y_CR_valueOf "CombinationRows") U := h _ (List.mem_of_getElem? (i := 10) rfl)
theorem nw_11 {U : State} (h : NW U) : va_Nw (.methodLinkNest "CombinationRows$Space" 93 y_CR_nextWithin "CombinationRows") U := h _ (List.mem_of_getElem? (i := 11) rfl)
def zw (j : Nat) : Int64 := match j with
  | 0 => 1229782938247303441
  | 1 => 4222189076152335
  | _ => 65535
def sw (j : Nat) : Int64 := match j with
  | 0 => -6148914691236517206
  | 1 => -3689348814741910324
  | 2 => -1085102592571150096
  | 3 => -71777214294589696
  | 4 => -281470681808896
  | _ => -4294967296
def SW (A : Nat → Prop) (U : State) (H : Heap) : Prop := ∃ t1 t2 : Nat, va_Z R_CR "ZERO_IN_WORD" "[J" (.ref t1) A U H ∧ va_T .long t1 3 (fun j => .long (zw j)) A U H ∧ va_Z R_CR "SETS_WITH" "[J" (.ref t2) A U H ∧ va_T .long t2 6 (fun j => .long (sw j)) A U H
def En (X : Cx) (tys : List (ClassId × FieldType)) (A : Nat → Prop) (U : State) (H : Heap) : Prop := va_K X.1 classes tys U ∧ NW U ∧ SW A U H
theorem En.call {X : Cx} {tys : List (ClassId × FieldType)} {A B : Nat → Prop} {s U : State} {H : Heap} {locs : List Loc} (hE : En X tys A s s.heap) (hS : va_S A s.heap H locs) (hAB : ∀ q, B q → A q) (hU : U.heap = H) (hW : s.WarmedH U.vm) : En X tys B U U.heap := by
  obtain ⟨hK, hN, t1, t2, z1, a1, z2, a2⟩ := hE
  rw [hU]
  exact ⟨va_K.moved hW.alike hK, hN.warm hW, t1, t2, ((z1.kept hS.2.1).narrow hAB).moved hW.alike, ((a1.kept hS.2.1).narrow hAB).moved hW.alike, ((z2.kept hS.2.1).narrow hAB).moved hW.alike, ((a2.kept hS.2.1).narrow hAB).moved hW.alike⟩
theorem En.blind {X : Cx} {tys : List (ClassId × FieldType)} {A : Nat → Prop} {U : State} {g : JFrame} {mk : MethodId} {a : Array Value} (hE : En X tys A U U.heap) : En X tys A (U.calling g mk a) (U.calling g mk a).heap := by
  obtain ⟨hK, hN, t1, t2, z1, a1, z2, a2⟩ := hE
  exact ⟨va_K.moved (u := U) (U := U.calling g mk a) (Vm.Alike.refl U.vm) hK, hN.same (u := U) (U := U.calling g mk a) rfl, t1, t2, va_Z.moved (u := U) (U := U.calling g mk a) (Vm.Alike.refl U.vm) z1, va_T.moved (u := U) (U := U.calling g mk a) (Vm.Alike.refl U.vm) a1, va_Z.moved (u := U) (U := U.calling g mk a) (Vm.Alike.refl U.vm) z2, va_T.moved (u := U) (U := U.calling g mk a) (Vm.Alike.refl U.vm) a2⟩
/-! standard contracts -/
def Pre0 (X : Cx) (tys : List (ClassId × FieldType)) (w0 : va_W) (sz : Nat) (U : State) : Prop := U.heap.size = sz ∧ va_P X.1 classes w0 U.heap ∧ va_D (fun _ => True) w0 ∧ En X tys (va_A w0 sz) U U.heap
def Aft (X : Cx) (A : Nat → Prop) (w1 : va_W) (t : State) : Prop := va_P X.1 classes w1 t.heap ∧ va_D A w1
theorem Pre0.blind {X : Cx} {tys : List (ClassId × FieldType)} {w0 : va_W} {sz : Nat} {As : List Value} : FrameBlind (va_Pc As (Pre0 X tys w0 sz)) := fun a U g mk q => by
  obtain ⟨q0, q1, qP, qD, qE⟩ := q
  exact ⟨q0, q1, qP, qD, qE.blind⟩
theorem fm_of_map {α β : Type} {f : α → Option β} : ∀ {is : List α} {w : List β}, is.map f = w.map some → is.filterMap f = w
  | [], [], _ => rfl
  | [], _ :: _, h => by cases h
  | _ :: _, [], h => by cases h
  | i :: is, x :: w, h => by
    rw [List.map_cons, List.map_cons] at h
    obtain ⟨h1, h2⟩ := List.cons.inj h
    rw [List.filterMap_cons, h1]
    show x :: is.filterMap f = x :: w
    rw [fm_of_map h2]
theorem Pre0.of {X : Cx} {tys : List (ClassId × FieldType)} {A : Nat → Prop} {s U : State} {H : Heap} {locs : List Loc} {wc : va_W} {As : List Value} (hE : En X tys A s s.heap) (hS : va_S A s.heap H locs) (hF : ∀ q, va_A wc H.size q → A q) (hPc : va_P X.1 classes wc H) (hDc : va_D A wc) (hU : U.heap = H) (hW : s.WarmedH U.vm) : va_Pc As (Pre0 X tys wc H.size) As.toArray U :=
  ⟨rfl, by rw [hU], by rw [hU]; exact hPc, hDc.weaken (fun _ _ _ _ => trivial), hE.call hS hF hU hW⟩
def CtI (l : Launch) (X : Cx) (tys : List (ClassId × FieldType)) (y : MethodName) (cw : Cond) (rm : Room) (As : List Value) (w0 : va_W) {S : Type} (post : Int32 → S → Prop) (w1 : S → va_W) (mc ms : Nat) : Prop := ∀ sz : Nat, Met l y (cw :: gW) rm (va_Pc As (Pre0 X tys w0 sz)) (va_Qi post (fun u t => Aft X (va_A w0 sz) (w1 u) t) (va_A w0 sz)) mc ms (va_A w0 sz)
def CtL (l : Launch) (X : Cx) (tys : List (ClassId × FieldType)) (y : MethodName) (cw : Cond) (rm : Room) (As : List Value) (w0 : va_W) {S : Type} (post : Int64 → S → Prop) (w1 : S → va_W) (mc ms : Nat) : Prop := ∀ sz : Nat, Met l y (cw :: gW) rm (va_Pc As (Pre0 X tys w0 sz)) (va_Ql post (fun u t => Aft X (va_A w0 sz) (w1 u) t) (va_A w0 sz)) mc ms (va_A w0 sz)
def CtV (l : Launch) (X : Cx) (tys : List (ClassId × FieldType)) (y : MethodName) (cw : Cond) (rm : Room) (As : List Value) (w0 : va_W) {S : Type} (post : S → Prop) (w1 : S → va_W) (mc ms : Nat) : Prop := ∀ sz : Nat, Met l y (cw :: gW) rm (va_Pc As (Pre0 X tys w0 sz)) (va_Qv post (fun u t => Aft X (va_A w0 sz) (w1 u) t) (va_A w0 sz)) mc ms (va_A w0 sz)
def CtR (l : Launch) (X : Cx) (tys : List (ClassId × FieldType)) (y : MethodName) (cw : Cond) (rm : Room) (As : List Value) (w0 : va_W) {S : Type} (post : S → Prop) (ad : S → Nat) (w1 : S → va_W) (mc ms : Nat) : Prop := ∀ sz : Nat, Met l y (cw :: gW) rm (va_Pc As (Pre0 X tys w0 sz)) (va_Qr post (fun u a t => a = ad u ∧ Aft X (va_A w0 sz) (w1 u) t) (va_A w0 sz)) mc ms (va_A w0 sz)
/-- what a method's body may use -/
def Bd (p : Program) (s : State) (m : MethodId) (meth : Method) (c : Code) (cc : ByteArray) (maxL : Nat) (ret : Option FieldType) (y : MethodName) (As : List Value) (A : Nat → Prop) (w0 : va_W) (X : Cx) (tys : List (ClassId × FieldType)) : Prop :=
  p.tables.exec = Jvm.exec ∧ c.code = cc ∧ meth.sig.returnType = ret ∧ c.maxLocals = maxL ∧ s.vm.findClass y.cls = some m.cls ∧ meth.locks = false ∧ meth.name = y.name ∧ (∀ w ∈ gW, w.before As.toArray s = true) ∧ (∀ q : Nat, s.heap.size ≤ q → A q) ∧ va_D A w0 ∧ va_P X.1 classes w0 s.heap ∧ En X tys A s s.heap
theorem metI {l : Launch} {X : Cx} {tys : List (ClassId × FieldType)} {y : MethodName} {cc : ByteArray} {maxL : Nat} {ret : Option FieldType} {rm : Room} {As : List Value} {w0 : va_W} {S : Type} {post : Int32 → S → Prop} {w1 : S → va_W} {mc ms : Nat} (hy : plainName y.cls = true) (hn : (lg_sl As).length ≤ maxL)
    (body : ∀ (p : Program) (e : Env) (s : State) (m : MethodId) (below : List Frame) (meth : Method) (c : Code) (A : Nat → Prop) (ls : Array Slot), Bd p s m meth c cc maxL ret y As A w0 X tys → lv_has ls maxL (lv_args 0 As) → W p l e rm s m As.toArray below meth c s.heap [] 0 0 (MQ below (va_Qi post (fun u t => Aft X A (w1 u) t) A) As.toArray s mc ms A) (F0 m 0 ls [])) : CtI l X tys y (.code y cc maxL ret) rm As w0 post w1 mc ms := by
  intro sz
  refine Met.ofW (cc := cc) (maxL := maxL) (ret := ret) hy rfl ?_
  intro p e s m args below meth c s₁ B hml hv
  obtain ⟨rfl, hsz, hP, hD0, hE⟩ := hv
  subst hsz
  have hts := atoms_spec (ws := Cond.code y cc maxL ret :: gW) B.pre
  rw [lg_entry_eq]
  exact body p e s m below meth c (va_A w0 s.heap.size) _ ⟨B.exec, B.bytes, B.returns, hml, findClass_of_methodNamed B.named, B.notSynchronized, (name_of_methodNamed B.named B.method).1, fun w hw => hts w (List.mem_cons_of_mem _ hw), fun q h => Or.inr h, hD0.self, hP, hE⟩ (lv_entry As hn)
theorem metL {l : Launch} {X : Cx} {tys : List (ClassId × FieldType)} {y : MethodName} {cc : ByteArray} {maxL : Nat} {ret : Option FieldType} {rm : Room} {As : List Value} {w0 : va_W} {S : Type} {post : Int64 → S → Prop} {w1 : S → va_W} {mc ms : Nat} (hy : plainName y.cls = true) (hn : (lg_sl As).length ≤ maxL)
    (body : ∀ (p : Program) (e : Env) (s : State) (m : MethodId) (below : List Frame) (meth : Method) (c : Code) (A : Nat → Prop) (ls : Array Slot), Bd p s m meth c cc maxL ret y As A w0 X tys → lv_has ls maxL (lv_args 0 As) → W p l e rm s m As.toArray below meth c s.heap [] 0 0 (MQ below (va_Ql post (fun u t => Aft X A (w1 u) t) A) As.toArray s mc ms A) (F0 m 0 ls [])) : CtL l X tys y (.code y cc maxL ret) rm As w0 post w1 mc ms := by
  intro sz
  refine Met.ofW (cc := cc) (maxL := maxL) (ret := ret) hy rfl ?_
  intro p e s m args below meth c s₁ B hml hv
  obtain ⟨rfl, hsz, hP, hD0, hE⟩ := hv
  subst hsz
  have hts := atoms_spec (ws := Cond.code y cc maxL ret :: gW) B.pre
  rw [lg_entry_eq]
  exact body p e s m below meth c (va_A w0 s.heap.size) _ ⟨B.exec, B.bytes, B.returns, hml, findClass_of_methodNamed B.named, B.notSynchronized, (name_of_methodNamed B.named B.method).1, fun w hw => hts w (List.mem_cons_of_mem _ hw), fun q h => Or.inr h, hD0.self, hP, hE⟩ (lv_entry As hn)
theorem metV {l : Launch} {X : Cx} {tys : List (ClassId × FieldType)} {y : MethodName} {cc : ByteArray} {maxL : Nat} {ret : Option FieldType} {rm : Room} {As : List Value} {w0 : va_W} {S : Type} {post : S → Prop} {w1 : S → va_W} {mc ms : Nat} (hy : plainName y.cls = true) (hn : (lg_sl As).length ≤ maxL)
    (body : ∀ (p : Program) (e : Env) (s : State) (m : MethodId) (below : List Frame) (meth : Method) (c : Code) (A : Nat → Prop) (ls : Array Slot), Bd p s m meth c cc maxL ret y As A w0 X tys → lv_has ls maxL (lv_args 0 As) → W p l e rm s m As.toArray below meth c s.heap [] 0 0 (MQ below (va_Qv post (fun u t => Aft X A (w1 u) t) A) As.toArray s mc ms A) (F0 m 0 ls [])) : CtV l X tys y (.code y cc maxL ret) rm As w0 post w1 mc ms := by
  intro sz
  refine Met.ofW (cc := cc) (maxL := maxL) (ret := ret) hy rfl ?_
  intro p e s m args below meth c s₁ B hml hv
  obtain ⟨rfl, hsz, hP, hD0, hE⟩ := hv
  subst hsz
  have hts := atoms_spec (ws := Cond.code y cc maxL ret :: gW) B.pre
  rw [lg_entry_eq]
  exact body p e s m below meth c (va_A w0 s.heap.size) _ ⟨B.exec, B.bytes, B.returns, hml, findClass_of_methodNamed B.named, B.notSynchronized, (name_of_methodNamed B.named B.method).1, fun w hw => hts w (List.mem_cons_of_mem _ hw), fun q h => Or.inr h, hD0.self, hP, hE⟩ (lv_entry As hn)
theorem metR {l : Launch} {X : Cx} {tys : List (ClassId × FieldType)} {y : MethodName} {cc : ByteArray} {maxL : Nat} {ret : Option FieldType} {rm : Room} {As : List Value} {w0 : va_W} {S : Type} {post : S → Prop} {ad : S → Nat} {w1 : S → va_W} {mc ms : Nat} (hy : plainName y.cls = true) (hn : (lg_sl As).length ≤ maxL)
    (body : ∀ (p : Program) (e : Env) (s : State) (m : MethodId) (below : List Frame) (meth : Method) (c : Code) (A : Nat → Prop) (ls : Array Slot), Bd p s m meth c cc maxL ret y As A w0 X tys → lv_has ls maxL (lv_args 0 As) → W p l e rm s m As.toArray below meth c s.heap [] 0 0 (MQ below (va_Qr post (fun u a t => a = ad u ∧ Aft X A (w1 u) t) A) As.toArray s mc ms A) (F0 m 0 ls [])) : CtR l X tys y (.code y cc maxL ret) rm As w0 post ad w1 mc ms := by
  intro sz
  refine Met.ofW (cc := cc) (maxL := maxL) (ret := ret) hy rfl ?_
  intro p e s m args below meth c s₁ B hml hv
  obtain ⟨rfl, hsz, hP, hD0, hE⟩ := hv
  subst hsz
  have hts := atoms_spec (ws := Cond.code y cc maxL ret :: gW) B.pre
  rw [lg_entry_eq]
  exact body p e s m below meth c (va_A w0 s.heap.size) _ ⟨B.exec, B.bytes, B.returns, hml, findClass_of_methodNamed B.named, B.notSynchronized, (name_of_methodNamed B.named B.method).1, fun w hw => hts w (List.mem_cons_of_mem _ hw), fun q h => Or.inr h, hD0.self, hP, hE⟩ (lv_entry As hn)
section BASE
variable {p : Program} {l : Launch} {e : Env} {R : Room} {s : State} {m : MethodId} {args : Array Value} {below : List Frame} {meth : Method} {c : Code} {H : Heap} {locs : List Loc} {cells slots : Nat} {Q : State → Prop}
variable {cc : ByteArray} {pc : Nat} {ls : Array Slot} {rest st : List Value} {X : Cx} {A : Nat → Prop} {S : Type} {w1 : S → va_W} {mc ms : Nat}
theorem retI {post : Int32 → S → Prop} {v : Int32} {u : S} (hx : p.tables.exec = Jvm.exec) (hb : c.code = cc) (hr : meth.sig.returnType = some .int) (hlk : meth.locks = false) (hP : va_P X.1 classes (w1 u) H) (hD : va_D A (w1 u)) (hS : va_S A s.heap H locs) (hq : post v u) (hdg : decode cc pc = .ok (.ireturn, 1)) : W p l e R s m args below meth c H locs mc ms (MQ below (va_Qi post (fun u t => Aft X A (w1 u) t) A) args s mc ms A) (F0 m pc ls [.int v]) :=
  W.iret hx hb hr (fun t ht _ => ⟨⟨v, u, rfl, hq, by rw [ht]; exact hP, hD⟩, hS.F ht⟩) hS.2.2 hdg hlk
theorem retZ {post : Int32 → S → Prop} {v : Int32} {u : S} (hx : p.tables.exec = Jvm.exec) (hb : c.code = cc) (hr : meth.sig.returnType = some .boolean) (hlk : meth.locks = false) (hz : v = 0 ∨ v = 1) (hP : va_P X.1 classes (w1 u) H) (hD : va_D A (w1 u)) (hS : va_S A s.heap H locs) (hq : post v u) (hdg : decode cc pc = .ok (.ireturn, 1)) : W p l e R s m args below meth c H locs mc ms (MQ below (va_Qi post (fun u t => Aft X A (w1 u) t) A) args s mc ms A) (F0 m pc ls [.int v]) :=
  W.zret hx hb hr (by rcases hz with rfl | rfl <;> rfl) (fun t ht _ => ⟨⟨v, u, rfl, hq, by rw [ht]; exact hP, hD⟩, hS.F ht⟩) hS.2.2 hdg hlk
theorem retL {post : Int64 → S → Prop} {v : Int64} {u : S} (hx : p.tables.exec = Jvm.exec) (hb : c.code = cc) (hr : meth.sig.returnType = some .long) (hlk : meth.locks = false) (hP : va_P X.1 classes (w1 u) H) (hD : va_D A (w1 u)) (hS : va_S A s.heap H locs) (hq : post v u) (hdg : decode cc pc = .ok (.lreturn, 1)) : W p l e R s m args below meth c H locs mc ms (MQ below (va_Ql post (fun u t => Aft X A (w1 u) t) A) args s mc ms A) (F0 m pc ls [.long v]) :=
  W.lret hx hb hr (fun t ht _ => ⟨⟨v, u, rfl, hq, by rw [ht]; exact hP, hD⟩, hS.F ht⟩) hS.2.2 hdg hlk
theorem retV {post : S → Prop} {u : S} (hx : p.tables.exec = Jvm.exec) (hb : c.code = cc) (hr : meth.sig.returnType = none) (hlk : meth.locks = false) (hP : va_P X.1 classes (w1 u) H) (hD : va_D A (w1 u)) (hS : va_S A s.heap H locs) (hq : post u) (hdg : decode cc pc = .ok (.return_, 1)) : W p l e R s m args below meth c H locs mc ms (MQ below (va_Qv post (fun u t => Aft X A (w1 u) t) A) args s mc ms A) (F0 m pc ls []) :=
  W.vret hx hb hr (fun t ht _ => ⟨⟨u, rfl, hq, by rw [ht]; exact hP, hD⟩, hS.F ht⟩) hS.2.2 hdg hlk
theorem retR {post : S → Prop} {ad : S → Nat} {u : S} {a : Nat} {C : String} (hx : p.tables.exec = Jvm.exec) (hb : c.code = cc) (hr : meth.sig.returnType = some (.object C)) (hlk : meth.locks = false) (hP : va_P X.1 classes (w1 u) H) (hD : va_D A (w1 u)) (hS : va_S A s.heap H locs) (hq : post u) (ha : a = ad u) (hdg : decode cc pc = .ok (.areturn, 1)) : W p l e R s m args below meth c H locs mc ms (MQ below (va_Qr post (fun u a t => a = ad u ∧ Aft X A (w1 u) t) A) args s mc ms A) (F0 m pc ls [.ref a]) :=
  W.aret hx hb hr (Or.inl ⟨C, rfl⟩) (Or.inr ⟨a, rfl⟩) (fun t ht _ => ⟨⟨u, a, rfl, hq, ha, by rw [ht]; exact hP, hD⟩, hS.F ht⟩) hS.2.2 hdg hlk
theorem topI {x y : Int32} (h : x = y) (k : W p l e R s m args below meth c H locs cells slots Q (F0 m pc ls (.int y :: rest))) : W p l e R s m args below meth c H locs cells slots Q (F0 m pc ls (.int x :: rest)) := h ▸ k
theorem topL {x y : Int64} (h : x = y) (k : W p l e R s m args below meth c H locs cells slots Q (F0 m pc ls (.long y :: rest))) : W p l e R s m args below meth c H locs cells slots Q (F0 m pc ls (.long x :: rest)) := h ▸ k
theorem topR {x y : Value} (h : x = y) (k : W p l e R s m args below meth c H locs cells slots Q (F0 m pc ls (y :: rest))) : W p l e R s m args below meth c H locs cells slots Q (F0 m pc ls (x :: rest)) := h ▸ k
/-- a loop: J what holds of the state x, ws its world, lo its locals -/
theorem wLoop {nL : Nat} {σ : Type} (μ : σ → Nat) (J : σ → Prop) (ws : σ → va_W) (lo : σ → List (Nat × Value))
    (hs : ∀ (x : σ) (H : Heap) (locs : List Loc) (ls : Array Slot), J x → va_P X.1 classes (ws x) H → va_D A (ws x) → va_S A s.heap H locs → lv_has ls nL (lo x) → (∀ (y : σ) (H : Heap) (locs : List Loc) (ls : Array Slot), μ y < μ x → J y → va_P X.1 classes (ws y) H → va_D A (ws y) → va_S A s.heap H locs → lv_has ls nL (lo y) → W p l e R s m args below meth c H locs cells slots Q (F0 m pc ls [])) → W p l e R s m args below meth c H locs cells slots Q (F0 m pc ls []))
    (x : σ) (hJ : J x) (hP : va_P X.1 classes (ws x) H) (hD : va_D A (ws x)) (hS : va_S A s.heap H locs) (hl : lv_has ls nL (lo x)) : W p l e R s m args below meth c H locs cells slots Q (F0 m pc ls []) := by
  have key : ∀ (n : Nat) (x : σ) (H : Heap) (locs : List Loc) (ls : Array Slot), μ x < n → J x → va_P X.1 classes (ws x) H → va_D A (ws x) → va_S A s.heap H locs → lv_has ls nL (lo x) → W p l e R s m args below meth c H locs cells slots Q (F0 m pc ls []) := by
    intro n
    induction n with
    | zero => intro x _ _ _ h; exact absurd h (Nat.not_lt_zero _)
    | succ n ih =>
      intro x H locs ls hn hJ hP hD hS hl
      exact hs x H locs ls hJ hP hD hS hl (fun y H locs ls hy => ih y H locs ls (by omega))
  exact key (μ x + 1) x H locs ls (Nat.lt_succ_self _) hJ hP hD hS hl
/-- a place where roads join -/
theorem wCut {nL : Nat} {σ : Type} {pcJ : Nat} {g : JFrame} (J : σ → Prop) (ws : σ → va_W) (lo : σ → List (Nat × Value)) (st : σ → List Value)
    (hk : ∀ (x : σ) (H : Heap) (locs : List Loc) (ls : Array Slot), J x → va_P X.1 classes (ws x) H → va_D A (ws x) → va_S A s.heap H locs → lv_has ls nL (lo x) → W p l e R s m args below meth c H locs cells slots Q (F0 m pcJ ls (st x)))
    (body : (∀ (x : σ) (H : Heap) (locs : List Loc) (ls : Array Slot), J x → va_P X.1 classes (ws x) H → va_D A (ws x) → va_S A s.heap H locs → lv_has ls nL (lo x) → W p l e R s m args below meth c H locs cells slots Q (F0 m pcJ ls (st x))) → W p l e R s m args below meth c H locs cells slots Q g) : W p l e R s m args below meth c H locs cells slots Q g := body hk
theorem clVI {tys : List (ClassId × FieldType)} {nL maxL idx n mc ms : Nat} {own : String} {y : MethodName} {bytes : ByteArray} {ret : Option FieldType} {rm : Room} {As : List Value} {ws wc wr : va_W} {C : String} {T : u_T} {N ci : Nat} {fs : List Value} {b : Nat} {post : Int32 → S → Prop} (hx : p.tables.exec = Jvm.exec) (hb : c.code = cc) (hml : c.maxLocals = nL) (hown : s.vm.findClass own = some m.cls) (hg : ∀ w ∈ gW, w.before args s = true) (hE : En X tys A s s.heap) (hA : ∀ q : Nat, s.heap.size ≤ q → A q) (hP : va_P X.1 classes ws H) (hD : va_D A ws) (hS : va_S A s.heap H locs)
    (hM : CtI l X tys y (.code y bytes maxL ret) rm (.ref b :: As) wc post w1 mc ms) (hT : GoodIn gW (wsV own idx C y (.code y bytes maxL ret :: gW))) (hd : y.cls = C ∧ y.cls ≠ "java/lang/invoke/MethodHandle" ∧ y.cls ≠ "java/lang/invoke/VarHandle" ∧ (parseMethodDescriptor y.desc).map (fun d => d.parameters.length) = some n) (isC isR : List Nat) (hC : isC.map (fun i => ws[i]?) = wc.map some) (hR : isR.map (fun i => ws[i]?) = wr.map some) (hnC : va_nd isC = true) (hn : va_nd isR = true) (hdis : ∀ i ∈ isR, i ∉ isC) (qb : Nat) (hqb : wc[qb]? = some (b, .inr (ci, fs))) (hc : classes[ci]? = some (C, T, N)) (hlen : As.length = n) (hsz : ls.size = nL) (hroom : (rest.map fun v => v.category).sum ≤ 8) (hst0 : st = As.reverse ++ .ref b :: rest) (hdg : decode cc pc = .ok (.invokevirtual idx, 3)) (hrm : rm.cells = mc ∧ rm.slots = ms ∧ rm.frames + 1 ≤ R.frames ∧ 8 + (maxL + 11) + rm.locals ≤ R.locals) (hf : cells + mc ≤ R.cells ∧ slots + ms ≤ R.slots)
    (kk : ∀ (r : Int32) (u : S) (H1 : Heap) (locs1 : List Loc), post r u → va_P X.1 classes (wr ++ w1 u) H1 → va_D A (wr ++ w1 u) → va_S A s.heap H1 locs1 → W p l e R s m args below meth c H1 locs1 (cells + mc) (slots + ms) Q (F0 m (pc + 3) ls (.int r :: rest))) : W p l e R s m args below meth c H locs cells slots Q (F0 m pc ls st) := by
  have hPc := hP.sub (ws' := wc) isC (fm_of_map hC)
  have hFc := va_free (wc := wc) hD hS hA isC hC
  have hDc : va_D A wc := ⟨(hD.sub (ws' := wc) isC hnC hC).1, fun k q hq => hFc q.1 (va_A.in hq)⟩
  refine va_calli (va_runV (As := As) (rest := rest) ⟨hx, hb, hml, hown, hg⟩ (hM H.size) (cwV n hg hT rfl hrm.1 hrm.2.1 hd hrm.2.2) ⟨Pre0.blind, va_recv hE.1 hPc hc hqb, fun U hU hW => Pre0.of hE hS hFc hPc hDc hU hW⟩ rfl hlen hsz hst0 (lv_room hroom) hdg hf) hS (fun q _ h => hFc q h) hFc (fun r u t H1 locs1 ht hvm h5 hB hz1 hk1 hS1 => ?_)
  obtain ⟨hP1, hD1⟩ := hB
  rw [ht] at hP1
  obtain ⟨hP2, hD2⟩ := va_join (wr := wr) (w1 := w1 u) hP hD isC isR hC hR hn hdis hk1 hFc hP1 hD1
  exact kk r u H1 locs1 h5 hP2 hD2 hS1
theorem clVL {tys : List (ClassId × FieldType)} {nL maxL idx n mc ms : Nat} {own : String} {y : MethodName} {bytes : ByteArray} {ret : Option FieldType} {rm : Room} {As : List Value} {ws wc wr : va_W} {C : String} {T : u_T} {N ci : Nat} {fs : List Value} {b : Nat} {post : Int64 → S → Prop} (hx : p.tables.exec = Jvm.exec) (hb : c.code = cc) (hml : c.maxLocals = nL) (hown : s.vm.findClass own = some m.cls) (hg : ∀ w ∈ gW, w.before args s = true) (hE : En X tys A s s.heap) (hA : ∀ q : Nat, s.heap.size ≤ q → A q) (hP : va_P X.1 classes ws H) (hD : va_D A ws) (hS : va_S A s.heap H locs)
    (hM : CtL l X tys y (.code y bytes maxL ret) rm (.ref b :: As) wc post w1 mc ms) (hT : GoodIn gW (wsV own idx C y (.code y bytes maxL ret :: gW))) (hd : y.cls = C ∧ y.cls ≠ "java/lang/invoke/MethodHandle" ∧ y.cls ≠ "java/lang/invoke/VarHandle" ∧ (parseMethodDescriptor y.desc).map (fun d => d.parameters.length) = some n) (isC isR : List Nat) (hC : isC.map (fun i => ws[i]?) = wc.map some) (hR : isR.map (fun i => ws[i]?) = wr.map some) (hnC : va_nd isC = true) (hn : va_nd isR = true) (hdis : ∀ i ∈ isR, i ∉ isC) (qb : Nat) (hqb : wc[qb]? = some (b, .inr (ci, fs))) (hc : classes[ci]? = some (C, T, N)) (hlen : As.length = n) (hsz : ls.size = nL) (hroom : (rest.map fun v => v.category).sum ≤ 8) (hst0 : st = As.reverse ++ .ref b :: rest) (hdg : decode cc pc = .ok (.invokevirtual idx, 3)) (hrm : rm.cells = mc ∧ rm.slots = ms ∧ rm.frames + 1 ≤ R.frames ∧ 8 + (maxL + 11) + rm.locals ≤ R.locals) (hf : cells + mc ≤ R.cells ∧ slots + ms ≤ R.slots)
    (kk : ∀ (r : Int64) (u : S) (H1 : Heap) (locs1 : List Loc), post r u → va_P X.1 classes (wr ++ w1 u) H1 → va_D A (wr ++ w1 u) → va_S A s.heap H1 locs1 → W p l e R s m args below meth c H1 locs1 (cells + mc) (slots + ms) Q (F0 m (pc + 3) ls (.long r :: rest))) : W p l e R s m args below meth c H locs cells slots Q (F0 m pc ls st) := by
  have hPc := hP.sub (ws' := wc) isC (fm_of_map hC)
  have hFc := va_free (wc := wc) hD hS hA isC hC
  have hDc : va_D A wc := ⟨(hD.sub (ws' := wc) isC hnC hC).1, fun k q hq => hFc q.1 (va_A.in hq)⟩
  refine va_calll (va_runV (As := As) (rest := rest) ⟨hx, hb, hml, hown, hg⟩ (hM H.size) (cwV n hg hT rfl hrm.1 hrm.2.1 hd hrm.2.2) ⟨Pre0.blind, va_recv hE.1 hPc hc hqb, fun U hU hW => Pre0.of hE hS hFc hPc hDc hU hW⟩ rfl hlen hsz hst0 (lv_room hroom) hdg hf) hS (fun q _ h => hFc q h) hFc (fun r u t H1 locs1 ht hvm h5 hB hz1 hk1 hS1 => ?_)
  obtain ⟨hP1, hD1⟩ := hB
  rw [ht] at hP1
  obtain ⟨hP2, hD2⟩ := va_join (wr := wr) (w1 := w1 u) hP hD isC isR hC hR hn hdis hk1 hFc hP1 hD1
  exact kk r u H1 locs1 h5 hP2 hD2 hS1
theorem clVV {tys : List (ClassId × FieldType)} {nL maxL idx n mc ms : Nat} {own : String} {y : MethodName} {bytes : ByteArray} {ret : Option FieldType} {rm : Room} {As : List Value} {ws wc wr : va_W} {C : String} {T : u_T} {N ci : Nat} {fs : List Value} {b : Nat} {post : S → Prop} (hx : p.tables.exec = Jvm.exec) (hb : c.code = cc) (hml : c.maxLocals = nL) (hown : s.vm.findClass own = some m.cls) (hg : ∀ w ∈ gW, w.before args s = true) (hE : En X tys A s s.heap) (hA : ∀ q : Nat, s.heap.size ≤ q → A q) (hP : va_P X.1 classes ws H) (hD : va_D A ws) (hS : va_S A s.heap H locs)
    (hM : CtV l X tys y (.code y bytes maxL ret) rm (.ref b :: As) wc post w1 mc ms) (hT : GoodIn gW (wsV own idx C y (.code y bytes maxL ret :: gW))) (hd : y.cls = C ∧ y.cls ≠ "java/lang/invoke/MethodHandle" ∧ y.cls ≠ "java/lang/invoke/VarHandle" ∧ (parseMethodDescriptor y.desc).map (fun d => d.parameters.length) = some n) (isC isR : List Nat) (hC : isC.map (fun i => ws[i]?) = wc.map some) (hR : isR.map (fun i => ws[i]?) = wr.map some) (hnC : va_nd isC = true) (hn : va_nd isR = true) (hdis : ∀ i ∈ isR, i ∉ isC) (qb : Nat) (hqb : wc[qb]? = some (b, .inr (ci, fs))) (hc : classes[ci]? = some (C, T, N)) (hlen : As.length = n) (hsz : ls.size = nL) (hroom : (rest.map fun v => v.category).sum ≤ 8) (hst0 : st = As.reverse ++ .ref b :: rest) (hdg : decode cc pc = .ok (.invokevirtual idx, 3)) (hrm : rm.cells = mc ∧ rm.slots = ms ∧ rm.frames + 1 ≤ R.frames ∧ 8 + (maxL + 11) + rm.locals ≤ R.locals) (hf : cells + mc ≤ R.cells ∧ slots + ms ≤ R.slots)
    (kk : ∀ (u : S) (H1 : Heap) (locs1 : List Loc), post u → va_P X.1 classes (wr ++ w1 u) H1 → va_D A (wr ++ w1 u) → va_S A s.heap H1 locs1 → W p l e R s m args below meth c H1 locs1 (cells + mc) (slots + ms) Q (F0 m (pc + 3) ls (rest))) : W p l e R s m args below meth c H locs cells slots Q (F0 m pc ls st) := by
  have hPc := hP.sub (ws' := wc) isC (fm_of_map hC)
  have hFc := va_free (wc := wc) hD hS hA isC hC
  have hDc : va_D A wc := ⟨(hD.sub (ws' := wc) isC hnC hC).1, fun k q hq => hFc q.1 (va_A.in hq)⟩
  refine va_callv (va_runV (As := As) (rest := rest) ⟨hx, hb, hml, hown, hg⟩ (hM H.size) (cwV n hg hT rfl hrm.1 hrm.2.1 hd hrm.2.2) ⟨Pre0.blind, va_recv hE.1 hPc hc hqb, fun U hU hW => Pre0.of hE hS hFc hPc hDc hU hW⟩ rfl hlen hsz hst0 (lv_room hroom) hdg hf) hS (fun q _ h => hFc q h) hFc (fun u t H1 locs1 ht hvm h5 hB hz1 hk1 hS1 => ?_)
  obtain ⟨hP1, hD1⟩ := hB
  rw [ht] at hP1
  obtain ⟨hP2, hD2⟩ := va_join (wr := wr) (w1 := w1 u) hP hD isC isR hC hR hn hdis hk1 hFc hP1 hD1
  exact kk u H1 locs1 h5 hP2 hD2 hS1
theorem clVR {tys : List (ClassId × FieldType)} {nL maxL idx n mc ms : Nat} {own : String} {y : MethodName} {bytes : ByteArray} {ret : Option FieldType} {rm : Room} {As : List Value} {ws wc wr : va_W} {C : String} {T : u_T} {N ci : Nat} {fs : List Value} {b : Nat} {post : S → Prop} {ad : S → Nat} (hx : p.tables.exec = Jvm.exec) (hb : c.code = cc) (hml : c.maxLocals = nL) (hown : s.vm.findClass own = some m.cls) (hg : ∀ w ∈ gW, w.before args s = true) (hE : En X tys A s s.heap) (hA : ∀ q : Nat, s.heap.size ≤ q → A q) (hP : va_P X.1 classes ws H) (hD : va_D A ws) (hS : va_S A s.heap H locs)
    (hM : CtR l X tys y (.code y bytes maxL ret) rm (.ref b :: As) wc post ad w1 mc ms) (hT : GoodIn gW (wsV own idx C y (.code y bytes maxL ret :: gW))) (hd : y.cls = C ∧ y.cls ≠ "java/lang/invoke/MethodHandle" ∧ y.cls ≠ "java/lang/invoke/VarHandle" ∧ (parseMethodDescriptor y.desc).map (fun d => d.parameters.length) = some n) (isC isR : List Nat) (hC : isC.map (fun i => ws[i]?) = wc.map some) (hR : isR.map (fun i => ws[i]?) = wr.map some) (hnC : va_nd isC = true) (hn : va_nd isR = true) (hdis : ∀ i ∈ isR, i ∉ isC) (qb : Nat) (hqb : wc[qb]? = some (b, .inr (ci, fs))) (hc : classes[ci]? = some (C, T, N)) (hlen : As.length = n) (hsz : ls.size = nL) (hroom : (rest.map fun v => v.category).sum ≤ 8) (hst0 : st = As.reverse ++ .ref b :: rest) (hdg : decode cc pc = .ok (.invokevirtual idx, 3)) (hrm : rm.cells = mc ∧ rm.slots = ms ∧ rm.frames + 1 ≤ R.frames ∧ 8 + (maxL + 11) + rm.locals ≤ R.locals) (hf : cells + mc ≤ R.cells ∧ slots + ms ≤ R.slots)
    (kk : ∀ (u : S) (H1 : Heap) (locs1 : List Loc), post u → va_P X.1 classes (wr ++ w1 u) H1 → va_D A (wr ++ w1 u) → va_S A s.heap H1 locs1 → W p l e R s m args below meth c H1 locs1 (cells + mc) (slots + ms) Q (F0 m (pc + 3) ls (.ref (ad u) :: rest))) : W p l e R s m args below meth c H locs cells slots Q (F0 m pc ls st) := by
  have hPc := hP.sub (ws' := wc) isC (fm_of_map hC)
  have hFc := va_free (wc := wc) hD hS hA isC hC
  have hDc : va_D A wc := ⟨(hD.sub (ws' := wc) isC hnC hC).1, fun k q hq => hFc q.1 (va_A.in hq)⟩
  refine va_callr (va_runV (As := As) (rest := rest) ⟨hx, hb, hml, hown, hg⟩ (hM H.size) (cwV n hg hT rfl hrm.1 hrm.2.1 hd hrm.2.2) ⟨Pre0.blind, va_recv hE.1 hPc hc hqb, fun U hU hW => Pre0.of hE hS hFc hPc hDc hU hW⟩ rfl hlen hsz hst0 (lv_room hroom) hdg hf) hS (fun q _ h => hFc q h) hFc (fun u a t H1 locs1 ht hvm h5 hB hz1 hk1 hS1 => ?_)
  obtain ⟨rfl, hP1, hD1⟩ := hB
  rw [ht] at hP1
  obtain ⟨hP2, hD2⟩ := va_join (wr := wr) (w1 := w1 u) hP hD isC isR hC hR hn hdis hk1 hFc hP1 hD1
  exact kk u H1 locs1 h5 hP2 hD2 hS1
theorem clSI {tys : List (ClassId × FieldType)} {nL maxL idx n mc ms : Nat} {own : String} {y : MethodName} {bytes : ByteArray} {ret : Option FieldType} {rm : Room} {As : List Value} {ws wc wr : va_W} {post : Int32 → S → Prop} (hx : p.tables.exec = Jvm.exec) (hb : c.code = cc) (hml : c.maxLocals = nL) (hown : s.vm.findClass own = some m.cls) (hg : ∀ w ∈ gW, w.before args s = true) (hE : En X tys A s s.heap) (hA : ∀ q : Nat, s.heap.size ≤ q → A q) (hP : va_P X.1 classes ws H) (hD : va_D A ws) (hS : va_S A s.heap H locs)
    (hM : CtI l X tys y (.code y bytes maxL ret) rm As wc post w1 mc ms) (hT : GoodIn gW (va_wsS own idx y (.code y bytes maxL ret :: gW))) (hd : y.cls ≠ "java/lang/invoke/MethodHandle" ∧ y.cls ≠ "java/lang/invoke/VarHandle" ∧ (parseMethodDescriptor y.desc).map (fun d => d.parameters.length) = some n) (isC isR : List Nat) (hC : isC.map (fun i => ws[i]?) = wc.map some) (hR : isR.map (fun i => ws[i]?) = wr.map some) (hnC : va_nd isC = true) (hn : va_nd isR = true) (hdis : ∀ i ∈ isR, i ∉ isC) (hlen : As.length = n) (hsz : ls.size = nL) (hroom : (rest.map fun v => v.category).sum ≤ 8) (hst0 : st = As.reverse ++ rest) (hdg : decode cc pc = .ok (.invokestatic idx, 3)) (hrm : rm.cells = mc ∧ rm.slots = ms ∧ rm.frames + 1 ≤ R.frames ∧ 8 + (maxL + 11) + rm.locals ≤ R.locals) (hf : cells + mc ≤ R.cells ∧ slots + ms ≤ R.slots)
    (kk : ∀ (r : Int32) (u : S) (H1 : Heap) (locs1 : List Loc), post r u → va_P X.1 classes (wr ++ w1 u) H1 → va_D A (wr ++ w1 u) → va_S A s.heap H1 locs1 → W p l e R s m args below meth c H1 locs1 (cells + mc) (slots + ms) Q (F0 m (pc + 3) ls (.int r :: rest))) : W p l e R s m args below meth c H locs cells slots Q (F0 m pc ls st) := by
  have hPc := hP.sub (ws' := wc) isC (fm_of_map hC)
  have hFc := va_free (wc := wc) hD hS hA isC hC
  have hDc : va_D A wc := ⟨(hD.sub (ws' := wc) isC hnC hC).1, fun k q hq => hFc q.1 (va_A.in hq)⟩
  refine va_calli (va_runS (As := As) (rest := rest) ⟨hx, hb, hml, hown, hg⟩ (hM H.size) (va_cwS n hg hT rfl hrm.1 hrm.2.1 hd hrm.2.2) ⟨Pre0.blind, fun U hU hW => Pre0.of hE hS hFc hPc hDc hU hW⟩ rfl hlen hsz hst0 (lv_room hroom) hdg hf) hS (fun q _ h => hFc q h) hFc (fun r u t H1 locs1 ht hvm h5 hB hz1 hk1 hS1 => ?_)
  obtain ⟨hP1, hD1⟩ := hB
  rw [ht] at hP1
  obtain ⟨hP2, hD2⟩ := va_join (wr := wr) (w1 := w1 u) hP hD isC isR hC hR hn hdis hk1 hFc hP1 hD1
  exact kk r u H1 locs1 h5 hP2 hD2 hS1
theorem clSL {tys : List (ClassId × FieldType)} {nL maxL idx n mc ms : Nat} {own : String} {y : MethodName} {bytes : ByteArray} {ret : Option FieldType} {rm : Room} {As : List Value} {ws wc wr : va_W} {post : Int64 → S → Prop} (hx : p.tables.exec = Jvm.exec) (hb : c.code = cc) (hml : c.maxLocals = nL) (hown : s.vm.findClass own = some m.cls) (hg : ∀ w ∈ gW, w.before args s = true) (hE : En X tys A s s.heap) (hA : ∀ q : Nat, s.heap.size ≤ q → A q) (hP : va_P X.1 classes ws H) (hD : va_D A ws) (hS : va_S A s.heap H locs)
    (hM : CtL l X tys y (.code y bytes maxL ret) rm As wc post w1 mc ms) (hT : GoodIn gW (va_wsS own idx y (.code y bytes maxL ret :: gW))) (hd : y.cls ≠ "java/lang/invoke/MethodHandle" ∧ y.cls ≠ "java/lang/invoke/VarHandle" ∧ (parseMethodDescriptor y.desc).map (fun d => d.parameters.length) = some n) (isC isR : List Nat) (hC : isC.map (fun i => ws[i]?) = wc.map some) (hR : isR.map (fun i => ws[i]?) = wr.map some) (hnC : va_nd isC = true) (hn : va_nd isR = true) (hdis : ∀ i ∈ isR, i ∉ isC) (hlen : As.length = n) (hsz : ls.size = nL) (hroom : (rest.map fun v => v.category).sum ≤ 8) (hst0 : st = As.reverse ++ rest) (hdg : decode cc pc = .ok (.invokestatic idx, 3)) (hrm : rm.cells = mc ∧ rm.slots = ms ∧ rm.frames + 1 ≤ R.frames ∧ 8 + (maxL + 11) + rm.locals ≤ R.locals) (hf : cells + mc ≤ R.cells ∧ slots + ms ≤ R.slots)
    (kk : ∀ (r : Int64) (u : S) (H1 : Heap) (locs1 : List Loc), post r u → va_P X.1 classes (wr ++ w1 u) H1 → va_D A (wr ++ w1 u) → va_S A s.heap H1 locs1 → W p l e R s m args below meth c H1 locs1 (cells + mc) (slots + ms) Q (F0 m (pc + 3) ls (.long r :: rest))) : W p l e R s m args below meth c H locs cells slots Q (F0 m pc ls st) := by
  have hPc := hP.sub (ws' := wc) isC (fm_of_map hC)
  have hFc := va_free (wc := wc) hD hS hA isC hC
  have hDc : va_D A wc := ⟨(hD.sub (ws' := wc) isC hnC hC).1, fun k q hq => hFc q.1 (va_A.in hq)⟩
  refine va_calll (va_runS (As := As) (rest := rest) ⟨hx, hb, hml, hown, hg⟩ (hM H.size) (va_cwS n hg hT rfl hrm.1 hrm.2.1 hd hrm.2.2) ⟨Pre0.blind, fun U hU hW => Pre0.of hE hS hFc hPc hDc hU hW⟩ rfl hlen hsz hst0 (lv_room hroom) hdg hf) hS (fun q _ h => hFc q h) hFc (fun r u t H1 locs1 ht hvm h5 hB hz1 hk1 hS1 => ?_)
  obtain ⟨hP1, hD1⟩ := hB
  rw [ht] at hP1
  obtain ⟨hP2, hD2⟩ := va_join (wr := wr) (w1 := w1 u) hP hD isC isR hC hR hn hdis hk1 hFc hP1 hD1
  exact kk r u H1 locs1 h5 hP2 hD2 hS1
theorem clSV {tys : List (ClassId × FieldType)} {nL maxL idx n mc ms : Nat} {own : String} {y : MethodName} {bytes : ByteArray} {ret : Option FieldType} {rm : Room} {As : List Value} {ws wc wr : va_W} {post : S → Prop} (hx : p.tables.exec = Jvm.exec) (hb : c.code = cc) (hml : c.maxLocals = nL) (hown : s.vm.findClass own = some m.cls) (hg : ∀ w ∈ gW, w.before args s = true) (hE : En X tys A s s.heap) (hA : ∀ q : Nat, s.heap.size ≤ q → A q) (hP : va_P X.1 classes ws H) (hD : va_D A ws) (hS : va_S A s.heap H locs)
    (hM : CtV l X tys y (.code y bytes maxL ret) rm As wc post w1 mc ms) (hT : GoodIn gW (va_wsS own idx y (.code y bytes maxL ret :: gW))) (hd : y.cls ≠ "java/lang/invoke/MethodHandle" ∧ y.cls ≠ "java/lang/invoke/VarHandle" ∧ (parseMethodDescriptor y.desc).map (fun d => d.parameters.length) = some n) (isC isR : List Nat) (hC : isC.map (fun i => ws[i]?) = wc.map some) (hR : isR.map (fun i => ws[i]?) = wr.map some) (hnC : va_nd isC = true) (hn : va_nd isR = true) (hdis : ∀ i ∈ isR, i ∉ isC) (hlen : As.length = n) (hsz : ls.size = nL) (hroom : (rest.map fun v => v.category).sum ≤ 8) (hst0 : st = As.reverse ++ rest) (hdg : decode cc pc = .ok (.invokestatic idx, 3)) (hrm : rm.cells = mc ∧ rm.slots = ms ∧ rm.frames + 1 ≤ R.frames ∧ 8 + (maxL + 11) + rm.locals ≤ R.locals) (hf : cells + mc ≤ R.cells ∧ slots + ms ≤ R.slots)
    (kk : ∀ (u : S) (H1 : Heap) (locs1 : List Loc), post u → va_P X.1 classes (wr ++ w1 u) H1 → va_D A (wr ++ w1 u) → va_S A s.heap H1 locs1 → W p l e R s m args below meth c H1 locs1 (cells + mc) (slots + ms) Q (F0 m (pc + 3) ls (rest))) : W p l e R s m args below meth c H locs cells slots Q (F0 m pc ls st) := by
  have hPc := hP.sub (ws' := wc) isC (fm_of_map hC)
  have hFc := va_free (wc := wc) hD hS hA isC hC
  have hDc : va_D A wc := ⟨(hD.sub (ws' := wc) isC hnC hC).1, fun k q hq => hFc q.1 (va_A.in hq)⟩
  refine va_callv (va_runS (As := As) (rest := rest) ⟨hx, hb, hml, hown, hg⟩ (hM H.size) (va_cwS n hg hT rfl hrm.1 hrm.2.1 hd hrm.2.2) ⟨Pre0.blind, fun U hU hW => Pre0.of hE hS hFc hPc hDc hU hW⟩ rfl hlen hsz hst0 (lv_room hroom) hdg hf) hS (fun q _ h => hFc q h) hFc (fun u t H1 locs1 ht hvm h5 hB hz1 hk1 hS1 => ?_)
  obtain ⟨hP1, hD1⟩ := hB
  rw [ht] at hP1
  obtain ⟨hP2, hD2⟩ := va_join (wr := wr) (w1 := w1 u) hP hD isC isR hC hR hn hdis hk1 hFc hP1 hD1
  exact kk u H1 locs1 h5 hP2 hD2 hS1
theorem clSNI {tys : List (ClassId × FieldType)} {nL maxL idx n mc ms : Nat} {own : String} {y : MethodName} {bytes : ByteArray} {ret : Option FieldType} {rm : Room} {As : List Value} {ws wc wr : va_W} {host : String} {post : Int32 → S → Prop} (hx : p.tables.exec = Jvm.exec) (hb : c.code = cc) (hml : c.maxLocals = nL) (hown : s.vm.findClass own = some m.cls) (hg : ∀ w ∈ gW, w.before args s = true) (hE : En X tys A s s.heap) (hA : ∀ q : Nat, s.heap.size ≤ q → A q) (hP : va_P X.1 classes ws H) (hD : va_D A ws) (hS : va_S A s.heap H locs)
    (hM : CtI l X tys y (.code y bytes maxL ret) rm As wc post w1 mc ms) (hT : Cond.code y bytes maxL ret ∈ gW) (hst : Cond.static y ∈ gW) (hini : Cond.initialized y.cls ∈ gW) (hl : va_Nw (.methodLinkNest own idx y host) s) (hd : y.cls ≠ "java/lang/invoke/MethodHandle" ∧ y.cls ≠ "java/lang/invoke/VarHandle" ∧ (parseMethodDescriptor y.desc).map (fun d => d.parameters.length) = some n) (isC isR : List Nat) (hC : isC.map (fun i => ws[i]?) = wc.map some) (hR : isR.map (fun i => ws[i]?) = wr.map some) (hnC : va_nd isC = true) (hn : va_nd isR = true) (hdis : ∀ i ∈ isR, i ∉ isC) (hlen : As.length = n) (hsz : ls.size = nL) (hroom : (rest.map fun v => v.category).sum ≤ 8) (hst0 : st = As.reverse ++ rest) (hdg : decode cc pc = .ok (.invokestatic idx, 3)) (hrm : rm.cells = mc ∧ rm.slots = ms ∧ rm.frames + 1 ≤ R.frames ∧ 8 + (maxL + 11) + rm.locals ≤ R.locals) (hf : cells + mc ≤ R.cells ∧ slots + ms ≤ R.slots)
    (kk : ∀ (r : Int32) (u : S) (H1 : Heap) (locs1 : List Loc), post r u → va_P X.1 classes (wr ++ w1 u) H1 → va_D A (wr ++ w1 u) → va_S A s.heap H1 locs1 → W p l e R s m args below meth c H1 locs1 (cells + mc) (slots + ms) Q (F0 m (pc + 3) ls (.int r :: rest))) : W p l e R s m args below meth c H locs cells slots Q (F0 m pc ls st) := by
  have hPc := hP.sub (ws' := wc) isC (fm_of_map hC)
  have hFc := va_free (wc := wc) hD hS hA isC hC
  have hDc : va_D A wc := ⟨(hD.sub (ws' := wc) isC hnC hC).1, fun k q hq => hFc q.1 (va_A.in hq)⟩
  refine va_calli (va_runSN (As := As) (rest := rest) ⟨hx, hb, hml, hown, hg⟩ (hM H.size) ⟨va_cnB n hg (gcons hT gG) rfl hrm.1 hrm.2.1 hl (hg _ hini) hd hrm.2.2, hg _ hst, trivial⟩ ⟨Pre0.blind, fun U hU hW => Pre0.of hE hS hFc hPc hDc hU hW⟩ rfl hlen hsz hst0 (lv_room hroom) hdg hf) hS (fun q _ h => hFc q h) hFc (fun r u t H1 locs1 ht hvm h5 hB hz1 hk1 hS1 => ?_)
  obtain ⟨hP1, hD1⟩ := hB
  rw [ht] at hP1
  obtain ⟨hP2, hD2⟩ := va_join (wr := wr) (w1 := w1 u) hP hD isC isR hC hR hn hdis hk1 hFc hP1 hD1
  exact kk r u H1 locs1 h5 hP2 hD2 hS1
theorem clSNL {tys : List (ClassId × FieldType)} {nL maxL idx n mc ms : Nat} {own : String} {y : MethodName} {bytes : ByteArray} {ret : Option FieldType} {rm : Room} {As : List Value} {ws wc wr : va_W} {host : String} {post : Int64 → S → Prop} (hx : p.tables.exec = Jvm.exec) (hb : c.code = cc) (hml : c.maxLocals = nL) (hown : s.vm.findClass own = some m.cls) (hg : ∀ w ∈ gW, w.before args s = true) (hE : En X tys A s s.heap) (hA : ∀ q : Nat, s.heap.size ≤ q → A q) (hP : va_P X.1 classes ws H) (hD : va_D A ws) (hS : va_S A s.heap H locs)
    (hM : CtL l X tys y (.code y bytes maxL ret) rm As wc post w1 mc ms) (hT : Cond.code y bytes maxL ret ∈ gW) (hst : Cond.static y ∈ gW) (hini : Cond.initialized y.cls ∈ gW) (hl : va_Nw (.methodLinkNest own idx y host) s) (hd : y.cls ≠ "java/lang/invoke/MethodHandle" ∧ y.cls ≠ "java/lang/invoke/VarHandle" ∧ (parseMethodDescriptor y.desc).map (fun d => d.parameters.length) = some n) (isC isR : List Nat) (hC : isC.map (fun i => ws[i]?) = wc.map some) (hR : isR.map (fun i => ws[i]?) = wr.map some) (hnC : va_nd isC = true) (hn : va_nd isR = true) (hdis : ∀ i ∈ isR, i ∉ isC) (hlen : As.length = n) (hsz : ls.size = nL) (hroom : (rest.map fun v => v.category).sum ≤ 8) (hst0 : st = As.reverse ++ rest) (hdg : decode cc pc = .ok (.invokestatic idx, 3)) (hrm : rm.cells = mc ∧ rm.slots = ms ∧ rm.frames + 1 ≤ R.frames ∧ 8 + (maxL + 11) + rm.locals ≤ R.locals) (hf : cells + mc ≤ R.cells ∧ slots + ms ≤ R.slots)
    (kk : ∀ (r : Int64) (u : S) (H1 : Heap) (locs1 : List Loc), post r u → va_P X.1 classes (wr ++ w1 u) H1 → va_D A (wr ++ w1 u) → va_S A s.heap H1 locs1 → W p l e R s m args below meth c H1 locs1 (cells + mc) (slots + ms) Q (F0 m (pc + 3) ls (.long r :: rest))) : W p l e R s m args below meth c H locs cells slots Q (F0 m pc ls st) := by
  have hPc := hP.sub (ws' := wc) isC (fm_of_map hC)
  have hFc := va_free (wc := wc) hD hS hA isC hC
  have hDc : va_D A wc := ⟨(hD.sub (ws' := wc) isC hnC hC).1, fun k q hq => hFc q.1 (va_A.in hq)⟩
  refine va_calll (va_runSN (As := As) (rest := rest) ⟨hx, hb, hml, hown, hg⟩ (hM H.size) ⟨va_cnB n hg (gcons hT gG) rfl hrm.1 hrm.2.1 hl (hg _ hini) hd hrm.2.2, hg _ hst, trivial⟩ ⟨Pre0.blind, fun U hU hW => Pre0.of hE hS hFc hPc hDc hU hW⟩ rfl hlen hsz hst0 (lv_room hroom) hdg hf) hS (fun q _ h => hFc q h) hFc (fun r u t H1 locs1 ht hvm h5 hB hz1 hk1 hS1 => ?_)
  obtain ⟨hP1, hD1⟩ := hB
  rw [ht] at hP1
  obtain ⟨hP2, hD2⟩ := va_join (wr := wr) (w1 := w1 u) hP hD isC isR hC hR hn hdis hk1 hFc hP1 hD1
  exact kk r u H1 locs1 h5 hP2 hD2 hS1
theorem clSNV {tys : List (ClassId × FieldType)} {nL maxL idx n mc ms : Nat} {own : String} {y : MethodName} {bytes : ByteArray} {ret : Option FieldType} {rm : Room} {As : List Value} {ws wc wr : va_W} {host : String} {post : S → Prop} (hx : p.tables.exec = Jvm.exec) (hb : c.code = cc) (hml : c.maxLocals = nL) (hown : s.vm.findClass own = some m.cls) (hg : ∀ w ∈ gW, w.before args s = true) (hE : En X tys A s s.heap) (hA : ∀ q : Nat, s.heap.size ≤ q → A q) (hP : va_P X.1 classes ws H) (hD : va_D A ws) (hS : va_S A s.heap H locs)
    (hM : CtV l X tys y (.code y bytes maxL ret) rm As wc post w1 mc ms) (hT : Cond.code y bytes maxL ret ∈ gW) (hst : Cond.static y ∈ gW) (hini : Cond.initialized y.cls ∈ gW) (hl : va_Nw (.methodLinkNest own idx y host) s) (hd : y.cls ≠ "java/lang/invoke/MethodHandle" ∧ y.cls ≠ "java/lang/invoke/VarHandle" ∧ (parseMethodDescriptor y.desc).map (fun d => d.parameters.length) = some n) (isC isR : List Nat) (hC : isC.map (fun i => ws[i]?) = wc.map some) (hR : isR.map (fun i => ws[i]?) = wr.map some) (hnC : va_nd isC = true) (hn : va_nd isR = true) (hdis : ∀ i ∈ isR, i ∉ isC) (hlen : As.length = n) (hsz : ls.size = nL) (hroom : (rest.map fun v => v.category).sum ≤ 8) (hst0 : st = As.reverse ++ rest) (hdg : decode cc pc = .ok (.invokestatic idx, 3)) (hrm : rm.cells = mc ∧ rm.slots = ms ∧ rm.frames + 1 ≤ R.frames ∧ 8 + (maxL + 11) + rm.locals ≤ R.locals) (hf : cells + mc ≤ R.cells ∧ slots + ms ≤ R.slots)
    (kk : ∀ (u : S) (H1 : Heap) (locs1 : List Loc), post u → va_P X.1 classes (wr ++ w1 u) H1 → va_D A (wr ++ w1 u) → va_S A s.heap H1 locs1 → W p l e R s m args below meth c H1 locs1 (cells + mc) (slots + ms) Q (F0 m (pc + 3) ls (rest))) : W p l e R s m args below meth c H locs cells slots Q (F0 m pc ls st) := by
  have hPc := hP.sub (ws' := wc) isC (fm_of_map hC)
  have hFc := va_free (wc := wc) hD hS hA isC hC
  have hDc : va_D A wc := ⟨(hD.sub (ws' := wc) isC hnC hC).1, fun k q hq => hFc q.1 (va_A.in hq)⟩
  refine va_callv (va_runSN (As := As) (rest := rest) ⟨hx, hb, hml, hown, hg⟩ (hM H.size) ⟨va_cnB n hg (gcons hT gG) rfl hrm.1 hrm.2.1 hl (hg _ hini) hd hrm.2.2, hg _ hst, trivial⟩ ⟨Pre0.blind, fun U hU hW => Pre0.of hE hS hFc hPc hDc hU hW⟩ rfl hlen hsz hst0 (lv_room hroom) hdg hf) hS (fun q _ h => hFc q h) hFc (fun u t H1 locs1 ht hvm h5 hB hz1 hk1 hS1 => ?_)
  obtain ⟨hP1, hD1⟩ := hB
  rw [ht] at hP1
  obtain ⟨hP2, hD2⟩ := va_join (wr := wr) (w1 := w1 u) hP hD isC isR hC hR hn hdis hk1 hFc hP1 hD1
  exact kk u H1 locs1 h5 hP2 hD2 hS1
theorem clIV {tys : List (ClassId × FieldType)} {nL maxL idx n mc ms : Nat} {own : String} {y : MethodName} {bytes : ByteArray} {ret : Option FieldType} {rm : Room} {As : List Value} {ws wc wr : va_W} {b : Nat} {post : S → Prop} (hx : p.tables.exec = Jvm.exec) (hb : c.code = cc) (hml : c.maxLocals = nL) (hown : s.vm.findClass own = some m.cls) (hg : ∀ w ∈ gW, w.before args s = true) (hE : En X tys A s s.heap) (hA : ∀ q : Nat, s.heap.size ≤ q → A q) (hP : va_P X.1 classes ws H) (hD : va_D A ws) (hS : va_S A s.heap H locs)
    (hM : CtV l X tys y (.code y bytes maxL none) rm (.ref b :: As) wc post w1 mc ms) (hT : Cond.code y bytes maxL none ∈ gW) (hini : Cond.initialized y.cls ∈ gW) (hl : Cond.methodLink own idx y ∈ gW) (him : Cond.instanceMethod y ∈ gW) (hy1 : y.name = "<init>") (hd : y.cls ≠ "java/lang/invoke/MethodHandle" ∧ y.cls ≠ "java/lang/invoke/VarHandle" ∧ (parseMethodDescriptor y.desc).map (fun d => d.parameters.length) = some n) (isC isR : List Nat) (hC : isC.map (fun i => ws[i]?) = wc.map some) (hR : isR.map (fun i => ws[i]?) = wr.map some) (hnC : va_nd isC = true) (hn : va_nd isR = true) (hdis : ∀ i ∈ isR, i ∉ isC) (hlen : As.length = n) (hsz : ls.size = nL) (hroom : (rest.map fun v => v.category).sum ≤ 8) (hst0 : st = As.reverse ++ .ref b :: rest) (hdg : decode cc pc = .ok (.invokespecial idx, 3)) (hrm : rm.cells = mc ∧ rm.slots = ms ∧ rm.frames + 1 ≤ R.frames ∧ 8 + (maxL + 11) + rm.locals ≤ R.locals) (hf : cells + mc ≤ R.cells ∧ slots + ms ≤ R.slots)
    (kk : ∀ (u : S) (H1 : Heap) (locs1 : List Loc), post u → va_P X.1 classes (wr ++ w1 u) H1 → va_D A (wr ++ w1 u) → va_S A s.heap H1 locs1 → W p l e R s m args below meth c H1 locs1 (cells + mc) (slots + ms) Q (F0 m (pc + 3) ls (rest))) : W p l e R s m args below meth c H locs cells slots Q (F0 m pc ls st) := by
  have hPc := hP.sub (ws' := wc) isC (fm_of_map hC)
  have hFc := va_free (wc := wc) hD hS hA isC hC
  have hDc : va_D A wc := ⟨(hD.sub (ws' := wc) isC hnC hC).1, fun k q hq => hFc q.1 (va_A.in hq)⟩
  refine va_callv (va_runI (As := As) (rest := rest) ⟨hx, hb, hml, hown, hg⟩ (hM H.size) (cwI n hg (gcons hT gG) rfl hrm.1 hrm.2.1 (hg _ hini) (hg _ hl) (hg _ him) hy1 hd hrm.2.2) ⟨Pre0.blind, fun U hU hW => Pre0.of hE hS hFc hPc hDc hU hW⟩ rfl hlen hsz hst0 (lv_room hroom) hdg hf) hS (fun q _ h => hFc q h) hFc (fun u t H1 locs1 ht hvm h5 hB hz1 hk1 hS1 => ?_)
  obtain ⟨hP1, hD1⟩ := hB
  rw [ht] at hP1
  obtain ⟨hP2, hD2⟩ := va_join (wr := wr) (w1 := w1 u) hP hD isC isR hC hR hn hdis hk1 hFc hP1 hD1
  exact kk u H1 locs1 h5 hP2 hD2 hS1
theorem clINV {tys : List (ClassId × FieldType)} {nL maxL idx n mc ms : Nat} {own : String} {y : MethodName} {bytes : ByteArray} {ret : Option FieldType} {rm : Room} {As : List Value} {ws wc wr : va_W} {host : String} {b : Nat} {post : S → Prop} (hx : p.tables.exec = Jvm.exec) (hb : c.code = cc) (hml : c.maxLocals = nL) (hown : s.vm.findClass own = some m.cls) (hg : ∀ w ∈ gW, w.before args s = true) (hE : En X tys A s s.heap) (hA : ∀ q : Nat, s.heap.size ≤ q → A q) (hP : va_P X.1 classes ws H) (hD : va_D A ws) (hS : va_S A s.heap H locs)
    (hM : CtV l X tys y (.code y bytes maxL none) rm (.ref b :: As) wc post w1 mc ms) (hT : Cond.code y bytes maxL none ∈ gW) (hini : Cond.initialized y.cls ∈ gW) (hl : va_Nw (.methodLinkNest own idx y host) s) (him : Cond.instanceMethod y ∈ gW) (hy1 : y.name = "<init>") (hd : y.cls ≠ "java/lang/invoke/MethodHandle" ∧ y.cls ≠ "java/lang/invoke/VarHandle" ∧ (parseMethodDescriptor y.desc).map (fun d => d.parameters.length) = some n) (isC isR : List Nat) (hC : isC.map (fun i => ws[i]?) = wc.map some) (hR : isR.map (fun i => ws[i]?) = wr.map some) (hnC : va_nd isC = true) (hn : va_nd isR = true) (hdis : ∀ i ∈ isR, i ∉ isC) (hlen : As.length = n) (hsz : ls.size = nL) (hroom : (rest.map fun v => v.category).sum ≤ 8) (hst0 : st = As.reverse ++ .ref b :: rest) (hdg : decode cc pc = .ok (.invokespecial idx, 3)) (hrm : rm.cells = mc ∧ rm.slots = ms ∧ rm.frames + 1 ≤ R.frames ∧ 8 + (maxL + 11) + rm.locals ≤ R.locals) (hf : cells + mc ≤ R.cells ∧ slots + ms ≤ R.slots)
    (kk : ∀ (u : S) (H1 : Heap) (locs1 : List Loc), post u → va_P X.1 classes (wr ++ w1 u) H1 → va_D A (wr ++ w1 u) → va_S A s.heap H1 locs1 → W p l e R s m args below meth c H1 locs1 (cells + mc) (slots + ms) Q (F0 m (pc + 3) ls (rest))) : W p l e R s m args below meth c H locs cells slots Q (F0 m pc ls st) := by
  have hPc := hP.sub (ws' := wc) isC (fm_of_map hC)
  have hFc := va_free (wc := wc) hD hS hA isC hC
  have hDc : va_D A wc := ⟨(hD.sub (ws' := wc) isC hnC hC).1, fun k q hq => hFc q.1 (va_A.in hq)⟩
  refine va_callv (va_runIN (As := As) (rest := rest) ⟨hx, hb, hml, hown, hg⟩ (hM H.size) ⟨va_cnB n hg (gcons hT gG) rfl hrm.1 hrm.2.1 hl (hg _ hini) hd hrm.2.2, hy1, hg _ him⟩ ⟨Pre0.blind, fun U hU hW => Pre0.of hE hS hFc hPc hDc hU hW⟩ rfl hlen hsz hst0 (lv_room hroom) hdg hf) hS (fun q _ h => hFc q h) hFc (fun u t H1 locs1 ht hvm h5 hB hz1 hk1 hS1 => ?_)
  obtain ⟨hP1, hD1⟩ := hB
  rw [ht] at hP1
  obtain ⟨hP2, hD2⟩ := va_join (wr := wr) (w1 := w1 u) hP hD isC isR hC hR hn hdis hk1 hFc hP1 hD1
  exact kk u H1 locs1 h5 hP2 hD2 hS1
end BASE
end
